def RS (B : Nat) (sense : Nat → Int32) (S : Nat → Bool) : Prop := ∀ b, b < B → sense b = b2 (S b)
theorem RS_upd {B : Nat} {sense : Nat → Int32} {S : Nat → Bool} (h : RS B sense S) (b : Nat) (v : Bool) : RS B (upd sense b (b2 v)) (updS S b v) := by
  intro c hc
  by_cases e : c = b
  · subst e; rw [upd_s]; simp [updS]
  · rw [upd_n e, h c hc]; simp [updS, e]
theorem shl_bit : ∀ b, b < 31 → (1 : Int32) <<< (nI b &&& 31) = nI (2 ^ b) := by decide +kernel
theorem wrN_congr {x y t : Nat → Bool} : ∀ B, (∀ b, b < B → x b = y b) → wrN x t B = wrN y t B
  | 0, _ => rfl
  | b + 1, h => by
    unfold wrN
    rw [wrN_congr b (fun c hc => h c (by omega)), h b (by omega)]
section RFC
variable {W B : Nat} {F : FL} {cnt : Int32} {kinds victims others : Nat → Int32}
set_option maxHeartbeats 4000000 in
theorem r_cell (hW : W ≤ 16) (hB : B ≤ 4) (hF : FLok W B F) (hM : FM B F cnt kinds victims others) {cells sense : Nat → Int32} {M : Mem} {S : Nat → Bool} (hR : RC W B cells M) (hS : RS B sense S) {w b : Nat} (hw : w < W) (hb : b < B) (v : Bool) {g : Nat} (hg : g ≤ 3) {x3 : Int32} (rec5 : ((Nat → Int32) × (Nat → Int32) × Int32 × Int32) → Option (Int32 × (Nat → Int32) × (Nat → Int32))) :
    ∃ cells', lp (g_RF_check_37 4 4 64 4 4 cnt (nI g) victims kinds others sense (nI w) (b2 v) x3 (nI b) (nI (B * w + b)) rec5) 100000 (cells, cells (B * w + b), 0) = rec5 (cells', upd sense b (b2 (readN F w b (S b) M F.n).2), (if (readN F w b (S b) M F.n).2 = (v != gr g w b) then x3 else x3 ||| nI (2 ^ b)), nI (b + 1)) ∧ RC W B cells' (readN F w b (S b) M F.n).1 := by
  obtain ⟨hn, hf⟩ := id hF
  have hM' := hM
  obtain ⟨rfl, hm⟩ := hM
  have hix := ix_lt hW hB hw hb
  have hsb := hS b hb
  refine lp_Q (I := fun i s => s.2.2 = nI i ∧ RC W B s.1 (readN F w b (S b) M i).1 ∧ s.2.1 = b2 (readN F w b (S b) M i).2) F.n (fun r => ∃ cells', r = rec5 (cells', upd sense b (b2 (readN F w b (S b) M F.n).2), (if (readN F w b (S b) M F.n).2 = (v != gr g w b) then x3 else x3 ||| nI (2 ^ b)), nI (b + 1)) ∧ RC W B cells' (readN F w b (S b) M F.n).1) ?_ ?_ 100000 0 _ (by omega) (by omega) ⟨rfl, hR, hR w b hw hb⟩
  · rintro i ⟨c, y, x⟩ rec hi ⟨hx, hc, hy⟩
    dsimp only at hx hc hy
    subst hx hy
    obtain ⟨k1, k2, k3, k4⟩ := hf i hi
    obtain ⟨m1, m2, m3⟩ := hm i hi
    left
    have hv := ix_lt hW hB k2 k3
    have e1 : readN F w b (S b) M (i + 1) = read1 F w b (S b) i (readN F w b (S b) M i) := rfl
    rw [e1]
    generalize readN F w b (S b) M i = q at hc ⊢
    obtain ⟨M1, y⟩ := q
    dsimp only at hc ⊢
    unfold g_RF_check_37 f_RF_check_86 f_RF_check_115 f_RF_check_133 f_RF_check_138 f_RF_check_168 f_RF_check_194 f_RF_check_228 f_RF_check_233 read1
    have hni := Nat.not_le.mpr hi
    have hcw := hc w b hw hb
    by_cases hk13 : F.kd i = 13
    · obtain ⟨a1, a2, a3⟩ := k4 (by omega)
      have hv2 := ix_lt hW hB a1 a2
      rw [if_pos (by omega)] at m3
      have hca := hc _ _ a1 a2
      have hcv := hc _ _ k2 k3
      by_cases he : F.vw i = w ∧ F.vb i = b
      · have he2 : (B * F.vw i + F.vb i = B * w + b) = True := eq_true ((ix_inj k3 hb).mpr he)
        cases hz : M1 (F.aw i) (F.ab i)
        · refine ⟨(c, b2 false, nI (i + 1)), ⟨rfl, by simp [hk13, he, hc], by simp [hk13, he, hz]⟩, ?_⟩
          simp +decide (disch := first | omega | decide) only [↓reduceIte, Option.bind_some, nI_clamp, inB_nI, inB_z, cl_z, nI_eqL, nI_leL, nI_ltL, nI_geL, nI_gtL, nI_leI, nI_ltI, nI_eq, nI_1, nI_addL, nI_add, m1, m2, m3, hk13, he2, hni, hca, hz, b2_0]
          rfl
        · refine ⟨(c, b2 y, nI (i + 1)), ⟨rfl, by simp [hk13, he, hc], by simp [hk13, he, hz]⟩, ?_⟩
          simp +decide (disch := first | omega | decide) only [↓reduceIte, Option.bind_some, nI_clamp, inB_nI, inB_z, cl_z, nI_eqL, nI_leL, nI_ltL, nI_geL, nI_gtL, nI_leI, nI_ltI, nI_eq, nI_1, nI_addL, nI_add, m1, m2, m3, hk13, he2, hni, hca, hz, b2_0, Bool.true_eq_false]
      · have he2 : (B * F.vw i + F.vb i = B * w + b) = False := eq_false (fun q => he ((ix_inj k3 hb).mp q))
        by_cases ho : F.aw i = w ∧ F.ab i = b
        · have ho2 : (B * F.aw i + F.ab i = B * w + b) = True := eq_true ((ix_inj a2 hb).mpr ho)
          cases hz : M1 (F.vw i) (F.vb i)
          · refine ⟨(c, b2 false, nI (i + 1)), ⟨rfl, ?_, ?_⟩, ?_⟩
            · rw [if_pos hk13, if_neg he, if_pos ho]; exact hc
            · rw [if_pos hk13, if_neg he, if_pos ho]; simp [hz]
            · simp +decide (disch := first | omega | decide) only [↓reduceIte, Option.bind_some, nI_clamp, inB_nI, inB_z, cl_z, nI_eqL, nI_leL, nI_ltL, nI_geL, nI_gtL, nI_leI, nI_ltI, nI_eq, nI_1, nI_addL, nI_add, m1, m2, m3, hk13, he2, ho2, hni, hcv, hz, b2_0]
              rfl
          · refine ⟨(c, b2 y, nI (i + 1)), ⟨rfl, ?_, ?_⟩, ?_⟩
            · rw [if_pos hk13, if_neg he, if_pos ho]; exact hc
            · rw [if_pos hk13, if_neg he, if_pos ho]; simp [hz]
            · simp +decide (disch := first | omega | decide) only [↓reduceIte, Option.bind_some, nI_clamp, inB_nI, inB_z, cl_z, nI_eqL, nI_leL, nI_ltL, nI_geL, nI_gtL, nI_leI, nI_ltI, nI_eq, nI_1, nI_addL, nI_add, m1, m2, m3, hk13, he2, ho2, hni, hcv, hz, b2_0, Bool.true_eq_false]
        · have ho2 : (B * F.aw i + F.ab i = B * w + b) = False := eq_false (fun q => ho ((ix_inj a2 hb).mp q))
          refine ⟨(c, b2 y, nI (i + 1)), ⟨rfl, ?_, ?_⟩, ?_⟩
          · rw [if_pos hk13, if_neg he, if_neg ho]; exact hc
          · rw [if_pos hk13, if_neg he, if_neg ho]
          · simp +decide (disch := first | omega | decide) only [↓reduceIte, Option.bind_some, nI_clamp, inB_nI, inB_z, cl_z, nI_eqL, nI_leL, nI_ltL, nI_geL, nI_gtL, nI_leI, nI_ltI, nI_eq, nI_1, nI_addL, nI_add, m1, m2, m3, hk13, he2, ho2, hni]
    · by_cases he : F.vw i = w ∧ F.vb i = b
      · have he2 : (B * F.vw i + F.vb i = B * w + b) = True := eq_true ((ix_inj k3 hb).mpr he)
        obtain ⟨c', h1, h2⟩ := r_set hW hB hF hM' hc hw hb (!M1 w b)
        have hc'w := h2 w b hw hb
        rw [setM_at hF] at hc'w
        rw [if_neg hk13, if_pos he]
        have hk : F.kd i = 4 ∨ F.kd i = 6 ∨ F.kd i = 7 ∨ F.kd i = 8 ∨ (F.kd i ≠ 4 ∧ F.kd i ≠ 6 ∧ F.kd i ≠ 7 ∧ F.kd i ≠ 8) := by omega
        rcases hk with hk | hk | hk | hk | ⟨q1, q2, q3, q4⟩
        · refine ⟨(c, b2 (S b), nI (i + 1)), ⟨rfl, by simp [hk, hc], by simp [hk]⟩, ?_⟩
          simp +decide (disch := first | omega | decide) only [↓reduceIte, Option.bind_some, nI_clamp, inB_nI, inB_z, cl_z, nI_eqL, nI_leL, nI_ltL, nI_geL, nI_gtL, nI_leI, nI_ltI, nI_eq, nI_1, nI_addL, nI_add, m1, m2, hk, he2, hni, hsb]
        · refine ⟨(c', b2 (!M1 w b), nI (i + 1)), ⟨rfl, by simp [hk, h2], by simp [hk]⟩, ?_⟩
          simp +decide (disch := first | omega | decide) only [↓reduceIte, Option.bind_some, nI_clamp, inB_nI, inB_z, cl_z, nI_eqL, nI_leL, nI_ltL, nI_geL, nI_gtL, nI_leI, nI_ltI, nI_eq, nI_1, nI_addL, nI_add, m1, m2, hk, he2, hni, hcw, b2_n, h1, hc'w]
        · refine ⟨(c', b2 y, nI (i + 1)), ⟨rfl, by simp [hk, h2], by simp [hk]⟩, ?_⟩
          simp +decide (disch := first | omega | decide) only [↓reduceIte, Option.bind_some, nI_clamp, inB_nI, inB_z, cl_z, nI_eqL, nI_leL, nI_ltL, nI_geL, nI_gtL, nI_leI, nI_ltI, nI_eq, nI_1, nI_addL, nI_add, m1, m2, hk, he2, hni, hcw, b2_n, h1]
        · refine ⟨(c, b2 (!y), nI (i + 1)), ⟨rfl, by simp [hk, hc], by simp [hk]⟩, ?_⟩
          simp +decide (disch := first | omega | decide) only [↓reduceIte, Option.bind_some, nI_clamp, inB_nI, inB_z, cl_z, nI_eqL, nI_leL, nI_ltL, nI_geL, nI_gtL, nI_leI, nI_ltI, nI_eq, nI_1, nI_addL, nI_add, m1, m2, hk, he2, hni, b2_n]
        · refine ⟨(c, b2 y, nI (i + 1)), ⟨rfl, by simp [q1, q2, q3, q4, hc], by simp [q1, q2, q3, q4]⟩, ?_⟩
          simp +decide (disch := first | omega | decide) only [↓reduceIte, Option.bind_some, nI_clamp, inB_nI, inB_z, cl_z, nI_eqL, nI_leL, nI_ltL, nI_geL, nI_gtL, nI_leI, nI_ltI, nI_eq, nI_1, nI_addL, nI_add, m1, m2, hk13, q1, q2, q3, q4, he2, hni]
      · have he2 : (B * F.vw i + F.vb i = B * w + b) = False := eq_false (fun q => he ((ix_inj k3 hb).mp q))
        rw [if_neg hk13, if_neg he]
        refine ⟨(c, b2 y, nI (i + 1)), ⟨rfl, hc, rfl⟩, ?_⟩
        simp +decide (disch := first | omega | decide) only [↓reduceIte, Option.bind_some, nI_clamp, inB_nI, inB_z, cl_z, nI_eqL, nI_leL, nI_ltL, nI_geL, nI_gtL, nI_leI, nI_ltI, nI_eq, nI_1, nI_addL, nI_add, m1, m2, hk13, he2, hni]
  · rintro ⟨c, y, x⟩ rec ⟨hx, hc, hy⟩
    dsimp only at hx hc hy
    subst hx hy
    refine ⟨c, ?_, hc⟩
    unfold g_RF_check_37
    rw [r_groundAt hg (by omega) (by omega)]
    by_cases hz : (readN F w b (S b) M F.n).2 = (v != gr g w b)
    · simp +decide (disch := first | omega | decide) only [↓reduceIte, Option.bind_some, nI_clamp, inB_nI, inB_z, cl_z, nI_eqL, nI_leL, nI_ltL, nI_geL, nI_gtL, nI_leI, nI_ltI, nI_eq, nI_1, nI_addL, nI_add, Nat.le_refl, b2_xor, b2_inj, hz, shl_bit]
    · simp +decide (disch := first | omega | decide) only [↓reduceIte, Option.bind_some, nI_clamp, inB_nI, inB_z, cl_z, nI_eqL, nI_leL, nI_ltL, nI_geL, nI_gtL, nI_leI, nI_ltI, nI_eq, nI_1, nI_addL, nI_add, Nat.le_refl, b2_xor, b2_inj, hz, shl_bit]
set_option maxHeartbeats 4000000 in
theorem r_check (hW : W ≤ 16) (hB : B ≤ 4) (hF : FLok W B F) (hM : FM B F cnt kinds victims others) {cells sense : Nat → Int32} {M : Mem} {S : Nat → Bool} (hR : RC W B cells M) (hS : RS B sense S) {w : Nat} (hw : w < W) (v : Bool) {g : Nat} (hg : g ≤ 3) :
    ∃ cells' sense', f_RF_check 4 4 64 4 4 (nI B) cnt (nI g) victims kinds cells others sense (nI w) (b2 v) = some (nI (wrN (readM F B w (M, S)).2 (fun b => v != gr g w b) B), cells', sense') ∧ RC W B cells' (readM F B w (M, S)).1 ∧ RS B sense' (readM F B w (M, S)).2 := by
  unfold f_RF_check
  refine lp_Q (I := fun i s => s.2.2.2 = nI i ∧ RC W B s.1 (readB F w M S i).1 ∧ RS B s.2.1 (readB F w M S i).2 ∧ s.2.2.1 = nI (wrN (readB F w M S i).2 (fun b => v != gr g w b) i)) B (fun r => ∃ cells' sense', r = some (nI (wrN (readM F B w (M, S)).2 (fun b => v != gr g w b) B), cells', sense') ∧ RC W B cells' (readM F B w (M, S)).1 ∧ RS B sense' (readM F B w (M, S)).2) ?_ ?_ 100000 0 _ (by omega) (by omega) ⟨rfl, hR, hS, rfl⟩
  · rintro i ⟨c, sn, x, y⟩ rec hi ⟨hy, hc, hs, hx⟩
    dsimp only at hx hc hs hy
    subst hx hy
    have hix := ix_lt hW hB hw hi
    obtain ⟨c', h1, h2⟩ := r_cell hW hB hF hM hc hs hw hi v hg (x3 := nI (wrN (readB F w M S i).2 (fun b => v != gr g w b) i)) rec
    left
    refine ⟨_, ⟨rfl, h2, RS_upd hs i _, ?_⟩, Eq.trans ?_ h1⟩
    rotate_left
    · unfold g_RF_check_5
      simp +decide (disch := first | omega | decide) only [↓reduceIte, Option.bind_some, nI_clamp, inB_nI, inB_z, cl_z, nI_eqL, nI_leL, nI_ltL, nI_geL, nI_gtL, nI_leI, nI_ltI, nI_eq, nI_1, nI_addL, nI_add, Nat.not_le.mpr hi, pk_mul]
    · dsimp only
      have e0 : (readB F w M S (i + 1)).2 = updS (readB F w M S i).2 i (readN F w i ((readB F w M S i).2 i) (readB F w M S i).1 F.n).2 := rfl
      rw [e0]
      have e1 : wrN (updS (readB F w M S i).2 i (readN F w i ((readB F w M S i).2 i) (readB F w M S i).1 F.n).2) (fun b => v != gr g w b) i = wrN (readB F w M S i).2 (fun b => v != gr g w b) i := wrN_congr i (fun b hb => by simp [updS, Nat.ne_of_lt hb])
      have e2 : updS (readB F w M S i).2 i (readN F w i ((readB F w M S i).2 i) (readB F w M S i).1 F.n).2 i = (readN F w i ((readB F w M S i).2 i) (readB F w M S i).1 F.n).2 := by simp [updS]
      conv => rhs; unfold wrN
      rw [e1, e2]
      by_cases hz : (readN F w i ((readB F w M S i).2 i) (readB F w M S i).1 F.n).2 = (v != gr g w i)
      · rw [if_pos hz, if_pos hz]
      · rw [if_neg hz, if_neg hz, nI_or]
  · rintro ⟨c, sn, x, y⟩ rec ⟨hy, hc, hs, hx⟩
    dsimp only at hx hc hs hy
    subst hx hy
    obtain ⟨c', h1, h2⟩ := r_behind hW hB hF hM hc
    refine ⟨c', sn, ?_, h2, hs⟩
    unfold g_RF_check_5
    simp +decide (disch := first | omega | decide) only [↓reduceIte, Option.bind_some, nI_clamp, inB_nI, inB_z, cl_z, nI_eqL, nI_leL, nI_ltL, nI_geL, nI_gtL, nI_leI, nI_ltI, nI_eq, nI_1, nI_addL, nI_add, Nat.le_refl, h1]
    rfl
end RFC
