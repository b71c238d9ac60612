def behind1 (F : FL) (f : Nat) (M : Mem) : Mem := if F.kd f = 0 then updM M (F.vw f) (F.vb f) false else if F.kd f = 1 then updM M (F.vw f) (F.vb f) true else if F.kd f = 12 ∧ M (F.aw f) (F.ab f) = true then updM M (F.vw f) (F.vb f) false else M
def behindN (F : FL) (M : Mem) : Nat → Mem
  | 0 => M
  | f + 1 => behind1 F f (behindN F M f)
def set1 (F : FL) (w b : Nat) (v : Bool) (f : Nat) (M : Mem) : Mem := if F.kd f = (if v then 10 else 11) ∧ F.aw f = w ∧ F.ab f = b then updM M (F.vw f) (F.vb f) (!M (F.vw f) (F.vb f)) else M
def setN (F : FL) (w b : Nat) (v : Bool) (M : Mem) : Nat → Mem
  | 0 => updM M w b v
  | f + 1 => set1 F w b v f (setN F w b v M f)
def setM (F : FL) (w b : Nat) (v : Bool) (M : Mem) : Mem := if M w b = v then M else setN F w b v M F.n
def val1 (F : FL) (w b : Nat) (v h : Bool) (f : Nat) (x : Bool) : Bool :=
  if F.vw f = w ∧ F.vb f = b then (if F.kd f = 0 then false else if F.kd f = 1 then true else if F.kd f = 2 then (if h then x else false) else if F.kd f = 3 then (if h then true else x) else if F.kd f = 4 then h else if F.kd f = 9 then (if v = h then !h else x) else x) else x
def valN (F : FL) (w b : Nat) (v h : Bool) : Nat → Bool
  | 0 => v
  | f + 1 => val1 F w b v h f (valN F w b v h f)
def writeB (F : FL) (w : Nat) (p : Nat → Bool) (M : Mem) : Nat → Mem
  | 0 => M
  | b + 1 => setM F w b (valN F w b (p b) (writeB F w p M b w b) F.n) (writeB F w p M b)
def writeM (F : FL) (B w : Nat) (p : Nat → Bool) (M : Mem) : Mem := behindN F (writeB F w p M B) F.n
def read1 (F : FL) (w b : Nat) (s : Bool) (f : Nat) (q : Mem × Bool) : Mem × Bool :=
  if F.kd f = 13 then (if F.vw f = w ∧ F.vb f = b then (q.1, if q.1 (F.aw f) (F.ab f) then q.2 else false) else if F.aw f = w ∧ F.ab f = b then (q.1, if q.1 (F.vw f) (F.vb f) then q.2 else false) else q)
  else if F.vw f = w ∧ F.vb f = b then (if F.kd f = 4 then (q.1, s) else if F.kd f = 6 then (setM F w b (!q.1 w b) q.1, !q.1 w b) else if F.kd f = 7 then (setM F w b (!q.1 w b) q.1, q.2) else if F.kd f = 8 then (q.1, !q.2) else q) else q
def readN (F : FL) (w b : Nat) (s : Bool) (M : Mem) : Nat → Mem × Bool
  | 0 => (M, M w b)
  | f + 1 => read1 F w b s f (readN F w b s M f)
def updS (S : Nat → Bool) (b : Nat) (v : Bool) : Nat → Bool := fun c => if c = b then v else S c
def readB (F : FL) (w : Nat) (M : Mem) (S : Nat → Bool) : Nat → Mem × (Nat → Bool)
  | 0 => (M, S)
  | b + 1 => ((readN F w b ((readB F w M S b).2 b) (readB F w M S b).1 F.n).1, updS (readB F w M S b).2 b (readN F w b ((readB F w M S b).2 b) (readB F w M S b).1 F.n).2)
def readM (F : FL) (B w : Nat) (q : Mem × (Nat → Bool)) : Mem × (Nat → Bool) := (behindN F (readB F w q.1 q.2 B).1 F.n, (readB F w q.1 q.2 B).2)
def pauseN (F : FL) (M : Mem) : Nat → Mem
  | 0 => M
  | f + 1 => if F.kd f = 5 then updM (pauseN F M f) (F.vw f) (F.vb f) false else pauseN F M f
def pauseM (F : FL) (M : Mem) : Mem := behindN F (pauseN F M F.n) F.n
def gr (k w b : Nat) : Bool := if k = 0 then false else if k = 1 then decide ((w + b) % 2 = 1) else if k = 2 then decide (w % 2 = 1) else decide (b % 2 = 1)
def wrN (x t : Nat → Bool) : Nat → Nat
  | 0 => 0
  | b + 1 => if x b = t b then wrN x t b else wrN x t b ||| 2 ^ b
theorem wrN_lt (x t : Nat → Bool) : ∀ B, wrN x t B < 2 ^ B
  | 0 => Nat.one_pos
  | b + 1 => by
    have h := wrN_lt x t b
    unfold wrN
    split
    · exact Nat.lt_trans h (Nat.pow_lt_pow_right (by decide) (by omega))
    · exact Nat.or_lt_two_pow (Nat.lt_trans h (Nat.pow_lt_pow_right (by decide) (by omega))) (Nat.pow_lt_pow_right (by decide) (by omega))
theorem wrN_bit (x t : Nat → Bool) : ∀ B c, (wrN x t B).testBit c = (decide (c < B) && (x c != t c))
  | 0, c => by simp [wrN]
  | b + 1, c => by
    have h := wrN_bit x t b c
    unfold wrN
    by_cases e : x b = t b
    · rw [if_pos e, h]
      by_cases h2 : c = b
      · subst h2; simp [e]
      · have : (c < b + 1) = (c < b) := by apply propext; omega
        simp [this]
    · rw [if_neg e, Nat.testBit_or, h, Nat.testBit_two_pow]
      by_cases h2 : c = b
      · subst h2; simp [e]
      · have : (c < b + 1) = (c < b) := by apply propext; omega
        simp [this, show ¬ b = c from fun q => h2 q.symm]
theorem updM_self {M : Mem} {w b : Nat} : updM M w b (M w b) = M := by
  funext w' b'
  unfold updM
  by_cases e : w' = w ∧ b' = b
  · rw [if_pos e, e.1, e.2]
  · rw [if_neg e]
theorem RC_same {W B : Nat} {cells : Nat → Int32} {M : Mem} (h : RC W B cells M) {w b : Nat} (hw : w < W) (hb : b < B) : RC W B (upd cells (B * w + b) (cells (B * w + b))) M := by
  have := RC_upd h (w := w) hb (M w b)
  rw [updM_self, ← h w b hw hb] at this
  exact this
theorem setN_at {W B : Nat} {F : FL} (hF : FLok W B F) {w b : Nat} {v : Bool} {M : Mem} : ∀ n, n ≤ F.n → setN F w b v M n w b = v
  | 0, _ => by simp [setN, updM]
  | f + 1, h => by
    have ih := setN_at hF (w := w) (b := b) (v := v) (M := M) f (by omega)
    show set1 F w b v f (setN F w b v M f) w b = v
    unfold set1
    by_cases h1 : F.kd f = (if v then 10 else 11) ∧ F.aw f = w ∧ F.ab f = b
    · have h2 := (hF.2 f (by omega)).2.2.2 (by rw [h1.1]; cases v <;> decide)
      have h3 : ¬ (w = F.vw f ∧ b = F.vb f) := fun q => h2.2.2 ⟨by omega, by omega⟩
      rw [if_pos h1]
      unfold updM
      rw [if_neg h3]
      exact ih
    · rw [if_neg h1]
      exact ih
theorem setM_at {W B : Nat} {F : FL} (hF : FLok W B F) {w b : Nat} {v : Bool} {M : Mem} : setM F w b v M w b = v := by
  unfold setM
  split
  · assumption
  · exact setN_at hF _ (Nat.le_refl _)
section RFS
variable {W B : Nat} {F : FL} {cnt : Int32} {kinds victims others : Nat → Int32}
set_option maxHeartbeats 4000000 in
theorem r_behind (hW : W ≤ 16) (hB : B ≤ 4) (hF : FLok W B F) (hM : FM B F cnt kinds victims others) {cells : Nat → Int32} {M : Mem} (hR : RC W B cells M) : ∃ cells', f_RF_behind 4 4 64 4 cnt victims kinds cells others = some cells' ∧ RC W B cells' (behindN F M F.n) := by
  obtain ⟨hn, hf⟩ := hF
  obtain ⟨rfl, hm⟩ := hM
  unfold f_RF_behind
  refine lp_Q (I := fun i s => s.2 = nI i ∧ RC W B s.1 (behindN F M i)) F.n (fun r => ∃ cells', r = some cells' ∧ RC W B cells' (behindN F M F.n)) ?_ ?_ 100000 0 _ (by omega) (by omega) ⟨rfl, hR⟩
  · rintro i ⟨c, x⟩ rec hi ⟨hx, hc⟩
    dsimp only at hx hc
    subst hx
    obtain ⟨k1, k2, k3, k4⟩ := hf i hi
    obtain ⟨m1, m2, m3⟩ := hm i hi
    have hv := ix_lt hW hB k2 k3
    left
    unfold g_RF_behind_2 f_RF_behind_56 f_RF_behind_52 f_RF_behind_57
    by_cases h0 : F.kd i = 0
    · refine ⟨(upd c (B * F.vw i + F.vb i) (b2 false), nI (i + 1)), ⟨rfl, ?_⟩, ?_⟩
      · show RC W B _ (behind1 F i _)
        unfold behind1
        rw [if_pos h0]
        exact RC_upd hc k3 false
      · simp +decide (disch := first | omega | decide) only [↓reduceIte, Option.bind_some, nI_clamp, inB_nI, inB_z, cl_z, nI_eqL, nI_leL, nI_ltL, nI_geL, nI_gtL, nI_leI, nI_ltI, nI_eq, nI_1, nI_addL, nI_add, m1, m2, h0, Nat.not_le.mpr hi]
        rfl
    · by_cases h1 : F.kd i = 1
      · refine ⟨(upd c (B * F.vw i + F.vb i) (b2 true), nI (i + 1)), ⟨rfl, ?_⟩, ?_⟩
        · show RC W B _ (behind1 F i _)
          unfold behind1
          rw [if_neg h0, if_pos h1]
          exact RC_upd hc k3 true
        · simp +decide (disch := first | omega | decide) only [↓reduceIte, Option.bind_some, nI_clamp, inB_nI, inB_z, cl_z, nI_eqL, nI_leL, nI_ltL, nI_geL, nI_gtL, nI_leI, nI_ltI, nI_eq, nI_1, nI_addL, nI_add, m1, m2, h1, Nat.not_le.mpr hi]
          rfl
      · by_cases h2 : F.kd i = 12
        · obtain ⟨a1, a2, a3⟩ := k4 (by omega)
          have hv2 := ix_lt hW hB a1 a2
          rw [if_pos (by omega)] at m3
          have hca := hc _ _ a1 a2
          cases hz : behindN F M i (F.aw i) (F.ab i)
          · refine ⟨(upd c (B * F.vw i + F.vb i) (c (B * F.vw i + F.vb i)), nI (i + 1)), ⟨rfl, ?_⟩, ?_⟩
            · show RC W B _ (behind1 F i _)
              unfold behind1
              rw [if_neg h0, if_neg h1, if_neg (by rw [hz]; simp)]
              exact RC_same hc k2 k3
            · simp +decide (disch := first | omega | decide) only [↓reduceIte, Option.bind_some, nI_clamp, inB_nI, inB_z, cl_z, nI_eqL, nI_leL, nI_ltL, nI_geL, nI_gtL, nI_leI, nI_ltI, nI_eq, nI_1, nI_addL, nI_add, m1, m2, m3, h2, hca, hz, Nat.not_le.mpr hi, b2_1, Bool.false_eq_true]
          · refine ⟨(upd c (B * F.vw i + F.vb i) (b2 false), nI (i + 1)), ⟨rfl, ?_⟩, ?_⟩
            · show RC W B _ (behind1 F i _)
              unfold behind1
              rw [if_neg h0, if_neg h1, if_pos ⟨h2, hz⟩]
              exact RC_upd hc k3 false
            · simp +decide (disch := first | omega | decide) only [↓reduceIte, Option.bind_some, nI_clamp, inB_nI, inB_z, cl_z, nI_eqL, nI_leL, nI_ltL, nI_geL, nI_gtL, nI_leI, nI_ltI, nI_eq, nI_1, nI_addL, nI_add, m1, m2, m3, h2, hca, hz, Nat.not_le.mpr hi, b2_1]
              rfl
        · refine ⟨(upd c (B * F.vw i + F.vb i) (c (B * F.vw i + F.vb i)), nI (i + 1)), ⟨rfl, ?_⟩, ?_⟩
          · show RC W B _ (behind1 F i _)
            unfold behind1
            rw [if_neg h0, if_neg h1, if_neg (fun q => h2 q.1)]
            exact RC_same hc k2 k3
          · simp +decide (disch := first | omega | decide) only [↓reduceIte, Option.bind_some, nI_clamp, inB_nI, inB_z, cl_z, nI_eqL, nI_leL, nI_ltL, nI_geL, nI_gtL, nI_leI, nI_ltI, nI_eq, nI_1, nI_addL, nI_add, m1, m2, h0, h1, h2, Nat.not_le.mpr hi]
  · rintro ⟨c, x⟩ rec ⟨hx, hc⟩
    dsimp only at hx hc
    subst hx
    refine ⟨c, ?_, hc⟩
    unfold g_RF_behind_2
    simp +decide (disch := first | omega | decide) only [↓reduceIte, Option.bind_some, nI_clamp, inB_nI, inB_z, cl_z, nI_eqL, nI_leL, nI_ltL, nI_geL, nI_gtL, nI_leI, nI_ltI, nI_eq, nI_1, nI_addL, nI_add, Nat.le_refl]
set_option maxHeartbeats 4000000 in
theorem r_set (hW : W ≤ 16) (hB : B ≤ 4) (hF : FLok W B F) (hM : FM B F cnt kinds victims others) {cells : Nat → Int32} {M : Mem} (hR : RC W B cells M) {w b : Nat} (hw : w < W) (hb : b < B) (v : Bool) : ∃ cells', f_RF_set 64 4 4 4 cnt cells others kinds victims (nI (B * w + b)) (b2 v) = some cells' ∧ RC W B cells' (setM F w b v M) := by
  obtain ⟨hn, hf⟩ := id hF
  obtain ⟨rfl, hm⟩ := hM
  have hix := ix_lt hW hB hw hb
  have hcw := hR w b hw hb
  unfold f_RF_set
  by_cases hv : M w b = v
  · refine ⟨cells, ?_, by unfold setM; rw [if_pos hv]; exact hR⟩
    simp +decide (disch := first | omega | decide) only [↓reduceIte, Option.bind_some, nI_clamp, inB_nI, inB_z, cl_z, nI_eqL, nI_leL, nI_ltL, nI_geL, nI_gtL, nI_leI, nI_ltI, nI_eq, nI_1, nI_addL, nI_add, hcw, hv]
  · simp +decide (disch := first | omega | decide) only [↓reduceIte, Option.bind_some, nI_clamp, inB_nI, inB_z, cl_z, nI_eqL, nI_leL, nI_ltL, nI_geL, nI_gtL, nI_leI, nI_ltI, nI_eq, nI_1, nI_addL, nI_add, hcw, b2_inj, hv]
    unfold setM
    rw [if_neg hv]
    refine lp_Q (I := fun i s => s.2 = nI i ∧ RC W B s.1 (setN F w b v M i)) F.n (fun r => ∃ cells', r = some cells' ∧ RC W B cells' (setN F w b v M F.n)) ?_ ?_ 100000 0 _ (by omega) (by omega) ⟨rfl, RC_upd hR hb v⟩
    · rintro i ⟨c, x⟩ rec hi ⟨hx, hc⟩
      dsimp only at hx hc
      subst hx
      obtain ⟨k1, k2, k3, k4⟩ := hf i hi
      obtain ⟨m1, m2, m3⟩ := hm i hi
      have hvi := ix_lt hW hB k2 k3
      left
      unfold g_RF_set_20 f_RF_set_56
      by_cases hp : 10 ≤ F.kd i
      · obtain ⟨a1, a2, a3⟩ := k4 hp
        have hv2 := ix_lt hW hB a1 a2
        rw [if_pos hp] at m3
        by_cases he : F.aw i = w ∧ F.ab i = b
        · have he2 : (B * F.aw i + F.ab i = B * w + b) = True := eq_true ((ix_inj a2 hb).mpr he)
          by_cases hk : F.kd i = (if v then 10 else 11)
          · refine ⟨(upd c (B * F.vw i + F.vb i) (b2 (!setN F w b v M i (F.vw i) (F.vb i))), nI (i + 1)), ⟨rfl, ?_⟩, ?_⟩
            · show RC W B _ (set1 F w b v i _)
              unfold set1
              rw [if_pos ⟨hk, he⟩]
              exact RC_upd hc k3 _
            · have hcv := hc _ _ k2 k3
              cases v
              · simp only [Bool.false_eq_true, if_false] at hk
                simp +decide (disch := first | omega | decide) only [↓reduceIte, Option.bind_some, nI_clamp, inB_nI, inB_z, cl_z, nI_eqL, nI_leL, nI_ltL, nI_geL, nI_gtL, nI_leI, nI_ltI, nI_eq, nI_1, nI_addL, nI_add, m1, m2, m3, hk, he2, hcv, b2_n, b2_1, Bool.false_eq_true, Nat.not_le.mpr hi]
              · simp only [if_true] at hk
                simp +decide (disch := first | omega | decide) only [↓reduceIte, Option.bind_some, nI_clamp, inB_nI, inB_z, cl_z, nI_eqL, nI_leL, nI_ltL, nI_geL, nI_gtL, nI_leI, nI_ltI, nI_eq, nI_1, nI_addL, nI_add, m1, m2, m3, hk, he2, hcv, b2_n, b2_1, Nat.not_le.mpr hi]
          · refine ⟨(c, nI (i + 1)), ⟨rfl, ?_⟩, ?_⟩
            · show RC W B _ (set1 F w b v i _)
              unfold set1
              rw [if_neg (fun q => hk q.1)]
              exact hc
            · cases v
              · simp only [Bool.false_eq_true, if_false] at hk
                simp +decide (disch := first | omega | decide) only [↓reduceIte, Option.bind_some, nI_clamp, inB_nI, inB_z, cl_z, nI_eqL, nI_leL, nI_ltL, nI_geL, nI_gtL, nI_leI, nI_ltI, nI_eq, nI_1, nI_addL, nI_add, m1, m2, m3, hk, he2, b2_1, Bool.false_eq_true, Nat.not_le.mpr hi]
              · simp only [if_true] at hk
                simp +decide (disch := first | omega | decide) only [↓reduceIte, Option.bind_some, nI_clamp, inB_nI, inB_z, cl_z, nI_eqL, nI_leL, nI_ltL, nI_geL, nI_gtL, nI_leI, nI_ltI, nI_eq, nI_1, nI_addL, nI_add, m1, m2, m3, hk, he2, b2_1, Nat.not_le.mpr hi]
        · have he2 : (B * F.aw i + F.ab i = B * w + b) = False := eq_false (fun q => he ((ix_inj a2 hb).mp q))
          refine ⟨(c, nI (i + 1)), ⟨rfl, ?_⟩, ?_⟩
          · show RC W B _ (set1 F w b v i _)
            unfold set1
            rw [if_neg (fun q => he q.2)]
            exact hc
          · simp +decide (disch := first | omega | decide) only [↓reduceIte, Option.bind_some, nI_clamp, inB_nI, inB_z, cl_z, nI_eqL, nI_leL, nI_ltL, nI_geL, nI_gtL, nI_leI, nI_ltI, nI_eq, nI_1, nI_addL, nI_add, m3, he2, Nat.not_le.mpr hi]
      · rw [if_neg hp] at m3
        have hne : ((-1 : Int32) = nI (B * w + b)) = False := eq_false (fun q => ne_m1 (by omega) q.symm)
        refine ⟨(c, nI (i + 1)), ⟨rfl, ?_⟩, ?_⟩
        · show RC W B _ (set1 F w b v i _)
          unfold set1
          rw [if_neg (fun q => hp (by rw [q.1]; cases v <;> decide))]
          exact hc
        · simp +decide (disch := first | omega | decide) only [↓reduceIte, Option.bind_some, nI_clamp, inB_nI, inB_z, cl_z, nI_eqL, nI_leL, nI_ltL, nI_geL, nI_gtL, nI_leI, nI_ltI, nI_eq, nI_1, nI_addL, nI_add, m3, hne, Nat.not_le.mpr hi]
    · rintro ⟨c, x⟩ rec ⟨hx, hc⟩
      dsimp only at hx hc
      subst hx
      refine ⟨c, ?_, hc⟩
      unfold g_RF_set_20
      simp +decide (disch := first | omega | decide) only [↓reduceIte, Option.bind_some, nI_clamp, inB_nI, inB_z, cl_z, nI_eqL, nI_leL, nI_ltL, nI_geL, nI_gtL, nI_leI, nI_ltI, nI_eq, nI_1, nI_addL, nI_add, Nat.le_refl]
theorem b2_xor {u v : Bool} : b2 u ^^^ b2 v = b2 (u != v) := by cases u <;> cases v <;> decide
theorem b2_par (n : Nat) : nI (n % 2) = b2 (decide (n % 2 = 1)) := by
  rcases Nat.mod_two_eq_zero_or_one n with h | h <;> rw [h] <;> decide
theorem r_groundAt {k w b : Nat} (hk : k ≤ 3) (hw : w < 16) (hb : b < 4) : f_RF_groundAt (nI k) (nI w) (nI b) = some (b2 (gr k w b)) := by
  have e2 : (2 : Int32) = nI 2 := rfl
  unfold f_RF_groundAt gr
  by_cases h0 : k = 0
  · subst h0; rfl
  · by_cases h1 : k = 1
    · subst h1
      rw [if_neg (by decide), if_pos (by decide), if_neg (by decide), if_pos rfl, nI_add, e2, pk_rem (by omega) (by decide) (by decide), b2_par]
    · by_cases h2 : k = 2
      · subst h2
        rw [if_neg (by decide), if_neg (by decide), if_pos (by decide), if_neg (by decide), if_neg (by decide), if_pos rfl, e2, pk_rem (by omega) (by decide) (by decide), b2_par]
      · have h3 : k = 3 := by omega
        subst h3
        rw [if_neg (by decide), if_neg (by decide), if_neg (by decide), if_neg (by decide), if_neg (by decide), if_neg (by decide), e2, pk_rem (by omega) (by decide) (by decide), b2_par]
set_option maxHeartbeats 4000000 in
theorem r_val (hW : W ≤ 16) (hB : B ≤ 4) (hF : FLok W B F) (hM : FM B F cnt kinds victims others) {cells : Nat → Int32} {M : Mem} (hR : RC W B cells M) {w b : Nat} (hw : w < W) (hb : b < B) (v : Bool) {x3 : Int32} (rec2 : ((Nat → Int32) × Int32) → Option (Nat → Int32)) :
    ∃ cells', lp (g_RF_write_46 4 4 64 4 cnt victims kinds cells others x3 (nI (B * w + b)) (b2 v) (b2 (M w b)) rec2) 100000 (b2 v, 0) = rec2 (cells', x3 + 1) ∧ RC W B cells' (setM F w b (valN F w b v (M w b) F.n) M) := by
  obtain ⟨hn, hf⟩ := id hF
  have hM' := hM
  obtain ⟨rfl, hm⟩ := hM
  have hix := ix_lt hW hB hw hb
  refine lp_Q (I := fun i s => s.2 = nI i ∧ s.1 = b2 (valN F w b v (M w b) i)) F.n (fun r => ∃ cells', r = rec2 (cells', x3 + 1) ∧ RC W B cells' (setM F w b (valN F w b v (M w b) F.n) M)) ?_ ?_ 100000 0 _ (by omega) (by omega) ⟨rfl, rfl⟩
  · rintro i ⟨c, x⟩ rec hi ⟨hx, hc⟩
    dsimp only at hx hc
    subst hx hc
    obtain ⟨k1, k2, k3, k4⟩ := hf i hi
    obtain ⟨m1, m2, m3⟩ := hm i hi
    left
    have hv := ix_lt hW hB k2 k3
    refine ⟨(b2 (valN F w b v (M w b) (i + 1)), nI (i + 1)), ⟨rfl, rfl⟩, ?_⟩
    show _ = rec (b2 (val1 F w b v (M w b) i (valN F w b v (M w b) i)), _)
    unfold g_RF_write_46 f_RF_write_96 f_RF_write_92 f_RF_write_118 f_RF_write_114 f_RF_write_150 val1
    by_cases he : F.vw i = w ∧ F.vb i = b
    · have he2 : (B * F.vw i + F.vb i = B * w + b) = True := eq_true ((ix_inj k3 hb).mpr he)
      rw [if_pos he]
      have hk : F.kd i = 0 ∨ F.kd i = 1 ∨ F.kd i = 2 ∨ F.kd i = 3 ∨ F.kd i = 4 ∨ F.kd i = 9 ∨ (F.kd i ≠ 0 ∧ F.kd i ≠ 1 ∧ F.kd i ≠ 2 ∧ F.kd i ≠ 3 ∧ F.kd i ≠ 4 ∧ F.kd i ≠ 9) := by omega
      generalize valN F w b v (M w b) i = y
      generalize M w b = h
      rcases hk with hk | hk | hk | hk | hk | hk | ⟨q1, q2, q3, q4, q5, q6⟩
      · simp +decide (disch := first | omega | decide) only [↓reduceIte, Option.bind_some, nI_clamp, inB_nI, inB_z, cl_z, nI_eqL, nI_leL, nI_ltL, nI_geL, nI_gtL, nI_leI, nI_ltI, nI_eq, nI_1, nI_addL, nI_add, m1, m2, he2, hk, Nat.not_le.mpr hi] <;> rfl
      · simp +decide (disch := first | omega | decide) only [↓reduceIte, Option.bind_some, nI_clamp, inB_nI, inB_z, cl_z, nI_eqL, nI_leL, nI_ltL, nI_geL, nI_gtL, nI_leI, nI_ltI, nI_eq, nI_1, nI_addL, nI_add, m1, m2, he2, hk, Nat.not_le.mpr hi] <;> rfl
      · cases h <;> simp +decide (disch := first | omega | decide) only [↓reduceIte, Option.bind_some, nI_clamp, inB_nI, inB_z, cl_z, nI_eqL, nI_leL, nI_ltL, nI_geL, nI_gtL, nI_leI, nI_ltI, nI_eq, nI_1, nI_addL, nI_add, m1, m2, he2, hk, Nat.not_le.mpr hi, b2_0, Bool.false_eq_true, Bool.true_eq_false] <;> rfl
      · cases h <;> simp +decide (disch := first | omega | decide) only [↓reduceIte, Option.bind_some, nI_clamp, inB_nI, inB_z, cl_z, nI_eqL, nI_leL, nI_ltL, nI_geL, nI_gtL, nI_leI, nI_ltI, nI_eq, nI_1, nI_addL, nI_add, m1, m2, he2, hk, Nat.not_le.mpr hi, b2_1, Bool.false_eq_true, Bool.true_eq_false] <;> rfl
      · simp +decide (disch := first | omega | decide) only [↓reduceIte, Option.bind_some, nI_clamp, inB_nI, inB_z, cl_z, nI_eqL, nI_leL, nI_ltL, nI_geL, nI_gtL, nI_leI, nI_ltI, nI_eq, nI_1, nI_addL, nI_add, m1, m2, he2, hk, Nat.not_le.mpr hi]
      · by_cases hvh : v = h
        · simp +decide (disch := first | omega | decide) only [↓reduceIte, Option.bind_some, nI_clamp, inB_nI, inB_z, cl_z, nI_eqL, nI_leL, nI_ltL, nI_geL, nI_gtL, nI_leI, nI_ltI, nI_eq, nI_1, nI_addL, nI_add, m1, m2, he2, hk, Nat.not_le.mpr hi, b2_inj, hvh, b2_n]
        · simp +decide (disch := first | omega | decide) only [↓reduceIte, Option.bind_some, nI_clamp, inB_nI, inB_z, cl_z, nI_eqL, nI_leL, nI_ltL, nI_geL, nI_gtL, nI_leI, nI_ltI, nI_eq, nI_1, nI_addL, nI_add, m1, m2, he2, hk, Nat.not_le.mpr hi, b2_inj, hvh]
      · simp +decide (disch := first | omega | decide) only [↓reduceIte, Option.bind_some, nI_clamp, inB_nI, inB_z, cl_z, nI_eqL, nI_leL, nI_ltL, nI_geL, nI_gtL, nI_leI, nI_ltI, nI_eq, nI_1, nI_addL, nI_add, m1, m2, he2, q1, q2, q3, q4, q5, q6, Nat.not_le.mpr hi]
    · have he2 : (B * F.vw i + F.vb i = B * w + b) = False := eq_false (fun q => he ((ix_inj k3 hb).mp q))
      rw [if_neg he]
      simp +decide (disch := first | omega | decide) only [↓reduceIte, Option.bind_some, nI_clamp, inB_nI, inB_z, cl_z, nI_eqL, nI_leL, nI_ltL, nI_geL, nI_gtL, nI_leI, nI_ltI, nI_eq, nI_1, nI_addL, nI_add, m1, m2, he2, Nat.not_le.mpr hi]
  · rintro ⟨c, x⟩ rec ⟨hx, hc⟩
    dsimp only at hx hc
    subst hx hc
    obtain ⟨c', h1, h2⟩ := r_set hW hB hF hM' hR hw hb (valN F w b v (M w b) F.n)
    refine ⟨c', ?_, h2⟩
    unfold g_RF_write_46
    simp +decide (disch := first | omega | decide) only [↓reduceIte, Option.bind_some, nI_clamp, inB_nI, inB_z, cl_z, nI_eqL, nI_leL, nI_ltL, nI_geL, nI_gtL, nI_leI, nI_ltI, nI_eq, nI_1, nI_addL, nI_add, Nat.le_refl, h1]
set_option maxHeartbeats 4000000 in
theorem r_write (hW : W ≤ 16) (hB : B ≤ 4) (hF : FLok W B F) (hM : FM B F cnt kinds victims others) {cells : Nat → Int32} {M : Mem} (hR : RC W B cells M) {w : Nat} (hw : w < W) (v : Bool) {g : Nat} (hg : g ≤ 3) : ∃ cells', f_RF_write 4 4 64 4 (nI B) cnt (nI g) victims kinds cells others (nI w) (b2 v) = some cells' ∧ RC W B cells' (writeM F B w (fun b => v != gr g w b) M) := by
  unfold f_RF_write
  refine lp_Q (I := fun i s => s.2 = nI i ∧ RC W B s.1 (writeB F w (fun b => v != gr g w b) M i)) B (fun r => ∃ cells', r = some cells' ∧ RC W B cells' (writeM F B w (fun b => v != gr g w b) M)) ?_ ?_ 100000 0 _ (by omega) (by omega) ⟨rfl, hR⟩
  · rintro i ⟨c, x⟩ rec hi ⟨hx, hc⟩
    dsimp only at hx hc
    subst hx
    have hix := ix_lt hW hB hw hi
    have hcw := hc w i hw hi
    obtain ⟨c', h1, h2⟩ := r_val hW hB hF hM hc hw hi (v != gr g w i) (x3 := nI i) rec
    left
    refine ⟨(c', nI (i + 1)), ⟨rfl, h2⟩, ?_⟩
    unfold g_RF_write_2
    rw [r_groundAt hg (by omega) (by omega)]
    simp +decide (disch := first | omega | decide) only [↓reduceIte, Option.bind_some, nI_clamp, inB_nI, inB_z, cl_z, nI_eqL, nI_leL, nI_ltL, nI_geL, nI_gtL, nI_leI, nI_ltI, nI_eq, nI_1, nI_addL, nI_add, Nat.not_le.mpr hi, pk_mul, hcw, b2_xor, h1]
  · rintro ⟨c, x⟩ rec ⟨hx, hc⟩
    dsimp only at hx hc
    subst hx
    obtain ⟨c', h1, h2⟩ := r_behind hW hB hF hM hc
    refine ⟨c', ?_, h2⟩
    unfold g_RF_write_2
    simp +decide (disch := first | omega | decide) only [↓reduceIte, Option.bind_some, nI_clamp, inB_nI, inB_z, cl_z, nI_eqL, nI_leL, nI_ltL, nI_geL, nI_gtL, nI_leI, nI_ltI, nI_eq, nI_1, nI_addL, nI_add, Nat.le_refl, h1]
end RFS
