theorem writeB_free {F : FL} {w : Nat} {p : Nat → Bool} {M : Mem} (h : ∀ f, f < F.n → F.vw f ≠ w ∧ (10 ≤ F.kd f → F.aw f ≠ w)) : ∀ b, writeB F w p M b = fun w' b' => if w' = w ∧ b' < b then p b' else M w' b'
  | 0 => by
    funext w' b'
    simp [writeB]
  | b + 1 => by
    have ih := writeB_free (p := p) (M := M) h b
    have hval : ∀ n, n ≤ F.n → valN F w b (p b) (writeB F w p M b w b) n = p b := by
      intro n
      induction n with
      | zero => intro _; rfl
      | succ n ih2 =>
        intro hn
        show val1 F w b _ _ n _ = _
        unfold val1
        rw [if_neg (fun q => (h n (by omega)).1 q.1)]
        exact ih2 (by omega)
    have hset : ∀ n, n ≤ F.n → setN F w b (p b) (writeB F w p M b) n = updM (writeB F w p M b) w b (p b) := by
      intro n
      induction n with
      | zero => intro _; rfl
      | succ n ih2 =>
        intro hn
        show set1 F w b (p b) n _ = _
        unfold set1
        rw [if_neg (fun q => (h n (by omega)).2 (by rw [q.1]; cases p b <;> decide) q.2.1)]
        exact ih2 (by omega)
    show setM F w b (valN F w b (p b) (writeB F w p M b w b) F.n) (writeB F w p M b) = _
    rw [hval F.n (Nat.le_refl _)]
    have hu : setM F w b (p b) (writeB F w p M b) = updM (writeB F w p M b) w b (p b) := by
      unfold setM
      by_cases e : writeB F w p M b w b = p b
      · rw [if_pos e, ← e, updM_self]
      · rw [if_neg e]; exact hset F.n (Nat.le_refl _)
    rw [hu, ih]
    funext w' b'
    unfold updM
    by_cases e1 : w' = w
    · by_cases e2 : b' = b
      · simp [e1, e2]
      · have : (b' < b + 1) = (b' < b) := by apply propext; omega
        simp [e1, e2, this]
    · simp [e1]
theorem readN_free {F : FL} {w b : Nat} {s : Bool} {M : Mem} (h : ∀ f, f < F.n → F.vw f ≠ w ∧ (10 ≤ F.kd f → F.aw f ≠ w)) : ∀ n, n ≤ F.n → readN F w b s M n = (M, M w b)
  | 0, _ => rfl
  | n + 1, hn => by
    show read1 F w b s n (readN F w b s M n) = _
    rw [readN_free h n (by omega)]
    have h1 := h n (by omega)
    unfold read1
    by_cases hk : F.kd n = 13
    · rw [if_pos hk, if_neg (fun q => h1.1 q.1), if_neg (fun q => h1.2 (by omega) q.1)]
    · rw [if_neg hk, if_neg (fun q => h1.1 q.1)]
theorem readB_free {F : FL} {w : Nat} {M : Mem} {S : Nat → Bool} (h : ∀ f, f < F.n → F.vw f ≠ w ∧ (10 ≤ F.kd f → F.aw f ≠ w)) : ∀ b, readB F w M S b = (M, fun c => if c < b then M w c else S c)
  | 0 => by
    show (M, S) = _
    simp
  | b + 1 => by
    have ih := readB_free (M := M) (S := S) h b
    unfold readB
    rw [ih]
    dsimp only
    rw [readN_free h F.n (Nat.le_refl _)]
    dsimp only
    refine Prod.ext rfl ?_
    funext c
    show (if c = b then M w b else if c < b then M w c else S c) = _
    by_cases e : c = b
    · simp [e]
    · have : (c < b + 1) = (c < b) := by apply propext; omega
      simp [e, this]
theorem readB_S {F : FL} {w : Nat} {M : Mem} {S : Nat → Bool} : ∀ b c, b ≤ c → (readB F w M S b).2 c = S c
  | 0, c, _ => rfl
  | b + 1, c, h => by
    show (if c = b then _ else (readB F w M S b).2 c) = S c
    rw [if_neg (by omega), readB_S b c (by omega)]
def RL (B : Nat) (x : Int32) (S : Nat → Bool) : Prop := x = nI (wrN S (fun _ => false) B)
theorem pk_bit {S : Nat → Bool} {B b : Nat} (hb : b < B) : (wrN S (fun _ => false) B).testBit b = S b := by
  rw [wrN_bit]; simp [hb]
theorem pk_uniq {S : Nat → Bool} {B h : Nat} (hh : h < 2 ^ B) (hb : ∀ b, b < B → h.testBit b = S b) : h = wrN S (fun _ => false) B := by
  apply Nat.eq_of_testBit_eq
  intro i
  rw [wrN_bit]
  by_cases e : i < B
  · rw [hb i e]; simp [e]
  · have : h.testBit i = false := Nat.testBit_lt_two_pow (Nat.lt_of_lt_of_le hh (Nat.pow_le_pow_right (by decide) (by omega)))
    rw [this]; simp [e]
section MTF
variable {W B : Nat} {F : FL} {cnt touched : Int32} {kinds vW vM oW oM : Nat → Int32}
theorem m_struck {k b : Nat} {v h x : Bool} (hk : k ≤ 13) (hb : b < 4) : f_Memory_struckValue (nI k) (nI (2 ^ b)) (mb b v) (mb b h) (mb b x) = some (mb b (if k = 0 then false else if k = 1 then true else if k = 2 then (if h then x else false) else if k = 3 then (if h then true else x) else if k = 4 then h else if k = 9 then (if v = h then !h else x) else x)) := by
  unfold f_Memory_struckValue
  have hc : k = 0 ∨ k = 1 ∨ k = 2 ∨ k = 3 ∨ k = 4 ∨ k = 5 ∨ k = 6 ∨ k = 7 ∨ k = 8 ∨ k = 9 ∨ k = 10 ∨ k = 11 ∨ k = 12 ∨ k = 13 := by omega
  rcases hc with rfl | rfl | rfl | rfl | rfl | rfl | rfl | rfl | rfl | rfl | rfl | rfl | rfl | rfl
  · rfl
  · rfl
  · cases h
    · simp +decide (disch := first | omega | decide) only [↓reduceIte, Option.bind_some, nI_clamp, inB_nI, inB_z, cl_z, nI_eqL, nI_leL, nI_ltL, nI_geL, nI_gtL, nI_leI, nI_ltI, nI_eq, nI_1, nI_addL, nI_add, mb_0] <;> rfl
    · simp +decide (disch := first | omega | decide) only [↓reduceIte, Option.bind_some, nI_clamp, inB_nI, inB_z, cl_z, nI_eqL, nI_leL, nI_ltL, nI_geL, nI_gtL, nI_leI, nI_ltI, nI_eq, nI_1, nI_addL, nI_add, mb_0, Bool.true_eq_false]
  · cases h
    · simp +decide (disch := first | omega | decide) only [↓reduceIte, Option.bind_some, nI_clamp, inB_nI, inB_z, cl_z, nI_eqL, nI_leL, nI_ltL, nI_geL, nI_gtL, nI_leI, nI_ltI, nI_eq, nI_1, nI_addL, nI_add, mb_0, Bool.false_eq_true]
    · simp +decide (disch := first | omega | decide) only [↓reduceIte, Option.bind_some, nI_clamp, inB_nI, inB_z, cl_z, nI_eqL, nI_leL, nI_ltL, nI_geL, nI_gtL, nI_leI, nI_ltI, nI_eq, nI_1, nI_addL, nI_add, mb_0, Bool.true_eq_false] <;> rfl
  all_goals first | rfl | skip
  by_cases e : v = h
  · simp +decide (disch := first | omega | decide) only [↓reduceIte, Option.bind_some, nI_clamp, inB_nI, inB_z, cl_z, nI_eqL, nI_leL, nI_ltL, nI_geL, nI_gtL, nI_leI, nI_ltI, nI_eq, nI_1, nI_addL, nI_add, mb_inj, e, mb_n]
  · simp +decide (disch := first | omega | decide) only [↓reduceIte, Option.bind_some, nI_clamp, inB_nI, inB_z, cl_z, nI_eqL, nI_leL, nI_ltL, nI_geL, nI_gtL, nI_leI, nI_ltI, nI_eq, nI_1, nI_addL, nI_add, mb_inj, e]
set_option maxHeartbeats 4000000 in
theorem m_value (hW : W ≤ 16) (hB : B ≤ 4) (hF : FLok W B F) (hX : FX F cnt touched kinds vW vM oW oM) {held : Nat → Int32} {M : Mem} (hR : RH W B held M) {w b : Nat} (hw : w < W) (hb : b < B) (v : Bool) : f_Memory_valueToStore W 4 4 4 held cnt vW vM kinds (nI w) (nI (2 ^ b)) (mb b v) = some (mb b (valN F w b v (M w b) F.n)) := by
  have hF' := hF
  have hX' := hX
  obtain ⟨hn, hf⟩ := hF
  obtain ⟨rfl, hm, -⟩ := hX
  have hcw := RH_mb hR hw hb
  unfold f_Memory_valueToStore
  simp +decide (disch := first | omega | decide) only [↓reduceIte, Option.bind_some, nI_clamp, inB_nI, inB_z, cl_z, nI_eqL, nI_leL, nI_ltL, nI_geL, nI_gtL, nI_leI, nI_ltI, nI_eq, nI_1, nI_addL, nI_add, hcw]
  refine lp_Q (I := fun i s => s.2 = nI i ∧ s.1 = mb b (valN F w b v (M w b) i)) F.n (fun r => r = some (mb b (valN F w b v (M w b) F.n))) ?_ ?_ 100000 0 _ (by omega) (by omega) ⟨rfl, rfl⟩
  · rintro i ⟨c, x⟩ rec hi ⟨hx, hc⟩
    dsimp only at hx hc
    subst hx hc
    obtain ⟨k1, k2, k3, k4⟩ := hf i hi
    obtain ⟨m1, m2, m3, m4, m5⟩ := hm i hi
    have hni := Nat.not_le.mpr hi
    left
    refine ⟨(mb b (valN F w b v (M w b) (i + 1)), nI (i + 1)), ⟨rfl, rfl⟩, ?_⟩
    show _ = rec (mb b (val1 F w b v (M w b) i (valN F w b v (M w b) i)), _)
    unfold g_Memory_valueToStore_16 val1
    rw [m_isVictim hW hB hF' hX' hi hw hb]
    by_cases he : F.vw i = w ∧ F.vb i = b
    · rw [if_pos he, decide_eq_true he]
      simp +decide (disch := first | omega | decide) only [↓reduceIte, Option.bind_some, nI_clamp, inB_nI, inB_z, cl_z, nI_eqL, nI_leL, nI_ltL, nI_geL, nI_gtL, nI_leI, nI_ltI, nI_eq, nI_1, nI_addL, nI_add, m1, hni, b2_0, Bool.true_eq_false, m_struck k1 (show b < 4 by omega)]
    · rw [if_neg he, decide_eq_false he]
      simp +decide (disch := first | omega | decide) only [↓reduceIte, Option.bind_some, nI_clamp, inB_nI, inB_z, cl_z, nI_eqL, nI_leL, nI_ltL, nI_geL, nI_gtL, nI_leI, nI_ltI, nI_eq, nI_1, nI_addL, nI_add, m1, hni, b2_0]
  · rintro ⟨c, x⟩ rec ⟨hx, hc⟩
    dsimp only at hx hc
    subst hx hc
    unfold g_Memory_valueToStore_16
    simp +decide (disch := first | omega | decide) only [↓reduceIte, Option.bind_some, nI_clamp, inB_nI, inB_z, cl_z, nI_eqL, nI_leL, nI_ltL, nI_geL, nI_gtL, nI_leI, nI_ltI, nI_eq, nI_1, nI_addL, nI_add, Nat.le_refl]
theorem RH_word {held : Nat → Int32} {M : Mem} (h : RH W B held M) (w : Nat) {x : Nat} (hx : x < 2 ^ B) : RH W B (upd held w (nI x)) (fun w' b' => if w' = w ∧ b' < B then x.testBit b' else M w' b') := by
  intro w' hw'
  by_cases e : w' = w
  · subst e
    exact ⟨x, hx, upd_s, fun b hb => by simp [hb]⟩
  · obtain ⟨y, h1, h2, h3⟩ := h w' hw'
    exact ⟨y, h1, by rw [upd_n e]; exact h2, fun b hb => by rw [h3 b hb]; simp [e]⟩
set_option maxHeartbeats 4000000 in
theorem m_store (hW : W ≤ 16) (hB : B ≤ 4) (hF : FLok W B F) (hX : FX F cnt touched kinds vW vM oW oM) {held : Nat → Int32} {M : Mem} (hR : RH W B held M) {w x : Nat} (hw : w < W) (hx : x < 2 ^ B) : ∃ held', f_Memory_store W 4 4 4 4 4 (nI B) cnt touched held vW vM kinds oW oM (nI w) (nI x) = some held' ∧ RH W B held' (writeM F B w x.testBit M) := by
  unfold f_Memory_store writeM
  rcases m_touches hX (w := w) (by omega) with ⟨ht, hfree⟩ | ht
  · obtain ⟨h', e1, e2⟩ := m_settle hW hB hF hX (RH_word hR w hx)
    refine ⟨h', ?_, ?_⟩
    · rw [ht]
      simp +decide (disch := first | omega | decide) only [↓reduceIte, Option.bind_some, nI_clamp, inB_nI, inB_z, cl_z, nI_eqL, nI_leL, nI_ltL, nI_geL, nI_gtL, nI_leI, nI_ltI, nI_eq, nI_1, nI_addL, nI_add, e1]
    · rw [writeB_free hfree]
      exact e2
  · rw [ht]
    simp +decide (disch := first | omega | decide) only [↓reduceIte, Option.bind_some, nI_clamp, inB_nI, inB_z, cl_z, nI_eqL, nI_leL, nI_ltL, nI_geL, nI_gtL, nI_leI, nI_ltI, nI_eq, nI_1, nI_addL, nI_add]
    refine lp_Q (I := fun i s => s.2 = nI i ∧ RH W B s.1 (writeB F w x.testBit M i)) B (fun r => ∃ held', r = some held' ∧ RH W B held' (behindN F (writeB F w x.testBit M B) F.n)) ?_ ?_ 100000 0 _ (by omega) (by omega) ⟨rfl, hR⟩
    · rintro i ⟨c, y⟩ rec hi ⟨hy, hc⟩
      dsimp only at hy hc
      subst hy
      have h1 := m_value hW hB hF hX hc hw hi (x.testBit i)
      obtain ⟨h', e1, e2⟩ := m_setCell hW hB hF hX hc hw hi (valN F w i (x.testBit i) (writeB F w x.testBit M i w i) F.n)
      left
      refine ⟨(h', nI (i + 1)), ⟨rfl, e2⟩, ?_⟩
      unfold g_Memory_store_13
      simp +decide (disch := first | omega | decide) only [↓reduceIte, Option.bind_some, nI_clamp, inB_nI, inB_z, cl_z, nI_eqL, nI_leL, nI_ltL, nI_geL, nI_gtL, nI_leI, nI_ltI, nI_eq, nI_1, nI_addL, nI_add, Nat.not_le.mpr hi, shl_bit, mb_and, h1, e1]
    · rintro ⟨c, y⟩ rec ⟨hy, hc⟩
      dsimp only at hy hc
      subst hy
      obtain ⟨h', e1, e2⟩ := m_settle hW hB hF hX hc
      refine ⟨h', ?_, e2⟩
      unfold g_Memory_store_13
      simp +decide (disch := first | omega | decide) only [↓reduceIte, Option.bind_some, nI_clamp, inB_nI, inB_z, cl_z, nI_eqL, nI_leL, nI_ltL, nI_geL, nI_gtL, nI_leI, nI_ltI, nI_eq, nI_1, nI_addL, nI_add, Nat.le_refl, e1]
theorem m_pulled (hW : W ≤ 16) (hB : B ≤ 4) (hF : FLok W B F) (hX : FX F cnt touched kinds vW vM oW oM) {held : Nat → Int32} {M : Mem} (hR : RH W B held M) {f w b : Nat} (hf : f < F.n) (hw : w < W) (hb : b < B) (hk : F.kd f = 13) : f_Memory_isPulledDown 4 4 4 4 W vW vM oW oM held (nI f) (nI w) (nI (2 ^ b)) = some (b2 (if F.vw f = w ∧ F.vb f = b then !M (F.aw f) (F.ab f) else if F.aw f = w ∧ F.ab f = b then !M (F.vw f) (F.vb f) else false)) := by
  obtain ⟨k1, k2, k3, k4⟩ := hF.2 f hf
  obtain ⟨m1, m2, m3, m4, m5⟩ := hX.2.1 f hf
  obtain ⟨a1, a2, a3⟩ := k4 (by omega)
  rw [if_pos (by omega)] at m4 m5
  have hn := hF.1
  have hca := RH_mb hR a1 a2
  have hcv := RH_mb hR k2 k3
  unfold f_Memory_isPulledDown
  rw [m_isVictim hW hB hF hX hf hw hb, m_isOther hW hB hF hX hf hw hb]
  by_cases he : F.vw f = w ∧ F.vb f = b
  · rw [if_pos he, decide_eq_true he]
    cases hz : M (F.aw f) (F.ab f)
    · simp +decide (disch := first | omega | decide) only [↓reduceIte, Option.bind_some, nI_clamp, inB_nI, inB_z, cl_z, nI_eqL, nI_leL, nI_ltL, nI_geL, nI_gtL, nI_leI, nI_ltI, nI_eq, nI_1, nI_addL, nI_add, m4, m5, hca, hz, b2_0, Bool.true_eq_false, mb_0] <;> rfl
    · simp +decide (disch := first | omega | decide) only [↓reduceIte, Option.bind_some, nI_clamp, inB_nI, inB_z, cl_z, nI_eqL, nI_leL, nI_ltL, nI_geL, nI_gtL, nI_leI, nI_ltI, nI_eq, nI_1, nI_addL, nI_add, m4, m5, hca, hz, b2_0, Bool.true_eq_false, mb_0] <;> rfl
  · rw [if_neg he, decide_eq_false he]
    by_cases ho : F.aw f = w ∧ F.ab f = b
    · rw [if_pos ho, decide_eq_true (⟨by omega, ho⟩ : 10 ≤ F.kd f ∧ F.aw f = w ∧ F.ab f = b)]
      cases hz : M (F.vw f) (F.vb f)
      · simp +decide (disch := first | omega | decide) only [↓reduceIte, Option.bind_some, nI_clamp, inB_nI, inB_z, cl_z, nI_eqL, nI_leL, nI_ltL, nI_geL, nI_gtL, nI_leI, nI_ltI, nI_eq, nI_1, nI_addL, nI_add, m2, m3, hcv, hz, b2_0, Bool.true_eq_false, mb_0] <;> rfl
      · simp +decide (disch := first | omega | decide) only [↓reduceIte, Option.bind_some, nI_clamp, inB_nI, inB_z, cl_z, nI_eqL, nI_leL, nI_ltL, nI_geL, nI_gtL, nI_leI, nI_ltI, nI_eq, nI_1, nI_addL, nI_add, m2, m3, hcv, hz, b2_0, Bool.true_eq_false, mb_0] <;> rfl
    · rw [if_neg ho, decide_eq_false (fun q => ho q.2 : ¬ (10 ≤ F.kd f ∧ F.aw f = w ∧ F.ab f = b))]
      simp +decide (disch := first | omega | decide) only [↓reduceIte, Option.bind_some, nI_clamp, inB_nI, inB_z, cl_z, nI_eqL, nI_leL, nI_ltL, nI_geL, nI_gtL, nI_leI, nI_ltI, nI_eq, nI_1, nI_addL, nI_add, b2_0] <;> rfl
set_option maxHeartbeats 4000000 in
theorem m_cell (hW : W ≤ 16) (hB : B ≤ 4) (hF : FLok W B F) (hX : FX F cnt touched kinds vW vM oW oM) {held : Nat → Int32} {M : Mem} {S : Nat → Bool} {lt : Int32} (hR : RH W B held M) (hL : RL B lt S) {w b : Nat} (hw : w < W) (hb : b < B) : ∃ held', f_Memory_fetchCell W 4 4 4 4 4 lt held cnt kinds vW vM oW oM (nI w) (nI (2 ^ b)) = some (mb b (readN F w b (S b) M F.n).2, held') ∧ RH W B held' (readN F w b (S b) M F.n).1 := by
  have hF' := hF
  have hX' := hX
  obtain ⟨hn, hf⟩ := hF
  obtain ⟨rfl, hm, -⟩ := hX
  have hcw := RH_mb hR hw hb
  have hlt : lt &&& nI (2 ^ b) = mb b (S b) := by rw [hL, mb_and, pk_bit hb]
  unfold f_Memory_fetchCell
  simp +decide (disch := first | omega | decide) only [↓reduceIte, Option.bind_some, nI_clamp, inB_nI, inB_z, cl_z, nI_eqL, nI_leL, nI_ltL, nI_geL, nI_gtL, nI_leI, nI_ltI, nI_eq, nI_1, nI_addL, nI_add, hcw]
  refine lp_Q (I := fun i s => s.2.2 = nI i ∧ RH W B s.1 (readN F w b (S b) M i).1 ∧ s.2.1 = mb b (readN F w b (S b) M i).2) F.n (fun r => ∃ held', r = some (mb b (readN F w b (S b) M F.n).2, held') ∧ RH W B held' (readN F w b (S b) M F.n).1) ?_ ?_ 100000 0 _ (by omega) (by omega) ⟨rfl, hR, rfl⟩
  · rintro i ⟨c, y, x⟩ rec hi ⟨hx, hc, hy⟩
    dsimp only at hx hc hy
    subst hx hy
    obtain ⟨k1, k2, k3, k4⟩ := hf i hi
    obtain ⟨m1, m2, m3, m4, m5⟩ := hm i hi
    have hni := Nat.not_le.mpr hi
    left
    have e1 : readN F w b (S b) M (i + 1) = read1 F w b (S b) i (readN F w b (S b) M i) := rfl
    rw [e1]
    generalize readN F w b (S b) M i = q at hc ⊢
    obtain ⟨M1, y⟩ := q
    dsimp only at hc ⊢
    have hcw := RH_mb hc hw hb
    unfold g_Memory_fetchCell_12 f_Memory_fetchCell_59 read1
    rw [m_isVictim hW hB hF' hX' hi hw hb]
    by_cases hk13 : F.kd i = 13
    · have hpu := m_pulled hW hB hF' hX' hc hi hw hb hk13
      by_cases he : F.vw i = w ∧ F.vb i = b
      · rw [if_pos he] at hpu
        rw [if_pos hk13, if_pos he]
        cases hz : M1 (F.aw i) (F.ab i)
        · rw [hz] at hpu
          refine ⟨(c, 0, nI (i + 1)), ⟨rfl, hc, by simp [hz, mb_f]⟩, ?_⟩
          simp +decide (disch := first | omega | decide) only [↓reduceIte, Option.bind_some, nI_clamp, inB_nI, inB_z, cl_z, nI_eqL, nI_leL, nI_ltL, nI_geL, nI_gtL, nI_leI, nI_ltI, nI_eq, nI_1, nI_addL, nI_add, m1, hk13, hpu, hni, b2_0, Bool.not_false, Bool.true_eq_false]
        · rw [hz] at hpu
          refine ⟨(c, mb b y, nI (i + 1)), ⟨rfl, hc, by simp [hz]⟩, ?_⟩
          simp +decide (disch := first | omega | decide) only [↓reduceIte, Option.bind_some, nI_clamp, inB_nI, inB_z, cl_z, nI_eqL, nI_leL, nI_ltL, nI_geL, nI_gtL, nI_leI, nI_ltI, nI_eq, nI_1, nI_addL, nI_add, m1, hk13, hpu, hni, b2_0, Bool.not_true, Bool.true_eq_false]
      · rw [if_neg he] at hpu
        rw [if_pos hk13, if_neg he]
        by_cases ho : F.aw i = w ∧ F.ab i = b
        · rw [if_pos ho] at hpu
          rw [if_pos ho]
          cases hz : M1 (F.vw i) (F.vb i)
          · rw [hz] at hpu
            refine ⟨(c, 0, nI (i + 1)), ⟨rfl, hc, by simp [hz, mb_f]⟩, ?_⟩
            simp +decide (disch := first | omega | decide) only [↓reduceIte, Option.bind_some, nI_clamp, inB_nI, inB_z, cl_z, nI_eqL, nI_leL, nI_ltL, nI_geL, nI_gtL, nI_leI, nI_ltI, nI_eq, nI_1, nI_addL, nI_add, m1, hk13, hpu, hni, b2_0, Bool.not_false, Bool.true_eq_false]
          · rw [hz] at hpu
            refine ⟨(c, mb b y, nI (i + 1)), ⟨rfl, hc, by simp [hz]⟩, ?_⟩
            simp +decide (disch := first | omega | decide) only [↓reduceIte, Option.bind_some, nI_clamp, inB_nI, inB_z, cl_z, nI_eqL, nI_leL, nI_ltL, nI_geL, nI_gtL, nI_leI, nI_ltI, nI_eq, nI_1, nI_addL, nI_add, m1, hk13, hpu, hni, b2_0, Bool.not_true, Bool.true_eq_false]
        · rw [if_neg ho] at hpu
          rw [if_neg ho]
          refine ⟨(c, mb b y, nI (i + 1)), ⟨rfl, hc, rfl⟩, ?_⟩
          simp +decide (disch := first | omega | decide) only [↓reduceIte, Option.bind_some, nI_clamp, inB_nI, inB_z, cl_z, nI_eqL, nI_leL, nI_ltL, nI_geL, nI_gtL, nI_leI, nI_ltI, nI_eq, nI_1, nI_addL, nI_add, m1, hk13, hpu, hni, b2_0]
    · rw [if_neg hk13]
      by_cases he : F.vw i = w ∧ F.vb i = b
      · obtain ⟨h', e2, e3⟩ := m_setCell hW hB hF' hX' hc hw hb (!M1 w b)
        rw [if_pos he, decide_eq_true he]
        have hk : F.kd i = 4 ∨ F.kd i = 6 ∨ F.kd i = 7 ∨ F.kd i = 8 ∨ (F.kd i ≠ 4 ∧ F.kd i ≠ 6 ∧ F.kd i ≠ 7 ∧ F.kd i ≠ 8) := by omega
        rcases hk with hk | hk | hk | hk | ⟨q1, q2, q3, q4⟩
        · refine ⟨(c, mb b (S b), nI (i + 1)), ⟨rfl, by simp [hk, hc], by simp [hk]⟩, ?_⟩
          simp +decide (disch := first | omega | decide) only [↓reduceIte, Option.bind_some, nI_clamp, inB_nI, inB_z, cl_z, nI_eqL, nI_leL, nI_ltL, nI_geL, nI_gtL, nI_leI, nI_ltI, nI_eq, nI_1, nI_addL, nI_add, m1, hk, hni, hlt, b2_0, Bool.true_eq_false]
        · refine ⟨(h', mb b (!M1 w b), nI (i + 1)), ⟨rfl, by simp [hk, e3], by simp [hk]⟩, ?_⟩
          simp +decide (disch := first | omega | decide) only [↓reduceIte, Option.bind_some, nI_clamp, inB_nI, inB_z, cl_z, nI_eqL, nI_leL, nI_ltL, nI_geL, nI_gtL, nI_leI, nI_ltI, nI_eq, nI_1, nI_addL, nI_add, m1, hk, hni, hcw, mb_n, e2, b2_0, Bool.true_eq_false]
        · refine ⟨(h', mb b y, nI (i + 1)), ⟨rfl, by simp [hk, e3], by simp [hk]⟩, ?_⟩
          simp +decide (disch := first | omega | decide) only [↓reduceIte, Option.bind_some, nI_clamp, inB_nI, inB_z, cl_z, nI_eqL, nI_leL, nI_ltL, nI_geL, nI_gtL, nI_leI, nI_ltI, nI_eq, nI_1, nI_addL, nI_add, m1, hk, hni, hcw, mb_n, e2, b2_0, Bool.true_eq_false]
        · refine ⟨(c, mb b (!y), nI (i + 1)), ⟨rfl, by simp [hk, hc], by simp [hk]⟩, ?_⟩
          simp +decide (disch := first | omega | decide) only [↓reduceIte, Option.bind_some, nI_clamp, inB_nI, inB_z, cl_z, nI_eqL, nI_leL, nI_ltL, nI_geL, nI_gtL, nI_leI, nI_ltI, nI_eq, nI_1, nI_addL, nI_add, m1, hk, hni, mb_n, b2_0, Bool.true_eq_false]
        · refine ⟨(c, mb b y, nI (i + 1)), ⟨rfl, by simp [q1, q2, q3, q4, hc], by simp [q1, q2, q3, q4]⟩, ?_⟩
          simp +decide (disch := first | omega | decide) only [↓reduceIte, Option.bind_some, nI_clamp, inB_nI, inB_z, cl_z, nI_eqL, nI_leL, nI_ltL, nI_geL, nI_gtL, nI_leI, nI_ltI, nI_eq, nI_1, nI_addL, nI_add, m1, hk13, q1, q2, q3, q4, hni, b2_0, Bool.true_eq_false]
      · rw [if_neg he, decide_eq_false he]
        refine ⟨(c, mb b y, nI (i + 1)), ⟨rfl, hc, rfl⟩, ?_⟩
        simp +decide (disch := first | omega | decide) only [↓reduceIte, Option.bind_some, nI_clamp, inB_nI, inB_z, cl_z, nI_eqL, nI_leL, nI_ltL, nI_geL, nI_gtL, nI_leI, nI_ltI, nI_eq, nI_1, nI_addL, nI_add, m1, hk13, hni, b2_0]
  · rintro ⟨c, y, x⟩ rec ⟨hx, hc, hy⟩
    dsimp only at hx hc hy
    subst hx hy
    refine ⟨c, ?_, hc⟩
    unfold g_Memory_fetchCell_12
    simp +decide (disch := first | omega | decide) only [↓reduceIte, Option.bind_some, nI_clamp, inB_nI, inB_z, cl_z, nI_eqL, nI_leL, nI_ltL, nI_geL, nI_gtL, nI_leI, nI_ltI, nI_eq, nI_1, nI_addL, nI_add, Nat.le_refl]
set_option maxHeartbeats 4000000 in
theorem m_fetch (hW : W ≤ 16) (hB : B ≤ 4) (hF : FLok W B F) (hX : FX F cnt touched kinds vW vM oW oM) {held : Nat → Int32} {M : Mem} {S : Nat → Bool} {lt : Int32} (hR : RH W B held M) (hL : RL B lt S) {w : Nat} (hw : w < W) : ∃ got held', f_Memory_fetch W 4 4 4 4 4 (nI B) lt held cnt touched vW vM kinds oW oM (nI w) = some (got, got, held') ∧ RH W B held' (readM F B w (M, S)).1 ∧ RL B got (readM F B w (M, S)).2 := by
  unfold f_Memory_fetch
  rcases m_touches hX (w := w) (by omega) with ⟨ht, hfree⟩ | ht
  · obtain ⟨h', e1, e2⟩ := m_settle hW hB hF hX hR
    obtain ⟨x, hx, e, hxb⟩ := hR w hw
    refine ⟨held w, h', ?_, ?_, ?_⟩
    · rw [ht]
      simp +decide (disch := first | omega | decide) only [↓reduceIte, Option.bind_some, nI_clamp, inB_nI, inB_z, cl_z, nI_eqL, nI_leL, nI_ltL, nI_geL, nI_gtL, nI_leI, nI_ltI, nI_eq, nI_1, nI_addL, nI_add, e1]
    · unfold readM; rw [readB_free hfree]; exact e2
    · unfold readM RL; rw [readB_free hfree, e]
      exact congrArg nI (pk_uniq hx (fun b hb => by rw [hxb b hb]; simp [hb]))
  · rw [ht]
    simp +decide (disch := first | omega | decide) only [↓reduceIte, Option.bind_some, nI_clamp, inB_nI, inB_z, cl_z, nI_eqL, nI_leL, nI_ltL, nI_geL, nI_gtL, nI_leI, nI_ltI, nI_eq, nI_1, nI_addL, nI_add]
    refine lp_Q (I := fun i s => s.2.2 = nI i ∧ RH W B s.1 (readB F w M S i).1 ∧ s.2.1 = nI (wrN (readB F w M S i).2 (fun _ => false) i)) B (fun r => ∃ got held', r = some (got, got, held') ∧ RH W B held' (readM F B w (M, S)).1 ∧ RL B got (readM F B w (M, S)).2) ?_ ?_ 100000 0 _ (by omega) (by omega) ⟨rfl, hR, rfl⟩
    · rintro i ⟨c, y, x⟩ rec hi ⟨hx, hc, hy⟩
      dsimp only at hx hc hy
      subst hx hy
      obtain ⟨h', e1, e2⟩ := m_cell hW hB hF hX hc hL hw hi
      have eS : (readB F w M S i).2 i = S i := readB_S i i (Nat.le_refl _)
      left
      refine ⟨(h', nI (wrN (readB F w M S i).2 (fun _ => false) i) ||| mb i (readN F w i (S i) (readB F w M S i).1 F.n).2, nI (i + 1)), ⟨rfl, ?_, ?_⟩, ?_⟩
      · show RH W B h' (readN F w i ((readB F w M S i).2 i) (readB F w M S i).1 F.n).1
        rw [eS]; exact e2
      · dsimp only
        have e0 : (readB F w M S (i + 1)).2 = updS (readB F w M S i).2 i (readN F w i ((readB F w M S i).2 i) (readB F w M S i).1 F.n).2 := rfl
        rw [e0, eS]
        have e3 : wrN (updS (readB F w M S i).2 i (readN F w i (S i) (readB F w M S i).1 F.n).2) (fun _ => false) i = wrN (readB F w M S i).2 (fun _ => false) i := wrN_congr i (fun b hb => by simp [updS, Nat.ne_of_lt hb])
        have e4 : updS (readB F w M S i).2 i (readN F w i (S i) (readB F w M S i).1 F.n).2 i = (readN F w i (S i) (readB F w M S i).1 F.n).2 := by simp [updS]
        conv => rhs; unfold wrN
        rw [e3, e4]
        cases (readN F w i (S i) (readB F w M S i).1 F.n).2
        · rw [mb_f, if_pos rfl, show (0 : Int32) = nI 0 from rfl, nI_or, Nat.or_zero]
        · rw [mb_t, if_neg (by decide), nI_or]
      · unfold g_Memory_fetch_22
        simp +decide (disch := first | omega | decide) only [↓reduceIte, Option.bind_some, nI_clamp, inB_nI, inB_z, cl_z, nI_eqL, nI_leL, nI_ltL, nI_geL, nI_gtL, nI_leI, nI_ltI, nI_eq, nI_1, nI_addL, nI_add, Nat.not_le.mpr hi, shl_bit, e1]
    · rintro ⟨c, y, x⟩ rec ⟨hx, hc, hy⟩
      dsimp only at hx hc hy
      subst hx hy
      obtain ⟨h', e1, e2⟩ := m_settle hW hB hF hX hc
      refine ⟨_, h', ?_, e2, rfl⟩
      unfold g_Memory_fetch_22
      simp +decide (disch := first | omega | decide) only [↓reduceIte, Option.bind_some, nI_clamp, inB_nI, inB_z, cl_z, nI_eqL, nI_leL, nI_ltL, nI_geL, nI_gtL, nI_leI, nI_ltI, nI_eq, nI_1, nI_addL, nI_add, Nat.le_refl, e1]
      rfl
set_option maxHeartbeats 4000000 in
theorem m_rest (hW : W ≤ 16) (hB : B ≤ 4) (hF : FLok W B F) (hX : FX F cnt touched kinds vW vM oW oM) {held : Nat → Int32} {M : Mem} (hR : RH W B held M) : ∃ held', f_Memory_rest 4 4 4 W 4 4 cnt vW vM kinds held oW oM = some held' ∧ RH W B held' (pauseM F M) := by
  have hF' := hF
  have hX' := hX
  obtain ⟨hn, hf⟩ := hF
  obtain ⟨rfl, hm, -⟩ := hX
  unfold f_Memory_rest pauseM
  refine lp_Q (I := fun i s => s.2 = nI i ∧ RH W B s.1 (pauseN F M i)) F.n (fun r => ∃ held', r = some held' ∧ RH W B held' (behindN F (pauseN F M F.n) F.n)) ?_ ?_ 100000 0 _ (by omega) (by omega) ⟨rfl, hR⟩
  · rintro i ⟨c, x⟩ rec hi ⟨hx, hc⟩
    dsimp only at hx hc
    subst hx
    obtain ⟨k1, k2, k3, k4⟩ := hf i hi
    obtain ⟨m1, m2, m3, m4, m5⟩ := hm i hi
    have hni := Nat.not_le.mpr hi
    left
    unfold g_Memory_rest_2
    by_cases h0 : F.kd i = 5
    · refine ⟨(upd c (F.vw i) (c (F.vw i) &&& (nI (2 ^ F.vb i) ^^^ (-1))), nI (i + 1)), ⟨rfl, ?_⟩, ?_⟩
      · unfold pauseN
        rw [if_pos h0]
        exact RH_off hc k2 k3 hB
      · simp +decide (disch := first | omega | decide) only [↓reduceIte, Option.bind_some, nI_clamp, inB_nI, inB_z, cl_z, nI_eqL, nI_leL, nI_ltL, nI_geL, nI_gtL, nI_leI, nI_ltI, nI_eq, nI_1, nI_addL, nI_add, m1, m2, m3, h0, hni]
    · refine ⟨(c, nI (i + 1)), ⟨rfl, ?_⟩, ?_⟩
      · unfold pauseN
        rw [if_neg h0]
        exact hc
      · simp +decide (disch := first | omega | decide) only [↓reduceIte, Option.bind_some, nI_clamp, inB_nI, inB_z, cl_z, nI_eqL, nI_leL, nI_ltL, nI_geL, nI_gtL, nI_leI, nI_ltI, nI_eq, nI_1, nI_addL, nI_add, m1, h0, hni]
  · rintro ⟨c, x⟩ rec ⟨hx, hc⟩
    dsimp only at hx hc
    subst hx
    obtain ⟨h', e1, e2⟩ := m_settle hW hB hF' hX' hc
    refine ⟨h', ?_, e2⟩
    unfold g_Memory_rest_2
    simp +decide (disch := first | omega | decide) only [↓reduceIte, Option.bind_some, nI_clamp, inB_nI, inB_z, cl_z, nI_eqL, nI_leL, nI_ltL, nI_geL, nI_gtL, nI_leI, nI_ltI, nI_eq, nI_1, nI_addL, nI_add, Nat.le_refl, e1]
set_option maxHeartbeats 4000000 in
theorem m_begin (hW : W ≤ 16) (hB : B ≤ 4) (hF : FLok W B F) (hX : FX F cnt touched kinds vW vM oW oM) (held : Nat → Int32) : ∃ held', f_Memory_begin 4 4 4 W 4 4 (nI W) cnt vW vM kinds held oW oM = some (0, held') ∧ RH W B held' (behindN F (fun _ _ => false) F.n) := by
  unfold f_Memory_begin
  refine lp_Q (I := fun i s => s.2 = nI i ∧ ∀ w, w < i → s.1 w = 0) W (fun r => ∃ held', r = some (0, held') ∧ RH W B held' (behindN F (fun _ _ => false) F.n)) ?_ ?_ 100000 0 _ (by omega) (by omega) ⟨rfl, fun w hw => by omega⟩
  · rintro i ⟨c, x⟩ rec hi ⟨hx, hc⟩
    dsimp only at hx hc
    subst hx
    left
    refine ⟨(upd c i 0, nI (i + 1)), ⟨rfl, fun w hw => ?_⟩, ?_⟩
    · by_cases e : w = i
      · subst e; exact upd_s
      · show upd c i 0 w = 0
        rw [upd_n e]; exact hc w (by omega)
    · unfold g_Memory_begin_12
      simp +decide (disch := first | omega | decide) only [↓reduceIte, Option.bind_some, nI_clamp, inB_nI, inB_z, cl_z, nI_eqL, nI_leL, nI_ltL, nI_geL, nI_gtL, nI_leI, nI_ltI, nI_eq, nI_1, nI_addL, nI_add, Nat.not_le.mpr hi]
  · rintro ⟨c, x⟩ rec ⟨hx, hc⟩
    dsimp only at hx hc
    subst hx
    have h0 : RH W B c (fun _ _ => false) := fun w hw => ⟨0, Nat.two_pow_pos B, hc w hw, fun b _ => Nat.zero_testBit b⟩
    obtain ⟨h', e1, e2⟩ := m_settle hW hB hF hX h0
    refine ⟨h', ?_, e2⟩
    unfold g_Memory_begin_12
    simp +decide (disch := first | omega | decide) only [↓reduceIte, Option.bind_some, nI_clamp, inB_nI, inB_z, cl_z, nI_eqL, nI_leL, nI_ltL, nI_geL, nI_gtL, nI_leI, nI_ltI, nI_eq, nI_1, nI_addL, nI_add, Nat.le_refl, e1]
end MTF
