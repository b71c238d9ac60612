theorem pkB_lt (x : Nat → Bool) (B : Nat) : wrN x (fun _ => false) B < 2 ^ B := wrN_lt _ _ B
theorem pk_not {x : Nat → Bool} {B : Nat} : nI (wrN x (fun _ => false) B) ^^^ nI (2 ^ B - 1) = nI (wrN (fun b => !x b) (fun _ => false) B) := by
  rw [nI_xor]
  congr 1
  apply Nat.eq_of_testBit_eq
  intro i
  rw [Nat.testBit_xor, Nat.testBit_two_pow_sub_one, wrN_bit, wrN_bit]
  by_cases h : i < B <;> simp [h]
theorem pk_wrong {x t : Nat → Bool} {B : Nat} : nI (wrN x (fun _ => false) B) ^^^ nI (wrN t (fun _ => false) B) = nI (wrN x t B) := by
  rw [nI_xor]
  congr 1
  apply Nat.eq_of_testBit_eq
  intro i
  rw [Nat.testBit_xor, wrN_bit, wrN_bit, wrN_bit]
  by_cases h : i < B
  · cases x i <;> cases t i <;> simp [h]
  · simp [h]
theorem writeB_congr {F : FL} {w : Nat} {p q : Nat → Bool} {M : Mem} : ∀ b, (∀ c, c < b → p c = q c) → writeB F w p M b = writeB F w q M b
  | 0, _ => rfl
  | b + 1, h => by
    show setM F w b (valN F w b (p b) (writeB F w p M b w b) F.n) (writeB F w p M b) = setM F w b (valN F w b (q b) (writeB F w q M b w b) F.n) (writeB F w q M b)
    rw [writeB_congr b (fun c hc => h c (by omega)), h b (by omega)]
theorem writeM_pk {F : FL} {B w : Nat} {p : Nat → Bool} {M : Mem} : writeM F B w (wrN p (fun _ => false) B).testBit M = writeM F B w p M := by
  unfold writeM
  rw [writeB_congr B (fun c hc => pk_bit hc)]
theorem row_bits : ∀ s, s < 2 → ∀ o, o < 4 → ∀ l : Bool, ((nI (rowA s o l) &&& 4 = 0) ↔ o % 2 = 0) ∧ ((nI (rowA s o l) &&& 2 = 0) ↔ o < 2) ∧ ((nI (rowA s o l) &&& 1 = 0) ↔ s = 0) ∧ ((nI (rowA s o l) &&& 16 = 0)) := by decide +kernel
def Xst (W B : Nat) (keep : Bool) (c0 : Int32) (f0 : Nat → Int32) (lt : Int32) (held : Nat → Int32) (cnt : Int32) (arr : Nat → Int32) (st : RSt) : Prop := RH W B held st.1.1 ∧ RL B lt st.1.2 ∧ KP keep c0 f0 cnt arr st.2 ∧ (keep = false → st.2 = [])
section MTR
variable {W B g ports : Nat} {F : FL} {P : Nat → Nat} {cnt touched : Int32} {kinds vW vM oW oM : Nat → Int32} {a : MA} {elements rowCount : Int32} {firstRows rows wordAt zeroOf : Nat → Int32} {keep : Bool} {c0 : Int32} {f0 : Nat → Int32}
set_option maxHeartbeats 4000000 in
theorem m_operate (hW0 : 0 < W) (hW : W ≤ 16) (hB : B ≤ 4) (hpt : ports ≤ 2) (hF : FLok W B F) (hX : FX F cnt touched kinds vW vM oW oM) (hP : ∀ p, p < W → P p < W ∧ wordAt p = nI (P p)) (hZ : ∀ w, w < W → zeroOf w = nI (wrN (gr g w) (fun _ => false) B)) {p s o : Nat} {l : Bool} (hp : p < W) (hs : s < 2) (ho : o < 4)
    {lt : Int32} {held : Nat → Int32} {q : Mem × (Nat → Bool)} (hR : RH W B held q.1) (hL : RL B lt q.2) :
    ∃ lt' held', f_Tester_operate W W W 4 4 4 4 4 (nI ports) (nI W) (nI (2 ^ B - 1)) wordAt zeroOf (nI B) lt cnt touched held vW vM kinds oW oM (nI (rowA s o l)) (nI p) = some (nI (opA (F, B, W, g, P, ports) p o q).2, lt', held') ∧ RH W B held' (opA (F, B, W, g, P, ports) p o q).1.1 ∧ RL B lt' (opA (F, B, W, g, P, ports) p o q).1.2 := by
  obtain ⟨M, S⟩ := q
  dsimp only at hR hL
  obtain ⟨b4, b2', -, -⟩ := row_bits s hs o ho l
  obtain ⟨hpw, hwa⟩ := hP p hp
  have hz := hZ (P p) hpw
  have key : ∀ v : Bool, v = decide (o % 2 = 1) → ∃ lt' held', f_Tester_operate_33 W W 4 4 4 4 4 (nI ports) (nI W) wordAt (nI B) lt cnt touched held vW vM kinds oW oM (nI (wrN (fun b => v != gr g (P p) b) (fun _ => false) B)) (nI (rowA s o l)) (nI p) (nI (P p)) = some (nI (opA (F, B, W, g, P, ports) p o (M, S)).2, lt', held') ∧ RH W B held' (opA (F, B, W, g, P, ports) p o (M, S)).1.1 ∧ RL B lt' (opA (F, B, W, g, P, ports) p o (M, S)).1.2 := by
    intro v hv
    unfold f_Tester_operate_33 opA
    by_cases h2 : o < 2
    · have e1 : decide (o = 1) = v := by rw [hv]; rcases (show o = 0 ∨ o = 1 by omega) with rfl | rfl <;> rfl
      obtain ⟨h', w1, w2⟩ := m_store hW hB hF hX hR hpw (pkB_lt (fun b => v != gr g (P p) b) B)
      rw [writeM_pk] at w2
      refine ⟨lt, h', ?_, ?_, ?_⟩
      · rw [if_pos (b2'.mpr h2), w1]
        simp only [if_pos h2]
        rfl
      · simp only [if_pos h2]; rw [e1]; exact w2
      · simp only [if_pos h2]; exact hL
    · have e1 : decide (o = 3) = v := by rw [hv]; rcases (show o = 2 ∨ o = 3 by omega) with rfl | rfl <;> rfl
      obtain ⟨got, h', w1, w2, w3⟩ := m_fetch hW hB hF hX hR hL hpw
      obtain rfl : got = nI (wrN (readM F B (P p) (M, S)).2 (fun _ => false) B) := w3
      have w3 : RL B (nI (wrN (readM F B (P p) (M, S)).2 (fun _ => false) B)) (readM F B (P p) (M, S)).2 := rfl
      by_cases hp2 : ports = 2
      · have hq : (p + 1) % W < W := Nat.mod_lt _ hW0
        obtain ⟨hqw, hqa⟩ := hP _ hq
        obtain ⟨got2, h2', u1, u2, u3⟩ := m_fetch hW hB hF hX w2 w3 hqw
        refine ⟨got2, h2', ?_, ?_, ?_⟩
        · rw [if_neg (fun z => h2 (b2'.mp z)), w1]
          simp only [if_neg h2]
          by_cases hl : W ≤ p + 1
          · have hm : (p + 1) % W = 0 := by rw [show p + 1 = W by omega, Nat.mod_self]
            rw [hm] at hqa u1
            simp +decide (disch := first | omega | decide) only [↓reduceIte, Option.bind_some, nI_clamp, inB_nI, inB_z, cl_z, nI_eqL, nI_leL, nI_ltL, nI_geL, nI_gtL, nI_leI, nI_ltI, nI_eq, nI_1, nI_addL, nI_add, hp2, hl, hqa, u1, e1, pk_wrong]
          · have hm : (p + 1) % W = p + 1 := Nat.mod_eq_of_lt (by omega)
            rw [hm] at hqa u1
            simp +decide (disch := first | omega | decide) only [↓reduceIte, Option.bind_some, nI_clamp, inB_nI, inB_z, cl_z, nI_eqL, nI_leL, nI_ltL, nI_geL, nI_gtL, nI_leI, nI_ltI, nI_eq, nI_1, nI_addL, nI_add, hp2, hl, hqa, u1, e1, pk_wrong]
        · simp only [if_neg h2, if_pos hp2]; exact u2
        · simp only [if_neg h2, if_pos hp2]; exact u3
      · refine ⟨nI (wrN (readM F B (P p) (M, S)).2 (fun _ => false) B), h', ?_, ?_, ?_⟩
        · rw [if_neg (fun z => h2 (b2'.mp z)), w1]
          simp only [if_neg h2]
          simp +decide (disch := first | omega | decide) only [↓reduceIte, Option.bind_some, nI_clamp, inB_nI, inB_z, cl_z, nI_eqL, nI_leL, nI_ltL, nI_geL, nI_gtL, nI_leI, nI_ltI, nI_eq, nI_1, nI_addL, nI_add, hp2, e1, pk_wrong]
        · simp only [if_neg h2, if_neg hp2]; exact w2
        · simp only [if_neg h2, if_neg hp2]; exact w3
  unfold f_Tester_operate
  by_cases h4 : o % 2 = 0
  · obtain ⟨lt', h', e1, e2, e3⟩ := key false (by simp [h4])
    refine ⟨lt', h', ?_, e2, e3⟩
    rw [← e1]
    have hc : ((nI (rowA s o l) &&& 4) = 0) = True := eq_true (b4.mpr h4)
    simp +decide (disch := first | omega | decide) only [↓reduceIte, Option.bind_some, nI_clamp, inB_nI, inB_z, cl_z, nI_eqL, nI_leL, nI_ltL, nI_geL, nI_gtL, nI_leI, nI_ltI, nI_eq, nI_1, nI_addL, nI_add, hwa, hz, hc, Bool.false_bne]
  · obtain ⟨lt', h', e1, e2, e3⟩ := key true (by simp [show o % 2 = 1 by omega])
    refine ⟨lt', h', ?_, e2, e3⟩
    rw [← e1]
    have hc : ((nI (rowA s o l) &&& 4) = 0) = False := eq_false (fun z => h4 (b4.mp z))
    simp +decide (disch := first | omega | decide) only [↓reduceIte, Option.bind_some, nI_clamp, inB_nI, inB_z, cl_z, nI_eqL, nI_leL, nI_ltL, nI_geL, nI_gtL, nI_leI, nI_ltI, nI_eq, nI_1, nI_addL, nI_add, hwa, hz, hc, pk_not, Bool.true_bne]
set_option maxHeartbeats 4000000 in
theorem m_ops (hW0 : 0 < W) (hW : W ≤ 16) (hB : B ≤ 4) (hpt : ports ≤ 2) (hF : FLok W B F) (hX : FX F cnt touched kinds vW vM oW oM) (hP : ∀ p, p < W → P p < W ∧ wordAt p = nI (P p)) (hZ : ∀ w, w < W → zeroOf w = nI (wrN (gr g w) (fun _ => false) B)) (ha : MAok a) (hA : AX a elements rowCount firstRows rows) {e p n0 : Nat} (he : e < a.1) (h2 : a.2.1 e ≠ 2) (hp : p < W) {x8 : Int32}
    {lt : Int32} {held : Nat → Int32} {c1 : Int32} {arr : Nat → Int32} {st : RSt} (hS : Xst W B keep c0 f0 lt held c1 arr st) (hn0 : keep = false → n0 = 0) (hn1 : n0 ≤ st.2.length) (rec43 : (Int32 × (Nat → Int32) × Int32 × (Nat → Int32) × Int32 × Int32) → Option (Int32 × Int32 × (Nat → Int32) × Int32 × (Nat → Int32))) :
    (∃ lt' held' c2 arr', lp (g_Tester_elementFails_77 128 W W W 4 4 4 4 4 1200 rows (nI ports) (nI W) (nI (2 ^ B - 1)) (nI B) cnt touched wordAt zeroOf vW vM kinds oW oM (nI e) (b2 keep) (nI (frA a e)) (nI (frA a e + a.2.2.1 e)) x8 (nI p) rec43) 100000 (lt, held, c1, arr, nI (frA a e), b2 (decide (n0 < st.2.length))) = rec43 (lt', held', c2, arr', b2 (decide (n0 < (opsA (F, B, W, g, P, ports) a e p st (a.2.2.1 e)).2.length)), x8 + 1) ∧ Xst W B keep c0 f0 lt' held' c2 arr' (opsA (F, B, W, g, P, ports) a e p st (a.2.2.1 e)))
    ∨ (keep = false ∧ ∃ y, lp (g_Tester_elementFails_77 128 W W W 4 4 4 4 4 1200 rows (nI ports) (nI W) (nI (2 ^ B - 1)) (nI B) cnt touched wordAt zeroOf vW vM kinds oW oM (nI e) (b2 keep) (nI (frA a e)) (nI (frA a e + a.2.2.1 e)) x8 (nI p) rec43) 100000 (lt, held, c1, arr, nI (frA a e), b2 (decide (n0 < st.2.length))) = some (1, y) ∧ y.2.2 = (c0, f0) ∧ 0 < (opsA (F, B, W, g, P, ports) a e p st (a.2.2.1 e)).2.length) := by
  obtain ⟨e1, e2, e3, e4⟩ := ha.2 e he
  obtain ⟨-, -, -, hA4⟩ := hA
  have hrow := (hA4 e he).2 h2
  have hfr := fr_le ha e (by omega)
  have h16 := ha.1
  obtain ⟨hpw, hwa⟩ := hP p hp
  refine lp_Q (I := fun i (s : Int32 × (Nat → Int32) × Int32 × (Nat → Int32) × Int32 × Int32) => s.2.2.2.2.1 = nI (frA a e + i) ∧ s.2.2.2.2.2 = b2 (decide (n0 < (opsA (F, B, W, g, P, ports) a e p st i).2.length)) ∧ Xst W B keep c0 f0 s.1 s.2.1 s.2.2.1 s.2.2.2.1 (opsA (F, B, W, g, P, ports) a e p st i)) (a.2.2.1 e) (fun (r : Option (Int32 × Int32 × (Nat → Int32) × Int32 × (Nat → Int32))) => (∃ lt' held' c2 arr', r = rec43 (lt', held', c2, arr', b2 (decide (n0 < (opsA (F, B, W, g, P, ports) a e p st (a.2.2.1 e)).2.length)), x8 + 1) ∧ Xst W B keep c0 f0 lt' held' c2 arr' (opsA (F, B, W, g, P, ports) a e p st (a.2.2.1 e))) ∨ (keep = false ∧ ∃ y, r = some (1, y) ∧ y.2.2 = (c0, f0) ∧ 0 < (opsA (F, B, W, g, P, ports) a e p st (a.2.2.1 e)).2.length)) ?_ ?_ 100000 0 _ (by omega) (by omega) ⟨rfl, rfl, hS⟩
  · rintro i ⟨l1, h1, c, ar, x, fd⟩ rec hi ⟨hx, hfd, hc⟩
    dsimp only at hx hfd hc
    subst hx hfd
    obtain ⟨r1, r2, r3, r4⟩ := hc
    obtain ⟨lt', h', w1, w2, w3⟩ := m_operate (g := g) (P := P) hW0 hW hB hpt hF hX hP hZ (l := decide (i + 1 = a.2.2.1 e)) hp (show a.2.1 e < 2 by omega) (e4 i hi) r1 r2
    have hr := hrow i hi
    have hni : ¬ (frA a e + a.2.2.1 e ≤ frA a e + i) := by omega
    have es : opsA (F, B, W, g, P, ports) a e p st (i + 1) = stepA (F, B, W, g, P, ports) a e p i (opsA (F, B, W, g, P, ports) a e p st i) := rfl
    have hlen := ops_mono (F, B, W, g, P, ports) a e p st i
    have hmono := ops_mono2 (F, B, W, g, P, ports) a e p st (show i + 1 ≤ a.2.2.1 e by omega)
    rw [es] at hmono ⊢
    generalize opsA (F, B, W, g, P, ports) a e p st i = q at r1 r2 r3 r4 w1 w2 w3 hmono hlen ⊢
    obtain ⟨q1, fl⟩ := q
    dsimp only at r1 r2 r3 r4 w1 w2 w3 hlen
    have hx16 : (opA (F, B, W, g, P, ports) p (a.2.2.2 e i) q1).2 < 2 ^ 31 := by
      unfold opA; dsimp only
      split
      · exact (by decide : (0 : Nat) < 2 ^ 31)
      · exact Nat.lt_of_lt_of_le (wrN_lt _ _ B) (Nat.pow_le_pow_right (by decide) (by omega))
    unfold stepA at hmono ⊢
    dsimp only at hmono ⊢
    generalize opA (F, B, W, g, P, ports) p (a.2.2.2 e i) q1 = z at w1 w2 w3 hx16 hmono ⊢
    obtain ⟨z1, z2⟩ := z
    dsimp only at w1 w2 w3 hx16 hmono ⊢
    unfold g_Tester_elementFails_77
    by_cases hz : z2 = 0
    · left
      rw [if_pos hz]
      refine ⟨(lt', h', c, ar, nI (frA a e + (i + 1)), b2 (decide (n0 < fl.length))), ⟨rfl, rfl, w2, w3, r3, r4⟩, ?_⟩
      simp +decide (disch := first | omega | decide) only [↓reduceIte, Option.bind_some, nI_clamp, inB_nI, inB_z, cl_z, nI_eqL, nI_leL, nI_ltL, nI_geL, nI_gtL, nI_leI, nI_ltI, nI_eq, nI_1, nI_addL, nI_add, hni, hr, w1, hz, Nat.add_assoc]
    · rw [if_neg hz] at hmono ⊢
      cases keep
      · right; right
        have r3' : c = c0 ∧ ar = f0 := r3
        refine ⟨rfl, (lt', h', c, ar), ?_, by rw [r3'.1, r3'.2], Nat.lt_of_lt_of_le (by simp) hmono⟩
        simp +decide (disch := first | omega | decide) only [↓reduceIte, Option.bind_some, nI_clamp, inB_nI, inB_z, cl_z, nI_eqL, nI_leL, nI_ltL, nI_geL, nI_gtL, nI_leI, nI_ltI, nI_eq, nI_1, nI_addL, nI_add, hni, hr, w1, hz, b2_0]
      · left
        obtain ⟨c3, ar3, v1, v2⟩ := m_add (show FA c ar fl from r3) (e := e) (k := i) (w := P p) (x := z2)
        refine ⟨(lt', h', c3, ar3, nI (frA a e + (i + 1)), 1), ⟨rfl, ?_, w2, w3, v2, fun q => by cases q⟩, ?_⟩
        · dsimp only
          rw [decide_eq_true (by simp; omega)]; rfl
        · have hsub : nI (frA a e + i) - nI (frA a e) = nI i := by rw [pk_sub (by omega)]; congr 1; omega
          simp +decide (disch := first | omega | decide) only [↓reduceIte, Option.bind_some, nI_clamp, inB_nI, inB_z, cl_z, nI_eqL, nI_leL, nI_ltL, nI_geL, nI_gtL, nI_leI, nI_ltI, nI_eq, nI_1, nI_addL, nI_add, hni, hr, w1, hz, b2_0, Bool.true_eq_false, hwa, hsub, v1, Nat.add_assoc]
  · rintro ⟨l1, h1, c, ar, x, fd⟩ rec ⟨hx, hfd, hc⟩
    dsimp only at hx hfd hc
    subst hx hfd
    left
    refine ⟨l1, h1, c, ar, ?_, hc⟩
    unfold g_Tester_elementFails_77
    simp +decide (disch := first | omega | decide) only [↓reduceIte, Option.bind_some, nI_clamp, inB_nI, inB_z, cl_z, nI_eqL, nI_leL, nI_ltL, nI_geL, nI_gtL, nI_leI, nI_ltI, nI_eq, nI_1, nI_addL, nI_add, Nat.le_refl]
set_option maxHeartbeats 4000000 in
theorem m_element (hW0 : 0 < W) (hW : W ≤ 16) (hB : B ≤ 4) (hpt : ports ≤ 2) (hF : FLok W B F) (hX : FX F cnt touched kinds vW vM oW oM) (hP : ∀ p, p < W → P p < W ∧ wordAt p = nI (P p)) (hZ : ∀ w, w < W → zeroOf w = nI (wrN (gr g w) (fun _ => false) B)) (ha : MAok a) (hA : AX a elements rowCount firstRows rows) {e : Nat} (he : e < a.1) (h2 : a.2.1 e ≠ 2)
    {lt : Int32} {held : Nat → Int32} {c1 : Int32} {arr : Nat → Int32} {st : RSt} (hS : Xst W B keep c0 f0 lt held c1 arr st) :
    (∃ lt' held' c2 arr', f_Tester_elementFails 17 128 W W W 4 4 4 4 4 1200 firstRows rows (nI ports) (nI W) (nI (2 ^ B - 1)) (nI B) lt cnt touched wordAt zeroOf held vW vM kinds oW oM c1 arr (nI e) (b2 keep) = some (b2 (decide (st.2.length < (elA (F, B, W, g, P, ports) a e st W).2.length)), lt', held', c2, arr') ∧ Xst W B keep c0 f0 lt' held' c2 arr' (elA (F, B, W, g, P, ports) a e st W))
    ∨ (keep = false ∧ ∃ y, f_Tester_elementFails 17 128 W W W 4 4 4 4 4 1200 firstRows rows (nI ports) (nI W) (nI (2 ^ B - 1)) (nI B) lt cnt touched wordAt zeroOf held vW vM kinds oW oM c1 arr (nI e) (b2 keep) = some (1, y) ∧ y.2.2 = (c0, f0) ∧ 0 < (elA (F, B, W, g, P, ports) a e st W).2.length) := by
  obtain ⟨e1, e2, e3, e4⟩ := ha.2 e he
  have hA' := hA
  obtain ⟨-, -, hA3, hA4⟩ := hA
  have hrow := (hA4 e he).2 h2
  have hfr := fr_le ha e (by omega)
  have hfr1 := fr_le ha (e + 1) (by omega)
  have h16 := ha.1
  have hf1 := hA3 e (by omega)
  have hf2 := hA3 (e + 1) (by omega)
  have hfe : frA a (e + 1) = frA a e + a.2.2.1 e := by show frA a e + _ = _; rw [if_neg h2]
  rw [hfe] at hf2
  have hr0 := hrow 0 (e2 h2)
  rw [Nat.add_zero] at hr0
  obtain ⟨-, -, b1, -⟩ := row_bits (a.2.1 e) (by omega) (a.2.2.2 e 0) (e4 0 (e2 h2)) (decide (0 + 1 = a.2.2.1 e))
  have hn0 : keep = false → st.2.length = 0 := fun h => by rw [hS.2.2.2 h]; rfl
  have key : ∀ d : Nat, d = (if a.2.1 e = 1 then 1 else 0) → (∃ lt' held' c2 arr', lp (g_Tester_elementFails_43 128 W W W 4 4 4 4 4 1200 rows (nI ports) (nI W) (nI (2 ^ B - 1)) (nI B) cnt touched wordAt zeroOf vW vM kinds oW oM (nI e) (b2 keep) (nI (frA a e)) (nI (frA a e + a.2.2.1 e)) (nI d)) 100000 (lt, held, c1, arr, 0, 0) = some (b2 (decide (st.2.length < (elA (F, B, W, g, P, ports) a e st W).2.length)), lt', held', c2, arr') ∧ Xst W B keep c0 f0 lt' held' c2 arr' (elA (F, B, W, g, P, ports) a e st W))
      ∨ (keep = false ∧ ∃ y, lp (g_Tester_elementFails_43 128 W W W 4 4 4 4 4 1200 rows (nI ports) (nI W) (nI (2 ^ B - 1)) (nI B) cnt touched wordAt zeroOf vW vM kinds oW oM (nI e) (b2 keep) (nI (frA a e)) (nI (frA a e + a.2.2.1 e)) (nI d)) 100000 (lt, held, c1, arr, 0, 0) = some (1, y) ∧ y.2.2 = (c0, f0) ∧ 0 < (elA (F, B, W, g, P, ports) a e st W).2.length) := by
    intro d hd
    refine lp_Q (I := fun i (s : Int32 × (Nat → Int32) × Int32 × (Nat → Int32) × Int32 × Int32) => s.2.2.2.2.2 = nI i ∧ s.2.2.2.2.1 = b2 (decide (st.2.length < (elA (F, B, W, g, P, ports) a e st i).2.length)) ∧ Xst W B keep c0 f0 s.1 s.2.1 s.2.2.1 s.2.2.2.1 (elA (F, B, W, g, P, ports) a e st i)) W (fun (r : Option (Int32 × Int32 × (Nat → Int32) × Int32 × (Nat → Int32))) => (∃ lt' held' c2 arr', r = some (b2 (decide (st.2.length < (elA (F, B, W, g, P, ports) a e st W).2.length)), lt', held', c2, arr') ∧ Xst W B keep c0 f0 lt' held' c2 arr' (elA (F, B, W, g, P, ports) a e st W)) ∨ (keep = false ∧ ∃ y, r = some (1, y) ∧ y.2.2 = (c0, f0) ∧ 0 < (elA (F, B, W, g, P, ports) a e st W).2.length)) ?_ ?_ 100000 0 _ (by omega) (by omega) ⟨rfl, ?_, hS⟩
    · rintro i ⟨l1, h1, c, ar, fd, x⟩ rec hi ⟨hx, hfd, hc⟩
      dsimp only at hx hfd hc
      subst hx hfd
      have hp : plA (F, B, W, g, P, ports) a e i < W := by
        unfold plA; dsimp only; split <;> omega
      have hm := el_mono (F, B, W, g, P, ports) a e st (Nat.zero_le i)
      have hm2 := el_mono (F, B, W, g, P, ports) a e st (show i + 1 ≤ W by omega)
      have hgo : g_Tester_elementFails_43 128 W W W 4 4 4 4 4 1200 rows (nI ports) (nI W) (nI (2 ^ B - 1)) (nI B) cnt touched wordAt zeroOf vW vM kinds oW oM (nI e) (b2 keep) (nI (frA a e)) (nI (frA a e + a.2.2.1 e)) (nI d) rec (l1, h1, c, ar, b2 (decide (st.2.length < (elA (F, B, W, g, P, ports) a e st i).2.length)), nI i) = lp (g_Tester_elementFails_77 128 W W W 4 4 4 4 4 1200 rows (nI ports) (nI W) (nI (2 ^ B - 1)) (nI B) cnt touched wordAt zeroOf vW vM kinds oW oM (nI e) (b2 keep) (nI (frA a e)) (nI (frA a e + a.2.2.1 e)) (nI i) (nI (plA (F, B, W, g, P, ports) a e i)) rec) 100000 (l1, h1, c, ar, nI (frA a e), b2 (decide (st.2.length < (elA (F, B, W, g, P, ports) a e st i).2.length))) := by
        unfold g_Tester_elementFails_43 plA
        dsimp only
        by_cases hs1 : a.2.1 e = 1
        · rw [if_pos hs1] at hd
          have e5 : nI W - 1 = nI (W - 1) := pk_sub (b := 1) hW0
          have e6 : nI (W - 1) - nI i = nI (W - 1 - i) := pk_sub (by omega)
          simp +decide (disch := first | omega | decide) only [↓reduceIte, Option.bind_some, nI_clamp, inB_nI, inB_z, cl_z, nI_eqL, nI_leL, nI_ltL, nI_geL, nI_gtL, nI_leI, nI_ltI, nI_eq, nI_1, nI_addL, nI_add, Nat.not_le.mpr hi, hd, hs1, e5, e6]
        · rw [if_neg hs1] at hd
          simp +decide (disch := first | omega | decide) only [↓reduceIte, Option.bind_some, nI_clamp, inB_nI, inB_z, cl_z, nI_eqL, nI_leL, nI_ltL, nI_geL, nI_gtL, nI_leI, nI_ltI, nI_eq, nI_1, nI_addL, nI_add, Nat.not_le.mpr hi, hd, hs1]
      rw [hgo]
      rcases m_ops hW0 hW hB hpt hF hX hP hZ ha hA' he h2 hp (x8 := nI i) (n0 := st.2.length) hc hn0 hm rec with ⟨l2, h3, c2, ar2, q1, q2⟩ | ⟨q1, y, q2, q4, q3⟩
      · left
        refine ⟨(l2, h3, c2, ar2, _, nI (i + 1)), ⟨rfl, rfl, q2⟩, ?_⟩
        rw [q1, nI_1]
        rfl
      · right; right
        exact ⟨q1, y, q2, q4, Nat.lt_of_lt_of_le q3 hm2⟩
    · rintro ⟨l1, h1, c, ar, fd, x⟩ rec ⟨hx, hfd, hc⟩
      dsimp only at hx hfd hc
      subst hx hfd
      left
      refine ⟨l1, h1, c, ar, ?_, hc⟩
      unfold g_Tester_elementFails_43
      have hib : ∀ u : Bool, isB (b2 u) = true := by decide
      simp +decide (disch := first | omega | decide) only [↓reduceIte, Option.bind_some, nI_clamp, inB_nI, inB_z, cl_z, nI_eqL, nI_leL, nI_ltL, nI_geL, nI_gtL, nI_leI, nI_ltI, nI_eq, nI_1, nI_addL, nI_add, Nat.le_refl, hib]
    · show (0 : Int32) = b2 (decide (st.2.length < st.2.length))
      rw [decide_eq_false (Nat.lt_irrefl _)]; rfl
  unfold f_Tester_elementFails f_Tester_elementFails_35
  by_cases hs1 : a.2.1 e = 1
  · have k1 := key 1 (by rw [if_pos hs1])
    have hc1 : (nI (rowA (a.2.1 e) (a.2.2.2 e 0) (decide (0 + 1 = a.2.2.1 e))) &&& 1 = 0) = False := eq_false (fun q => by rw [b1] at q; omega)
    simp +decide (disch := first | omega | decide) only [↓reduceIte, Option.bind_some, nI_clamp, inB_nI, inB_z, cl_z, nI_eqL, nI_leL, nI_ltL, nI_geL, nI_gtL, nI_leI, nI_ltI, nI_eq, nI_1, nI_addL, nI_add, hf1, hf2, hr0, hc1]
    exact k1
  · have k1 := key 0 (by rw [if_neg hs1])
    have hc1 : (nI (rowA (a.2.1 e) (a.2.2.2 e 0) (decide (0 + 1 = a.2.2.1 e))) &&& 1 = 0) = True := eq_true (b1.mpr (by omega))
    simp +decide (disch := first | omega | decide) only [↓reduceIte, Option.bind_some, nI_clamp, inB_nI, inB_z, cl_z, nI_eqL, nI_leL, nI_ltL, nI_geL, nI_gtL, nI_leI, nI_ltI, nI_eq, nI_1, nI_addL, nI_add, hf1, hf2, hr0, hc1]
    exact k1
end MTR
