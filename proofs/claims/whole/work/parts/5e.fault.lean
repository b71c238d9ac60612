def FL.push (F : FL) (k vw vb aw ab : Nat) : FL := (F.n + 1, fun f => if f = F.n then k else F.kd f, fun f => if f = F.n then vw else F.vw f, fun f => if f = F.n then vb else F.vb f, fun f => if f = F.n then aw else F.aw f, fun f => if f = F.n then ab else F.ab f)
theorem push_n {F : FL} {k vw vb aw ab : Nat} : (F.push k vw vb aw ab).n = F.n + 1 := rfl
theorem push_at {F : FL} {k vw vb aw ab : Nat} : (F.push k vw vb aw ab).kd F.n = k ∧ (F.push k vw vb aw ab).vw F.n = vw ∧ (F.push k vw vb aw ab).vb F.n = vb ∧ (F.push k vw vb aw ab).aw F.n = aw ∧ (F.push k vw vb aw ab).ab F.n = ab := ⟨if_pos rfl, if_pos rfl, if_pos rfl, if_pos rfl, if_pos rfl⟩
theorem push_old {F : FL} {k vw vb aw ab f : Nat} (h : f < F.n) : (F.push k vw vb aw ab).kd f = F.kd f ∧ (F.push k vw vb aw ab).vw f = F.vw f ∧ (F.push k vw vb aw ab).vb f = F.vb f ∧ (F.push k vw vb aw ab).aw f = F.aw f ∧ (F.push k vw vb aw ab).ab f = F.ab f := by
  have e : ¬ f = F.n := by omega
  exact ⟨if_neg e, if_neg e, if_neg e, if_neg e, if_neg e⟩
def FL.add (B : Nat) (F : FL) (k c o : Nat) : FL := F.push k (c / B) (c % B) (if 10 ≤ k then o / B else 0) (if 10 ≤ k then o % B else 0)
theorem cell_lt {W B c : Nat} (hB : 0 < B) (hc : c < W * B) : c / B < W ∧ c % B < B := ⟨(Nat.div_lt_iff_lt_mul hB).mpr hc, Nat.mod_lt _ hB⟩
theorem add_ok {W B : Nat} {F : FL} (hB : 0 < B) (h : FLok W B F) (hn : F.n < 4) {k c o : Nat} (hk : k ≤ 13) (hc : c < W * B) (ho : 10 ≤ k → o < W * B ∧ c ≠ o) : FLok W B (F.add B k c o) := by
  refine ⟨by show F.n + 1 ≤ 4; omega, fun f hf => ?_⟩
  have hf' : f < F.n + 1 := hf
  by_cases e : f = F.n
  · subst e
    obtain ⟨p1, p2, p3, p4, p5⟩ := push_at (F := F) (k := k) (vw := c / B) (vb := c % B) (aw := if 10 ≤ k then o / B else 0) (ab := if 10 ≤ k then o % B else 0)
    unfold FL.add
    rw [p1, p2, p3, p4, p5]
    refine ⟨hk, (cell_lt hB hc).1, (cell_lt hB hc).2, fun hp => ?_⟩
    rw [if_pos hp, if_pos hp]
    refine ⟨(cell_lt hB (ho hp).1).1, (cell_lt hB (ho hp).1).2, fun q => (ho hp).2 ?_⟩
    rw [← Nat.div_add_mod c B, ← Nat.div_add_mod o B, q.1, q.2]
  · obtain ⟨p1, p2, p3, p4, p5⟩ := push_old (k := k) (vw := c / B) (vb := c % B) (aw := if 10 ≤ k then o / B else 0) (ab := if 10 ≤ k then o % B else 0) (show f < F.n by omega)
    unfold FL.add
    rw [p1, p2, p3, p4, p5]
    exact h.2 f (by omega)
theorem add_FM {B : Nat} {F : FL} {k c o : Nat} {mk mv mo : Nat → Int32} {y : Int32} (hy : y = if 10 ≤ k then nI o else -1) (h : FM B F (nI F.n) mk mv mo) : FM B (F.add B k c o) (nI (F.n + 1)) (upd mk F.n (nI k)) (upd mv F.n (nI c)) (upd mo F.n y) := by
  refine ⟨rfl, fun f hf => ?_⟩
  have hf' : f < F.n + 1 := hf
  by_cases e : f = F.n
  · subst e
    obtain ⟨p1, p2, p3, p4, p5⟩ := push_at (F := F) (k := k) (vw := c / B) (vb := c % B) (aw := if 10 ≤ k then o / B else 0) (ab := if 10 ≤ k then o % B else 0)
    unfold FL.add
    rw [p1, p2, p3, p4, p5, upd_s, upd_s, upd_s, Nat.div_add_mod]
    refine ⟨rfl, rfl, ?_⟩
    rw [hy]
    by_cases hp : 10 ≤ k
    · rw [if_pos hp, if_pos hp, if_pos hp, if_pos hp, Nat.div_add_mod]
    · rw [if_neg hp, if_neg hp]
  · obtain ⟨p1, p2, p3, p4, p5⟩ := push_old (k := k) (vw := c / B) (vb := c % B) (aw := if 10 ≤ k then o / B else 0) (ab := if 10 ≤ k then o % B else 0) (show f < F.n by omega)
    unfold FL.add
    rw [p1, p2, p3, p4, p5, upd_n e, upd_n e, upd_n e]
    exact h.2 f (by omega)
theorem add_FX {W B : Nat} {F : FL} (hW : W ≤ 16) (hB0 : 0 < B) (hB : B ≤ 4) {xt : Int32} {xk xvW xvM xoW xoM : Nat → Int32} (h : FX F (nI F.n) xt xk xvW xvM xoW xoM) (hn : F.n < 4) {k c o : Nat} (hk : k ≤ 13) (hc : c < W * B) (ho : 10 ≤ k → o < W * B) {y : Int32} (hy : 10 ≤ k → y = nI o) :
    ∃ q, f_FaultList_add 4 4 4 4 4 (nI F.n) xt (nI B) xk xvW xvM xoW xoM (nI k) (nI c) y = some q ∧ q.1 = nI (F.n + 1) ∧ FX (F.add B k c o) q.1 q.2.1 q.2.2.1 q.2.2.2.1 q.2.2.2.2.1 q.2.2.2.2.2.1 q.2.2.2.2.2.2 := by
  obtain ⟨_, hx, t, ht, rfl, htb⟩ := h
  have c64 : W * B ≤ 64 := Nat.mul_le_mul hW hB
  have hcW := cell_lt hB0 hc
  have nz : nzB (nI B) = true := by
    unfold nzB
    rw [decide_eq_true_eq]
    exact nI_ne0 hB0 (by omega)
  have ed : nI c / nI B = nI (c / B) := pk_div (by omega) hB0 (by omega)
  have er : nI c - nI (c / B) * nI B = nI (c % B) := by rw [← ed]; exact pk_rem (by omega) hB0 (by omega)
  have es : (1 : Int32) <<< (nI (c / B) &&& 31) = nI (2 ^ (c / B)) := shl_bit _ (by omega)
  have em : (1 : Int32) <<< (nI (c % B) &&& 31) = nI (2 ^ (c % B)) := shl_bit _ (by omega)
  have hvw : 2 ^ (c / B) < 2 ^ 16 := Nat.pow_lt_pow_right (by decide) (by omega)
  have fin : ∀ (ow : Nat) (om : Int32), ow < W → ow = (if 10 ≤ k then o / B else c / B) → om = (if 10 ≤ k then nI (2 ^ (o % B)) else 0) →
      FX (F.add B k c o) (nI (F.n + 1)) (nI t ||| (nI (2 ^ (c / B)) ||| nI (2 ^ ow))) (upd xk F.n (nI k)) (upd xvW F.n (nI (c / B))) (upd xvM F.n (nI (2 ^ (c % B)))) (upd xoW F.n (nI ow)) (upd xoM F.n om) := by
    intro ow om how e1 e2
    refine ⟨rfl, fun f hf => ?_, t ||| (2 ^ (c / B) ||| 2 ^ ow), ?_, ?_, fun w hw => ?_⟩
    · have hf' : f < F.n + 1 := hf
      by_cases e : f = F.n
      · subst e
        obtain ⟨p1, p2, p3, p4, p5⟩ := push_at (F := F) (k := k) (vw := c / B) (vb := c % B) (aw := if 10 ≤ k then o / B else 0) (ab := if 10 ≤ k then o % B else 0)
        unfold FL.add
        rw [p1, p2, p3, p4, p5, upd_s, upd_s, upd_s, upd_s, upd_s, e1, e2]
        by_cases hp : 10 ≤ k
        · simp only [hp, if_true]; exact ⟨trivial, trivial, trivial, trivial, trivial⟩
        · simp only [hp, if_false]; exact ⟨trivial, trivial, trivial, trivial, trivial⟩
      · obtain ⟨p1, p2, p3, p4, p5⟩ := push_old (k := k) (vw := c / B) (vb := c % B) (aw := if 10 ≤ k then o / B else 0) (ab := if 10 ≤ k then o % B else 0) (show f < F.n by omega)
        unfold FL.add
        rw [p1, p2, p3, p4, p5, upd_n e, upd_n e, upd_n e, upd_n e, upd_n e]
        exact hx f (by omega)
    · exact Nat.or_lt_two_pow ht (Nat.or_lt_two_pow hvw (Nat.pow_lt_pow_right (by decide) (by omega)))
    · rw [nI_or, nI_or]
    · rw [Nat.testBit_or, Nat.testBit_or, Nat.testBit_two_pow, Nat.testBit_two_pow]
      simp only [Bool.or_eq_true, decide_eq_true_eq]
      rw [htb w hw]
      constructor
      · rintro (⟨f, hf, h1⟩ | h1 | h1)
        · obtain ⟨p1, p2, p3, p4, p5⟩ := push_old (k := k) (vw := c / B) (vb := c % B) (aw := if 10 ≤ k then o / B else 0) (ab := if 10 ≤ k then o % B else 0) hf
          refine ⟨f, by show f < F.n + 1; omega, ?_⟩
          unfold FL.add
          rw [p1, p2, p4]; exact h1
        · obtain ⟨p1, p2, p3, p4, p5⟩ := push_at (F := F) (k := k) (vw := c / B) (vb := c % B) (aw := if 10 ≤ k then o / B else 0) (ab := if 10 ≤ k then o % B else 0)
          refine ⟨F.n, by show F.n < F.n + 1; omega, ?_⟩
          unfold FL.add
          rw [p1, p2, p4]; exact Or.inl h1
        · obtain ⟨p1, p2, p3, p4, p5⟩ := push_at (F := F) (k := k) (vw := c / B) (vb := c % B) (aw := if 10 ≤ k then o / B else 0) (ab := if 10 ≤ k then o % B else 0)
          refine ⟨F.n, by show F.n < F.n + 1; omega, ?_⟩
          unfold FL.add
          rw [p1, p2, p4]
          by_cases hp : 10 ≤ k
          · rw [if_pos hp] at e1 ⊢
            exact Or.inr ⟨hp, by omega⟩
          · rw [if_neg hp] at e1
            exact Or.inl (by omega)
      · rintro ⟨f, hf, h1⟩
        have hf' : f < F.n + 1 := hf
        by_cases e : f = F.n
        · subst e
          obtain ⟨p1, p2, p3, p4, p5⟩ := push_at (F := F) (k := k) (vw := c / B) (vb := c % B) (aw := if 10 ≤ k then o / B else 0) (ab := if 10 ≤ k then o % B else 0)
          unfold FL.add at h1
          rw [p1, p2, p4] at h1
          rcases h1 with h1 | ⟨hp, h1⟩
          · exact Or.inr (Or.inl h1)
          · rw [if_pos hp] at e1 h1
            exact Or.inr (Or.inr (by omega))
        · obtain ⟨p1, p2, p3, p4, p5⟩ := push_old (k := k) (vw := c / B) (vb := c % B) (aw := if 10 ≤ k then o / B else 0) (ab := if 10 ≤ k then o % B else 0) (show f < F.n by omega)
          unfold FL.add at h1
          rw [p1, p2, p4] at h1
          exact Or.inl ⟨f, by omega, h1⟩
  have hn4 := hn
  unfold f_FaultList_add f_FaultList_add_21 f_FaultList_add_42 f_MT_isPaired
  by_cases hp : 10 ≤ k
  · have hp1 : ¬ k < 10 := by omega
    have hp2 : ¬ 13 < k := by omega
    have hoW := cell_lt hB0 (ho hp)
    rw [hy hp]
    have ho64 := ho hp
    have ed2 : nI o / nI B = nI (o / B) := pk_div (by omega) hB0 (by omega)
    have er2 : nI o - nI (o / B) * nI B = nI (o % B) := by rw [← ed2]; exact pk_rem (by omega) hB0 (by omega)
    have es2 : (1 : Int32) <<< (nI (o / B) &&& 31) = nI (2 ^ (o / B)) := shl_bit _ (by omega)
    have em2 : (1 : Int32) <<< (nI (o % B) &&& 31) = nI (2 ^ (o % B)) := shl_bit _ (by omega)
    refine ⟨(nI (F.n + 1), nI t ||| (nI (2 ^ (c / B)) ||| nI (2 ^ (o / B))), upd xk F.n (nI k), upd xvW F.n (nI (c / B)), upd xvM F.n (nI (2 ^ (c % B))), upd xoW F.n (nI (o / B)), upd xoM F.n (nI (2 ^ (o % B)))), ?_, rfl, fin (o / B) (nI (2 ^ (o % B))) hoW.1 (by rw [if_pos hp]) (by rw [if_pos hp])⟩
    · simp +decide (disch := first | omega | decide) only [↓reduceIte, Option.bind_some, nI_clamp, inB_nI, inB_z, cl_z, nI_eqL, nI_leL, nI_ltL, nI_geL, nI_gtL, nI_leI, nI_ltI, nI_eq, nI_1, nI_addL, nI_add, hn4, hp1, hp2, nz, ed, er, es, em, ed2, er2, es2, em2, upd_s]
  · have hp1 : k < 10 := by omega
    refine ⟨(nI (F.n + 1), nI t ||| (nI (2 ^ (c / B)) ||| nI (2 ^ (c / B))), upd xk F.n (nI k), upd xvW F.n (nI (c / B)), upd xvM F.n (nI (2 ^ (c % B))), upd xoW F.n (nI (c / B)), upd xoM F.n 0), ?_, rfl, fin (c / B) 0 hcW.1 (by rw [if_neg hp]) (by rw [if_neg hp])⟩
    · simp +decide (disch := first | omega | decide) only [↓reduceIte, Option.bind_some, nI_clamp, inB_nI, inB_z, cl_z, nI_eqL, nI_leL, nI_ltL, nI_geL, nI_gtL, nI_leI, nI_ltI, nI_eq, nI_1, nI_addL, nI_add, hn4, hp1, nz, ed, er, es, em, upd_s]
theorem nzt : ¬ b2 true = 0 := by decide
theorem late {W B : Nat} {F : FL} (hW : W ≤ 16) (hB0 : 0 < B) (hB : B ≤ 4) {xt : Int32} {xk xvW xvM xoW xoM : Nat → Int32} {mtk mtv mto : Nat → Int32} (hF : FLok W B F) (hX : FX F (nI F.n) xt xk xvW xvM xoW xoM) (hM : FM B F (nI F.n) mtk mtv mto)
    {p : Bool} {x z : Int32} {c : Nat} (hpx : f_MT_isPaired x = some (b2 p)) (hc : c < W * B) (hpt : p = true → ∃ k, 10 ≤ k ∧ k ≤ 13 ∧ x = nI k) (hpf : p = false → x < 10 ∨ 13 < x) (hz : p = true → ∃ o, o < W * B ∧ z = nI o) :
    (∃ e : Nat, (e = 1 ∨ e = 2) ∧ f_MT_fault_47 4 4 4 4 4 (nI F.n) xt (nI B) xk xvW xvM xoW xoM x (nI c) z = some (Sum.inr e) ∧ f_RF_fault_75 4 4 4 (nI F.n) mtk mtv mto x (nI c) z (b2 p) = some (0, nI (e + 1), nI F.n, mtk, mtv, mto))
    ∨ ∃ F' q k' v' o', f_MT_fault_47 4 4 4 4 4 (nI F.n) xt (nI B) xk xvW xvM xoW xoM x (nI c) z = some (Sum.inl (q.1, q)) ∧ f_RF_fault_75 4 4 4 (nI F.n) mtk mtv mto x (nI c) z (b2 p) = some (nI (F.n + 1), 0, nI (F.n + 1), k', v', o') ∧ q.1 = nI (F.n + 1) ∧ FLok W B F' ∧ FX F' q.1 q.2.1 q.2.2.1 q.2.2.2.1 q.2.2.2.2.1 q.2.2.2.2.2.1 q.2.2.2.2.2.2 ∧ FM B F' (nI (F.n + 1)) k' v' o' := by
  have c64 : W * B ≤ 64 := Nat.mul_le_mul hW hB
  have hn := hF.1
  unfold f_MT_fault_47 f_RF_fault_75 f_RF_fault_80 f_RF_fault_124 f_RF_fault_128 f_RF_fault_129
  rw [hpx]
  by_cases h4 : F.n < 4
  · have h4' : ¬ F.n = 4 := by omega
    by_cases hk0 : x < 0 ∨ 13 < x
    · left
      have hp : p = false := by
        cases p
        · rfl
        · obtain ⟨k, k1, k2, rfl⟩ := hpt rfl
          rcases hk0 with q | q
          · exact absurd q (nI_pos (by omega))
          · have : 13 < k := (nI_gtL (by omega) (by decide)).mp q
            omega
      refine ⟨2, Or.inr rfl, ?_, ?_⟩
      · unfold f_MT_isKind
        rcases hk0 with q | q
        · simp +decide (disch := first | omega | decide) only [↓reduceIte, Option.bind_some, nI_clamp, inB_nI, inB_z, cl_z, nI_eqL, nI_leL, nI_ltL, nI_geL, nI_gtL, nI_leI, nI_ltI, nI_eq, nI_1, nI_addL, nI_add, h4, q]
        · by_cases q0 : x < 0
          · simp +decide (disch := first | omega | decide) only [↓reduceIte, Option.bind_some, nI_clamp, inB_nI, inB_z, cl_z, nI_eqL, nI_leL, nI_ltL, nI_geL, nI_gtL, nI_leI, nI_ltI, nI_eq, nI_1, nI_addL, nI_add, h4, q0]
          · simp +decide (disch := first | omega | decide) only [↓reduceIte, Option.bind_some, nI_clamp, inB_nI, inB_z, cl_z, nI_eqL, nI_leL, nI_ltL, nI_geL, nI_gtL, nI_leI, nI_ltI, nI_eq, nI_1, nI_addL, nI_add, h4, q0, q]
      · rcases hk0 with q | q
        · simp +decide (disch := first | omega | decide) only [↓reduceIte, Option.bind_some, nI_clamp, inB_nI, inB_z, cl_z, nI_eqL, nI_leL, nI_ltL, nI_geL, nI_gtL, nI_leI, nI_ltI, nI_eq, nI_1, nI_addL, nI_add, h4', q]
          rfl
        · by_cases q0 : x < 0
          · simp +decide (disch := first | omega | decide) only [↓reduceIte, Option.bind_some, nI_clamp, inB_nI, inB_z, cl_z, nI_eqL, nI_leL, nI_ltL, nI_geL, nI_gtL, nI_leI, nI_ltI, nI_eq, nI_1, nI_addL, nI_add, h4', q0]
            rfl
          · simp +decide (disch := first | omega | decide) only [↓reduceIte, Option.bind_some, nI_clamp, inB_nI, inB_z, cl_z, nI_eqL, nI_leL, nI_ltL, nI_geL, nI_gtL, nI_leI, nI_ltI, nI_eq, nI_1, nI_addL, nI_add, h4', q0, q]
            rfl
    · have a0 : ¬ x < 0 := fun q => hk0 (Or.inl q)
      have a1 : ¬ 13 < x := fun q => hk0 (Or.inr q)
      obtain ⟨k, hk, rfl⟩ := nI_of a0
      have hk13 : k ≤ 13 := by
        have : ¬ 13 < k := fun q => a1 ((nI_gtL hk (by decide)).mpr q)
        omega
      have ek : f_MT_isKind (nI k) = some 1 := by
        unfold f_MT_isKind
        rw [if_neg a0, if_neg a1]
      cases p
      · have hk10 : ¬ 10 ≤ k := by
          rcases hpf rfl with q | q
          · have : k < 10 := (nI_ltL hk (by decide)).mp q
            omega
          · exact absurd q a1
        right
        obtain ⟨q, q1, q2, q3⟩ := add_FX hW hB0 hB hX h4 hk13 hc (o := 0) (fun h => absurd h hk10) (y := z) (fun h => absurd h hk10)
        refine ⟨F.add B k c 0, q, upd mtk F.n (nI k), upd mtv F.n (nI c), upd mto F.n (-1), ?_, ?_, q2, add_ok hB0 hF h4 hk13 hc (fun h => absurd h hk10), q3, add_FM (by rw [if_neg hk10]) hM⟩
        · simp +decide (disch := first | omega | decide) only [↓reduceIte, Option.bind_some, nI_clamp, inB_nI, inB_z, cl_z, nI_eqL, nI_leL, nI_ltL, nI_geL, nI_gtL, nI_leI, nI_ltI, nI_eq, nI_1, nI_addL, nI_add, h4, ek, q1, show b2 false = 0 from rfl]
        · simp +decide (disch := first | omega | decide) only [↓reduceIte, Option.bind_some, nI_clamp, inB_nI, inB_z, cl_z, nI_eqL, nI_leL, nI_ltL, nI_geL, nI_gtL, nI_leI, nI_ltI, nI_eq, nI_1, nI_addL, nI_add, h4', a0, a1, show b2 false = 0 from rfl]
      · obtain ⟨k2, k3, k4, k5⟩ := hpt rfl
        have k6 : k = k2 := (nI_eq hk (by omega)).mp k5
        obtain ⟨o, ho, rfl⟩ := hz rfl
        by_cases hco : c = o
        · left
          subst hco
          refine ⟨2, Or.inr rfl, ?_, ?_⟩
          · simp +decide (disch := first | omega | decide) only [↓reduceIte, Option.bind_some, nI_clamp, inB_nI, inB_z, cl_z, nI_eqL, nI_leL, nI_ltL, nI_geL, nI_gtL, nI_leI, nI_ltI, nI_eq, nI_1, nI_addL, nI_add, h4, ek, show b2 true = 1 from rfl]
          · simp +decide (disch := first | omega | decide) only [↓reduceIte, Option.bind_some, nI_clamp, inB_nI, inB_z, cl_z, nI_eqL, nI_leL, nI_ltL, nI_geL, nI_gtL, nI_leI, nI_ltI, nI_eq, nI_1, nI_addL, nI_add, h4', a0, a1, show b2 true = 1 from rfl]
            rfl
        · right
          obtain ⟨q, q1, q2, q3⟩ := add_FX hW hB0 hB hX h4 hk13 hc (o := o) (fun h => ho) (y := nI o) (fun h => rfl)
          refine ⟨F.add B k c o, q, upd mtk F.n (nI k), upd mtv F.n (nI c), upd mto F.n (nI o), ?_, ?_, q2, add_ok hB0 hF h4 hk13 hc (fun h => ⟨ho, hco⟩), q3, add_FM (by rw [if_pos (by omega)]) hM⟩
          · simp +decide (disch := first | omega | decide) only [↓reduceIte, Option.bind_some, nI_clamp, inB_nI, inB_z, cl_z, nI_eqL, nI_leL, nI_ltL, nI_geL, nI_gtL, nI_leI, nI_ltI, nI_eq, nI_1, nI_addL, nI_add, h4, ek, q1, hco, show b2 true = 1 from rfl]
          · simp +decide (disch := first | omega | decide) only [↓reduceIte, Option.bind_some, nI_clamp, inB_nI, inB_z, cl_z, nI_eqL, nI_leL, nI_ltL, nI_geL, nI_gtL, nI_leI, nI_ltI, nI_eq, nI_1, nI_addL, nI_add, h4', a0, a1, hco, show b2 true = 1 from rfl]
  · left
    have e4 : F.n = 4 := by omega
    refine ⟨1, Or.inl rfl, ?_, ?_⟩
    · simp +decide (disch := first | omega | decide) only [↓reduceIte, Option.bind_some, nI_clamp, inB_nI, inB_z, cl_z, nI_eqL, nI_leL, nI_ltL, nI_geL, nI_gtL, nI_leI, nI_ltI, nI_eq, nI_1, nI_addL, nI_add, e4]
    · simp +decide (disch := first | omega | decide) only [↓reduceIte, Option.bind_some, nI_clamp, inB_nI, inB_z, cl_z, nI_eqL, nI_leL, nI_ltL, nI_geL, nI_gtL, nI_leI, nI_ltI, nI_eq, nI_1, nI_addL, nI_add, e4]
      rfl
theorem L_fault {W B : Nat} (hW : W ≤ 16) (hB0 : 0 < B) (hB : B ≤ 4) {xc xt : Int32} {xk xvW xvM xoW xoM : Nat → Int32} {mt : Int32} {mtk mtv mto : Nat → Int32} (h : faultI W B xc xt xk xvW xvM xoW xoM mt mtk mtv mto) {out : Nat → Int64} (x y z : Int32) :
    ∃ q1 q2, f_LW_fault 4 4 4 4 4 1 (nI (W * B)) xc xt (nI B) xk xvW xvM xoW xoM out x y z = some q1 ∧ f_RF_fault 4 4 4 (nI W) (nI B) mt mtk mtv mto x y z = some q2 ∧ q2.2.1 = q1.1 ∧ (q1.1 = 0 → q1.2.2.2.2.2.2.2.2 0 = Int32.toInt64 q2.1) ∧ faultI W B q1.2.1 q1.2.2.1 q1.2.2.2.1 q1.2.2.2.2.1 q1.2.2.2.2.2.1 q1.2.2.2.2.2.2.1 q1.2.2.2.2.2.2.2.1 q2.2.2.1 q2.2.2.2.1 q2.2.2.2.2.1 q2.2.2.2.2.2 := by
  have c64 : W * B ≤ 64 := Nat.mul_le_mul hW hB
  obtain ⟨F, hF, hX, hM⟩ := id h
  have exc := hX.1
  have emt := hM.1
  subst exc emt
  have hn := hF.1
  by_cases xm : x = -1
  · subst xm
    have e1 : f_LW_fault 4 4 4 4 4 1 (nI (W * B)) (nI F.n) xt (nI B) xk xvW xvM xoW xoM out (-1) y z = some (0, 0, 0, xk, xvW, xvM, xoW, xoM, vp_updL out 0 (Int32.toInt64 0)) := rfl
    have e2 : f_RF_fault 4 4 4 (nI W) (nI B) (nI F.n) mtk mtv mto (-1) y z = some (0, 0, 0, mtk, mtv, mto) := rfl
    refine ⟨_, _, e1, e2, rfl, fun _ => (pk_uLs : vp_updL out 0 _ 0 = _), (0, F.2), ⟨Nat.zero_le 4, fun f hf => absurd hf (Nat.not_lt_zero f)⟩, ⟨rfl, fun f hf => absurd hf (Nat.not_lt_zero f), 0, by decide, rfl, fun w hw => ?_⟩, ⟨rfl, fun f hf => absurd hf (Nat.not_lt_zero f)⟩⟩
    rw [Nat.zero_testBit]
    constructor
    · intro q; cases q
    · rintro ⟨f, hf, _⟩; exact absurd hf (Nat.not_lt_zero f)
  · have ewb : nI W * nI B = nI (W * B) := pk_mul W B
    have bad : ∀ c : Int32, ¬ c = 0 → f_LW_fault 4 4 4 4 4 1 (nI (W * B)) (nI F.n) xt (nI B) xk xvW xvM xoW xoM out x y z = some (c, nI F.n, xt, xk, xvW, xvM, xoW, xoM, out) → f_RF_fault 4 4 4 (nI W) (nI B) (nI F.n) mtk mtv mto x y z = some (0, c, nI F.n, mtk, mtv, mto) → _ := fun c hc e1 e2 => (⟨_, _, e1, e2, rfl, fun q => absurd q hc, h⟩ : ∃ q1 q2, f_LW_fault 4 4 4 4 4 1 (nI (W * B)) (nI F.n) xt (nI B) xk xvW xvM xoW xoM out x y z = some q1 ∧ f_RF_fault 4 4 4 (nI W) (nI B) (nI F.n) mtk mtv mto x y z = some q2 ∧ q2.2.1 = q1.1 ∧ (q1.1 = 0 → q1.2.2.2.2.2.2.2.2 0 = Int32.toInt64 q2.1) ∧ faultI W B q1.2.1 q1.2.2.1 q1.2.2.2.1 q1.2.2.2.2.1 q1.2.2.2.2.2.1 q1.2.2.2.2.2.2.1 q1.2.2.2.2.2.2.2.1 q2.2.2.1 q2.2.2.2.1 q2.2.2.2.2.1 q2.2.2.2.2.2)
    obtain ⟨p, hp1, hp2, hpt, hpf⟩ : ∃ p : Bool, f_MT_isPaired x = some (b2 p) ∧ f_RF_fault 4 4 4 (nI W) (nI B) (nI F.n) mtk mtv mto x y z = f_RF_fault_34 4 4 4 (nI W) (nI B) (nI F.n) mtk mtv mto (b2 p) x y z ∧ (p = true → ∃ k, 10 ≤ k ∧ k ≤ 13 ∧ x = nI k) ∧ (p = false → x < 10 ∨ 13 < x) := by
      unfold f_MT_isPaired f_RF_fault f_RF_fault_33
      rw [if_neg xm]
      by_cases a : x < 10
      · refine ⟨false, ?_, ?_, fun q => (by cases q), fun _ => Or.inl a⟩
        · rw [if_pos a]; rfl
        · rw [if_pos a]; rfl
      · by_cases b : 13 < x
        · refine ⟨false, ?_, ?_, fun q => (by cases q), fun _ => Or.inr b⟩
          · rw [if_neg a, if_pos b]; rfl
          · rw [if_neg a, if_pos b]; rfl
        · refine ⟨true, ?_, ?_, fun _ => ?_, fun q => by cases q⟩
          · rw [if_neg a, if_neg b]; rfl
          · rw [if_neg a, if_neg b]; rfl
          · have h0 : ¬ x < 0 := by
              intro q
              apply a
              rw [Int32.lt_iff_toInt_lt] at q ⊢
              have : (0 : Int32).toInt = 0 := by decide
              have : (10 : Int32).toInt = 10 := by decide
              omega
            obtain ⟨k, hk, rfl⟩ := nI_of h0
            have a' : ¬ k < 10 := fun q => a ((nI_ltL hk (by decide)).mpr q)
            have b' : ¬ 13 < k := fun q => b ((nI_gtL hk (by decide)).mpr q)
            exact ⟨k, by omega, by omega, rfl⟩
    rw [hp2] at bad ⊢
    have ec : ∀ v : Int32, (v < 0 ∧ f_MT_isCell (nI (W * B)) v = some 0) ∨ (¬ v < 0 ∧ nI (W * B) ≤ v ∧ f_MT_isCell (nI (W * B)) v = some 0) ∨ ∃ c, c < W * B ∧ v = nI c ∧ ¬ nI c < 0 ∧ ¬ nI (W * B) ≤ nI c ∧ f_MT_isCell (nI (W * B)) v = some 1 := by
      intro v
      unfold f_MT_isCell
      by_cases v0 : v < 0
      · left; exact ⟨v0, by rw [if_pos v0]⟩
      · by_cases v1 : nI (W * B) ≤ v
        · right; left; exact ⟨v0, v1, by rw [if_neg v0, if_pos v1]⟩
        · right; right
          obtain ⟨c, hc, rfl⟩ := nI_of v0
          refine ⟨c, ?_, rfl, v0, v1, by rw [if_neg v0, if_neg v1]⟩
          have : ¬ W * B ≤ c := fun q => v1 ((nI_leI (by omega) hc).mpr q)
          omega
    unfold f_LW_fault f_MT_fault at bad ⊢
    rw [if_neg xm] at bad ⊢
    rw [hp1] at bad ⊢
    unfold f_RF_fault_34 at bad ⊢
    rw [ewb] at bad ⊢
    rcases ec y with ⟨y0, y2⟩ | ⟨y0, y1, y2⟩ | ⟨c, hc, rfl, y0, y1, y2⟩
    · refine bad 1 nz1 ?_ ?_
      · rw [y2]; rfl
      · rw [if_pos y0]; rfl
    · refine bad 1 nz1 ?_ ?_
      · rw [y2]; rfl
      · rw [if_neg y0, if_pos y1]; rfl
    · rw [y2, Option.bind_some, if_neg nz1, Option.bind_some] at bad ⊢
      rw [if_neg y0, if_neg y1] at bad ⊢
      have fin : (p = true → ∃ o, o < W * B ∧ z = nI o) → ∃ q1 q2, (Option.bind (f_MT_fault_47 4 4 4 4 4 (nI F.n) xt (nI B) xk xvW xvM xoW xoM x (nI c) z) fun r7_1 => Sum.elim (fun q7_1 => (if inB 0 1 = true then some ((0 : Int32), q7_1.2.1, q7_1.2.2.1, q7_1.2.2.2.1, q7_1.2.2.2.2.1, q7_1.2.2.2.2.2.1, q7_1.2.2.2.2.2.2.1, q7_1.2.2.2.2.2.2.2, (vp_updL out (Int32.toNatClampNeg 0) (Int32.toInt64 q7_1.1))) else none)) (fun k7_1 =>
    (if k7_1 = 0 then some (1, nI F.n, xt, xk, xvW, xvM, xoW, xoM, out) else (if k7_1 = 1 then some (2, nI F.n, xt, xk, xvW, xvM, xoW, xoM, out) else (if k7_1 = 2 then some (3, nI F.n, xt, xk, xvW, xvM, xoW, xoM, out) else none)))) r7_1) = some q1 ∧ f_RF_fault_75 4 4 4 (nI F.n) mtk mtv mto x (nI c) z (b2 p) = some q2 ∧ q2.2.1 = q1.1 ∧ (q1.1 = 0 → q1.2.2.2.2.2.2.2.2 0 = Int32.toInt64 q2.1) ∧ faultI W B q1.2.1 q1.2.2.1 q1.2.2.2.1 q1.2.2.2.2.1 q1.2.2.2.2.2.1 q1.2.2.2.2.2.2.1 q1.2.2.2.2.2.2.2.1 q2.2.2.1 q2.2.2.2.1 q2.2.2.2.2.1 q2.2.2.2.2.2 := by
        intro hz
        rcases late hW hB0 hB hF hX hM hp1 hc hpt hpf hz with ⟨e, he, e1, e2⟩ | ⟨F', q, k', v', o', e1, e2, e3, e4, e5, e6⟩
        · rw [e1, e2]
          rcases he with rfl | rfl
          · exact ⟨_, _, rfl, rfl, rfl, fun q => absurd q nz2, h⟩
          · exact ⟨_, _, rfl, rfl, rfl, fun q => absurd q nz3, h⟩
        · rw [e1, e2]
          refine ⟨(0, q.1, q.2.1, q.2.2.1, q.2.2.2.1, q.2.2.2.2.1, q.2.2.2.2.2.1, q.2.2.2.2.2.2, vp_updL out 0 (Int32.toInt64 q.1)), _, rfl, rfl, rfl, fun _ => (pk_uLs : vp_updL out 0 _ 0 = _).trans ?_, F', e4, e5, e6⟩
          exact congrArg Int32.toInt64 e3
      cases p
      · exact fin (fun q => (by cases q))
      · rcases ec z with ⟨z0, z2⟩ | ⟨z0, z1, z2⟩ | ⟨o, ho, rfl, z0, z1, z2⟩
        · refine bad 1 nz1 ?_ ?_
          · rw [z2]; rfl
          · rw [if_neg nzt, if_pos z0]; rfl
        · refine bad 1 nz1 ?_ ?_
          · rw [z2]; rfl
          · rw [if_neg nzt, if_neg z0, if_pos z1]; rfl
        · rw [if_neg nzt, z2, Option.bind_some, if_neg nz1, if_neg nzt, if_neg z0, if_neg z1]
          exact fin (fun _ => ⟨o, ho, rfl⟩)
