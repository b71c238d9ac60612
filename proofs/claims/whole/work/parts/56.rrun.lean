def Rst (W B : Nat) (keep : Bool) (c0 : Int32) (f0 : Nat → Int32) (cnt some0 : Int32) (cells sense arr : Nat → Int32) (st : RSt) : Prop := RC W B cells st.1.1 ∧ RS B sense st.1.2 ∧ KP keep c0 f0 cnt arr st.2 ∧ some0 = b2 (!st.2.isEmpty)
theorem b2_lt {o : Nat} (h : o < 2) : nI o = b2 (decide (o = 1)) := by
  rcases (show o = 0 ∨ o = 1 by omega) with rfl | rfl <;> rfl
section RFR
variable {W B g ports : Nat} {F : FL} {P : Nat → Nat} {cnt : Int32} {kinds victims others : Nat → Int32} {a : MA} {elements : Int32} {sorts counts operations places : Nat → Int32} {keep : Bool} {c0 : Int32} {f0 : Nat → Int32}
set_option maxHeartbeats 4000000 in
theorem r_ops (hW0 : 0 < W) (hW : W ≤ 16) (hB : B ≤ 4) (hg : g ≤ 3) (hpt : ports ≤ 2) (hF : FLok W B F) (hM : FM B F cnt kinds victims others) (ha : MAok a) (hA : AM a elements sorts counts operations) (hP : ∀ p, p < W → P p < W ∧ places p = nI (P p)) {e p : Nat} (he : e < a.1) (hp : p < W) {x2 : Int32}
    {c1 s1 : Int32} {cells sense arr : Nat → Int32} {st : RSt} (hS : Rst W B keep c0 f0 c1 s1 cells sense arr st) (rec2 : (Int32 × Int32 × (Nat → Int32) × (Nat → Int32) × (Nat → Int32) × Int32) → Option (Int32 × Int32 × (Nat → Int32) × (Nat → Int32) × (Nat → Int32))) :
    ∃ c2 s2 cells' sense' arr', lp (g_RF_doElement_44 16 16 128 4 4 64 4 4 1200 (nI W) (nI B) cnt (nI g) (nI ports) (b2 keep) places counts operations victims kinds others (nI e) x2 (nI p) (nI (P p)) rec2) 100000 (c1, s1, cells, sense, arr, 0) = rec2 (c2, s2, cells', sense', arr', x2 + 1) ∧ Rst W B keep c0 f0 c2 s2 cells' sense' arr' (opsA (F, B, W, g, P, ports) a e p st (a.2.2.1 e)) := by
  obtain ⟨ha1, ha2⟩ := ha
  obtain ⟨-, hA2⟩ := hA
  obtain ⟨e1, e2, e3, e4⟩ := ha2 e he
  obtain ⟨f1, f2, f3⟩ := hA2 e he
  have hpw := (hP p hp).1
  refine lp_Q (I := fun i s => s.2.2.2.2.2 = nI i ∧ Rst W B keep c0 f0 s.1 s.2.1 s.2.2.1 s.2.2.2.1 s.2.2.2.2.1 (opsA (F, B, W, g, P, ports) a e p st i)) (a.2.2.1 e) (fun r => ∃ c2 s2 cells' sense' arr', r = rec2 (c2, s2, cells', sense', arr', x2 + 1) ∧ Rst W B keep c0 f0 c2 s2 cells' sense' arr' (opsA (F, B, W, g, P, ports) a e p st (a.2.2.1 e))) ?_ ?_ 100000 0 _ (by omega) (by omega) ⟨rfl, hS⟩
  · rintro i ⟨c, s, cl, sn, ar, x⟩ rec hi ⟨hx, hc⟩
    dsimp only at hx hc
    subst hx
    have ho := e4 i hi
    have hop := f3 i hi
    have h8 : (8 : Int32) * nI e = nI (8 * e) := pk_mul 8 e
    have hni := Nat.not_le.mpr hi
    obtain ⟨r1, r2, r3, r4⟩ := hc
    left
    show ∃ s', (_ ∧ Rst W B keep c0 f0 _ _ _ _ _ (stepA (F, B, W, g, P, ports) a e p i _)) ∧ _
    generalize opsA (F, B, W, g, P, ports) a e p st i = q at r1 r2 r3 r4 ⊢
    obtain ⟨⟨M, S⟩, fl⟩ := q
    dsimp only at r1 r2 r3 r4
    subst r4
    unfold g_RF_doElement_44 stepA opA
    by_cases h2 : a.2.2.2 e i < 2
    · obtain ⟨cl', w1, w2⟩ := r_write hW hB hF hM r1 hpw (decide (a.2.2.2 e i = 1)) hg
      rw [← b2_lt h2] at w1
      refine ⟨(c, b2 (!fl.isEmpty), cl', sn, ar, nI (i + 1)), ⟨rfl, ?_⟩, ?_⟩
      · dsimp only
        simp only [if_pos h2]
        exact ⟨w2, r2, r3, rfl⟩
      · have h2' : ¬ 2 ≤ a.2.2.2 e i := by omega
        simp +decide (disch := first | omega | decide) only [↓reduceIte, Option.bind_some, nI_clamp, inB_nI, inB_z, cl_z, nI_eqL, nI_leL, nI_ltL, nI_geL, nI_gtL, nI_leI, nI_ltI, nI_eq, nI_1, nI_addL, nI_add, f2, hni, h8, hop, h2', w1]
    · have hv : nI (a.2.2.2 e i) - 2 = b2 (decide (a.2.2.2 e i = 3)) := by
        rcases (show a.2.2.2 e i = 2 ∨ a.2.2.2 e i = 3 by omega) with q | q <;> rw [q] <;> rfl
      obtain ⟨cl', sn', w1, w2, w3⟩ := r_check hW hB hF hM r1 r2 hpw (decide (a.2.2.2 e i = 3)) hg
      have hx16 : wrN (readM F B (P p) (M, S)).2 (fun b => decide (a.2.2.2 e i = 3) != gr g (P p) b) B < 16 := Nat.lt_of_lt_of_le (wrN_lt _ _ B) (Nat.pow_le_pow_right (by decide) hB)
      obtain ⟨c', ar', v1, v2⟩ := r_fail r3 (e := e) (k := i) (w := P p) hx16
      have h2' : 2 ≤ a.2.2.2 e i := by omega
      dsimp only
      simp only [if_neg h2]
      generalize (if wrN (readM F B (P p) (M, S)).2 (fun b => decide (a.2.2.2 e i = 3) != gr g (P p) b) B = 0 then fl else fl ++ [(e, i, P p, wrN (readM F B (P p) (M, S)).2 (fun b => decide (a.2.2.2 e i = 3) != gr g (P p) b) B)]) = fl' at v1 v2 ⊢
      by_cases hp2 : ports = 2
      · have hq : (p + 1) % W < W := Nat.mod_lt _ hW0
        have hqw := hP _ hq
        obtain ⟨cl2, sn2, u1, u2, u3⟩ := r_check hW hB hF hM w2 w3 hqw.1 false hg
        refine ⟨(c', b2 (!fl'.isEmpty), cl2, sn2, ar', nI (i + 1)), ⟨rfl, ?_⟩, ?_⟩
        rotate_left
        · have hnz : nzB (nI W) = true := decide_eq_true (nI_ne0 hW0 (by omega))
          have hrem := pk_rem (a := p + 1) (d := W) (by omega) hW0 (by omega)
          simp +decide (disch := first | omega | decide) only [↓reduceIte, Option.bind_some, nI_clamp, inB_nI, inB_z, cl_z, nI_eqL, nI_leL, nI_ltL, nI_geL, nI_gtL, nI_leI, nI_ltI, nI_eq, nI_1, nI_addL, nI_add, f2, hni, h8, hop, h2', hv, w1, v1, hp2, hnz, hrem, hqw.2, show (0 : Int32) = b2 false from rfl, u1]
        · simp only [if_pos hp2]
          exact ⟨u2, u3, v2, rfl⟩
      · refine ⟨(c', b2 (!fl'.isEmpty), cl', sn', ar', nI (i + 1)), ⟨rfl, ?_⟩, ?_⟩
        rotate_left
        · simp +decide (disch := first | omega | decide) only [↓reduceIte, Option.bind_some, nI_clamp, inB_nI, inB_z, cl_z, nI_eqL, nI_leL, nI_ltL, nI_geL, nI_gtL, nI_leI, nI_ltI, nI_eq, nI_1, nI_addL, nI_add, f2, hni, h8, hop, h2', hv, w1, v1, hp2]
        · simp only [if_neg hp2]
          exact ⟨w2, w3, v2, rfl⟩
  · rintro ⟨c, s, cl, sn, ar, x⟩ rec ⟨hx, hc⟩
    dsimp only at hx hc
    subst hx
    refine ⟨c, s, cl, sn, ar, ?_, hc⟩
    unfold g_RF_doElement_44
    simp +decide (disch := first | omega | decide) only [↓reduceIte, Option.bind_some, nI_clamp, inB_nI, inB_z, cl_z, nI_eqL, nI_leL, nI_ltL, nI_geL, nI_gtL, nI_leI, nI_ltI, nI_eq, nI_1, nI_addL, nI_add, f2, Nat.le_refl]
end RFR
