theorem wrN_zero : ∀ B, wrN (fun _ => false) (fun _ => false) B = 0
  | 0 => rfl
  | b + 1 => by unfold wrN; rw [if_pos rfl]; exact wrN_zero b
theorem isE {α : Type} {l : List α} (h : 0 < l.length) : l.isEmpty = false := by
  cases l with
  | nil => simp at h
  | cons a l => rfl
section MTM
variable {W B g ports : Nat} {F : FL} {P : Nat → Nat} {cnt touched : Int32} {kinds vW vM oW oM : Nat → Int32} {a : MA} {elements rowCount : Int32} {firstRows rows wordAt zeroOf : Nat → Int32} {keep : Bool} {c0 : Int32} {f0 : Nat → Int32}
set_option maxHeartbeats 4000000 in
theorem m_march (hW0 : 0 < W) (hW : W ≤ 16) (hB : B ≤ 4) (hpt : ports ≤ 2) (hF : FLok W B F) (hX : FX F cnt touched kinds vW vM oW oM) (hP : ∀ p, p < W → P p < W ∧ wordAt p = nI (P p)) (hZ : ∀ w, w < W → zeroOf w = nI (wrN (gr g w) (fun _ => false) B)) (ha : MAok a) (hA : AX a elements rowCount firstRows rows)
    {held : Nat → Int32} {c1 : Int32} {arr : Nat → Int32} (hK : KP keep c0 f0 c1 arr []) :
    ∃ y, f_Tester_marchFails 4 4 4 W 4 4 17 128 W W 1200 (nI ports) (nI W) (nI (2 ^ B - 1)) cnt touched (nI W) (nI B) vW vM kinds held oW oM elements firstRows rows c1 wordAt zeroOf arr (b2 keep) = some (b2 (!(runA (F, B, W, g, P, ports) a (st0 F) a.1).2.isEmpty), y) ∧ KP keep c0 f0 y.2.2.1 y.2.2.2 (runA (F, B, W, g, P, ports) a (st0 F) a.1).2 := by
  have hA' := hA
  obtain ⟨rfl, -, hA3, hA4⟩ := hA
  have h16 := ha.1
  obtain ⟨held1, b1, b2'⟩ := m_begin hW hB hF hX held
  unfold f_Tester_marchFails
  rw [b1, Option.bind_some]
  have hib : ∀ u : Bool, isB (b2 u) = true := by decide
  refine lp_Q (I := fun e (s : Int32 × (Nat → Int32) × Int32 × (Nat → Int32) × Int32 × Int32) => s.2.2.2.2.2 = nI e ∧ ((s.2.2.2.2.1 = b2 (!(runA (F, B, W, g, P, ports) a (st0 F) e).2.isEmpty) ∧ Xst W B keep c0 f0 s.1 s.2.1 s.2.2.1 s.2.2.2.1 (runA (F, B, W, g, P, ports) a (st0 F) e)) ∨ (keep = false ∧ s.2.2.2.2.1 = 1 ∧ (s.2.2.1, s.2.2.2.1) = (c0, f0) ∧ 0 < (runA (F, B, W, g, P, ports) a (st0 F) e).2.length))) a.1 (fun (r : Option (Int32 × Int32 × (Nat → Int32) × Int32 × (Nat → Int32))) => ∃ y, r = some (b2 (!(runA (F, B, W, g, P, ports) a (st0 F) a.1).2.isEmpty), y) ∧ KP keep c0 f0 y.2.2.1 y.2.2.2 (runA (F, B, W, g, P, ports) a (st0 F) a.1).2) ?_ ?_ 100000 0 _ (by omega) (by omega) ⟨rfl, Or.inl ⟨rfl, b2', ?_, hK, fun _ => rfl⟩⟩
  · rintro e ⟨l1, h1, c, ar, fd, x⟩ rec he ⟨hx, hc⟩
    dsimp only at hx hc
    subst hx
    have hni := Nat.not_le.mpr he
    have hm := run_mono (F, B, W, g, P, ports) a (st0 F) (show e ≤ a.1 by omega)
    rcases hc with ⟨rfl, hc⟩ | ⟨rfl, rfl, h3, h4⟩
    · left
      have e0 : runA (F, B, W, g, P, ports) a (st0 F) (e + 1) = if a.2.1 e = 2 then ((pauseM F (runA (F, B, W, g, P, ports) a (st0 F) e).1.1, (runA (F, B, W, g, P, ports) a (st0 F) e).1.2), (runA (F, B, W, g, P, ports) a (st0 F) e).2) else elA (F, B, W, g, P, ports) a e (runA (F, B, W, g, P, ports) a (st0 F) e) W := rfl
      rw [e0]
      generalize runA (F, B, W, g, P, ports) a (st0 F) e = q at hc ⊢
      have hfr := fr_le ha e (by omega)
      have hfr1 := fr_le ha (e + 1) (by omega)
      have hf1 := hA3 e (by omega)
      have hgo : g_Tester_marchFails_14 4 4 4 W 4 4 17 128 W W 1200 (nI ports) (nI W) (nI (2 ^ B - 1)) cnt touched (nI B) vW vM kinds oW oM (nI a.1) firstRows rows wordAt zeroOf (b2 keep) rec (l1, h1, c, ar, b2 (!q.2.isEmpty), nI e) = f_Tester_marchFails_32 4 4 4 W 4 4 17 128 W W 1200 (nI ports) (nI W) (nI (2 ^ B - 1)) cnt touched (nI B) l1 vW vM kinds h1 oW oM firstRows rows c wordAt zeroOf ar (b2 keep) (b2 (!q.2.isEmpty)) (nI e) rec := by
        unfold g_Tester_marchFails_14
        cases keep
        · have hq : q.2 = [] := hc.2.2.2 rfl
          rw [hq]
          simp +decide (disch := first | omega | decide) only [↓reduceIte, Option.bind_some, nI_clamp, inB_nI, inB_z, cl_z, nI_eqL, nI_leL, nI_ltL, nI_geL, nI_gtL, nI_leI, nI_ltI, nI_eq, nI_1, nI_addL, nI_add, hni, List.isEmpty_nil, Bool.not_true, b2_0]
        · simp +decide (disch := first | omega | decide) only [↓reduceIte, Option.bind_some, nI_clamp, inB_nI, inB_z, cl_z, nI_eqL, nI_leL, nI_ltL, nI_geL, nI_gtL, nI_leI, nI_ltI, nI_eq, nI_1, nI_addL, nI_add, hni, b2_0, Bool.true_eq_false]
      rw [hgo]
      unfold f_Tester_marchFails_32
      by_cases h2 : a.2.1 e = 2
      · rw [if_pos h2]
        have hr := (hA4 e he).1 h2
        have hsum : frA a (e + 1) = frA a e + 1 := by show frA a e + _ = _; rw [if_pos h2]
        obtain ⟨h', w1, w2⟩ := m_rest hW hB hF hX hc.1
        refine ⟨(l1, h', c, ar, b2 (!q.2.isEmpty), nI (e + 1)), ⟨rfl, Or.inl ⟨rfl, w2, hc.2.1, hc.2.2.1, hc.2.2.2⟩⟩, ?_⟩
        have h24 : (nI 24 &&& 16 = 0) = False := by decide
        simp +decide (disch := first | omega | decide) only [↓reduceIte, Option.bind_some, nI_clamp, inB_nI, inB_z, cl_z, nI_eqL, nI_leL, nI_ltL, nI_geL, nI_gtL, nI_leI, nI_ltI, nI_eq, nI_1, nI_addL, nI_add, hf1, hr, h24, w1]
      · rw [if_neg h2]
        obtain ⟨e1, e2, e3, e4⟩ := ha.2 e he
        have hsum : frA a (e + 1) = frA a e + a.2.2.1 e := by show frA a e + _ = _; rw [if_neg h2]
        have hpos := e2 h2
        have hr0 := (hA4 e he).2 h2 0 hpos
        rw [Nat.add_zero] at hr0
        obtain ⟨-, -, -, b16⟩ := row_bits (a.2.1 e) (by omega) (a.2.2.2 e 0) (e4 0 hpos) (decide (0 + 1 = a.2.2.1 e))
        have hmq := el_mono (F, B, W, g, P, ports) a e q (Nat.zero_le W)
        rcases m_element hW0 hW hB hpt hF hX hP hZ ha hA' he h2 hc with ⟨l2, h3, c2, ar2, q1, q2⟩ | ⟨q1, y, q2, q4, q3⟩
        · refine ⟨(l2, h3, c2, ar2, b2 (!(elA (F, B, W, g, P, ports) a e q W).2.isEmpty), nI (e + 1)), ⟨rfl, Or.inl ⟨rfl, q2⟩⟩, ?_⟩
          by_cases hlen : q.2.length < (elA (F, B, W, g, P, ports) a e q W).2.length
          · rw [decide_eq_true hlen] at q1
            rw [isE (by omega : 0 < (elA (F, B, W, g, P, ports) a e q W).2.length)]
            simp +decide (disch := first | omega | decide) only [↓reduceIte, Option.bind_some, nI_clamp, inB_nI, inB_z, cl_z, nI_eqL, nI_leL, nI_ltL, nI_geL, nI_gtL, nI_leI, nI_ltI, nI_eq, nI_1, nI_addL, nI_add, hf1, hr0, b16, q1, b2_0, Bool.true_eq_false]
            rfl
          · rw [decide_eq_false hlen] at q1
            have hEq : (elA (F, B, W, g, P, ports) a e q W).2.isEmpty = q.2.isEmpty := by
              have : (elA (F, B, W, g, P, ports) a e q W).2.length = q.2.length := by
                have : q.2.length ≤ (elA (F, B, W, g, P, ports) a e q W).2.length := hmq
                omega
              cases h5 : (elA (F, B, W, g, P, ports) a e q W).2 <;> cases h6 : q.2 <;> simp_all
            rw [hEq]
            simp +decide (disch := first | omega | decide) only [↓reduceIte, Option.bind_some, nI_clamp, inB_nI, inB_z, cl_z, nI_eqL, nI_leL, nI_ltL, nI_geL, nI_gtL, nI_leI, nI_ltI, nI_eq, nI_1, nI_addL, nI_add, hf1, hr0, b16, q1, b2_0]
        · refine ⟨(y.1, y.2.1, y.2.2.1, y.2.2.2, 1, nI (e + 1)), ⟨rfl, Or.inr ⟨q1, rfl, q4, q3⟩⟩, ?_⟩
          have h1n : ((1 : Int32) = 0) = False := by decide
          simp +decide (disch := first | omega | decide) only [↓reduceIte, Option.bind_some, nI_clamp, inB_nI, inB_z, cl_z, nI_eqL, nI_leL, nI_ltL, nI_geL, nI_gtL, nI_leI, nI_ltI, nI_eq, nI_1, nI_addL, nI_add, hf1, hr0, b16, q2, h1n]
    · right
      refine ⟨(l1, h1, c, ar), ?_, ?_⟩
      · rw [isE (Nat.lt_of_lt_of_le h4 hm)]
        unfold g_Tester_marchFails_14
        have hi1 : isB 1 = true := by decide
        simp +decide (disch := first | omega | decide) only [↓reduceIte, Option.bind_some, nI_clamp, inB_nI, inB_z, cl_z, nI_eqL, nI_leL, nI_ltL, nI_geL, nI_gtL, nI_leI, nI_ltI, nI_eq, nI_1, nI_addL, nI_add, hni, b2_0, hi1]
        rfl
      · exact ⟨congrArg Prod.fst h3, congrArg Prod.snd h3⟩
  · rintro ⟨l1, h1, c, ar, fd, x⟩ rec ⟨hx, hc⟩
    dsimp only at hx hc
    subst hx
    rcases hc with ⟨rfl, hc⟩ | ⟨rfl, rfl, h3, h4⟩
    · refine ⟨(l1, h1, c, ar), ?_, hc.2.2.1⟩
      unfold g_Tester_marchFails_14
      simp +decide (disch := first | omega | decide) only [↓reduceIte, Option.bind_some, nI_clamp, inB_nI, inB_z, cl_z, nI_eqL, nI_leL, nI_ltL, nI_geL, nI_gtL, nI_leI, nI_ltI, nI_eq, nI_1, nI_addL, nI_add, Nat.le_refl, hib]
    · refine ⟨(l1, h1, c, ar), ?_, ⟨congrArg Prod.fst h3, congrArg Prod.snd h3⟩⟩
      rw [isE h4]
      unfold g_Tester_marchFails_14
      have hi1 : isB 1 = true := by decide
      simp +decide (disch := first | omega | decide) only [↓reduceIte, Option.bind_some, nI_clamp, inB_nI, inB_z, cl_z, nI_eqL, nI_leL, nI_ltL, nI_geL, nI_gtL, nI_leI, nI_ltI, nI_eq, nI_1, nI_addL, nI_add, Nat.le_refl, hi1]
      rfl
  · show (0 : Int32) = nI (wrN (fun _ => false) (fun _ => false) B)
    rw [wrN_zero]; rfl
end MTM
