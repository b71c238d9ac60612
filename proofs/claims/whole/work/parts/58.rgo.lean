def st0 (F : FL) : RSt := ((behindN F (fun _ _ => false) F.n, fun _ => false), [])
section RFG
variable {W B g ports : Nat} {F : FL} {P : Nat → Nat} {cnt : Int32} {kinds victims others : Nat → Int32} {a : MA} {elements : Int32} {sorts counts operations places : Nat → Int32} {keep : Bool} {c0 : Int32} {f0 : Nat → Int32}
set_option maxHeartbeats 4000000 in
theorem r_element (hW0 : 0 < W) (hW : W ≤ 16) (hB : B ≤ 4) (hg : g ≤ 3) (hpt : ports ≤ 2) (hF : FLok W B F) (hM : FM B F cnt kinds victims others) (ha : MAok a) (hA : AM a elements sorts counts operations) (hP : ∀ p, p < W → P p < W ∧ places p = nI (P p)) {e : Nat} (he : e < a.1)
    {c1 s1 : Int32} {cells sense arr : Nat → Int32} {st : RSt} (hS : Rst W B keep c0 f0 c1 s1 cells sense arr st) :
    ∃ c2 s2 cells' sense' arr', f_RF_doElement 16 16 16 128 4 4 64 4 4 1200 (nI W) (nI B) cnt (nI g) (nI ports) c1 (b2 keep) s1 sorts places counts operations victims kinds cells others sense arr (nI e) = some (c2, s2, cells', sense', arr') ∧ Rst W B keep c0 f0 c2 s2 cells' sense' arr' (elA (F, B, W, g, P, ports) a e st W) := by
  unfold f_RF_doElement
  have hsz := (ha.2 e he).1
  have hse := (hA.2 e he).1
  have h16 := ha.1
  refine lp_Q (I := fun i (s : Int32 × Int32 × (Nat → Int32) × (Nat → Int32) × (Nat → Int32) × Int32) => s.2.2.2.2.2 = nI i ∧ Rst W B keep c0 f0 s.1 s.2.1 s.2.2.1 s.2.2.2.1 s.2.2.2.2.1 (elA (F, B, W, g, P, ports) a e st i)) W (fun (r : Option (Int32 × Int32 × (Nat → Int32) × (Nat → Int32) × (Nat → Int32))) => ∃ c2 s2 cells' sense' arr', r = some (c2, s2, cells', sense', arr') ∧ Rst W B keep c0 f0 c2 s2 cells' sense' arr' (elA (F, B, W, g, P, ports) a e st W)) ?_ ?_ 100000 0 _ (by omega) (by omega) ⟨rfl, hS⟩
  · rintro i ⟨c, s, cl, sn, ar, x⟩ rec hi ⟨hx, hc⟩
    dsimp only at hx hc
    subst hx
    have hp : plA (F, B, W, g, P, ports) a e i < W := by
      unfold plA; dsimp only; split <;> omega
    obtain ⟨c2, s2, cl2, sn2, ar2, h1, h2⟩ := r_ops hW0 hW hB hg hpt hF hM ha hA hP he hp (x2 := nI i) hc rec
    left
    refine ⟨(c2, s2, cl2, sn2, ar2, nI (i + 1)), ⟨rfl, h2⟩, ?_⟩
    rw [← nI_1, ← h1]
    unfold g_RF_doElement_2 f_RF_doElement_32 plA
    have hpw := (hP _ hp).2
    unfold plA at hpw hp
    dsimp only at hpw hp ⊢
    by_cases h1 : a.2.1 e = 1
    · rw [if_pos h1] at hpw hp ⊢
      have e1 : nI W - 1 = nI (W - 1) := pk_sub (b := 1) hW0
      have e2 : nI (W - 1) - nI i = nI (W - 1 - i) := pk_sub (by omega)
      simp +decide (disch := first | omega | decide) only [↓reduceIte, Option.bind_some, nI_clamp, inB_nI, inB_z, cl_z, nI_eqL, nI_leL, nI_ltL, nI_geL, nI_gtL, nI_leI, nI_ltI, nI_eq, nI_1, nI_addL, nI_add, Nat.not_le.mpr hi, hse, h1, e1, e2, hpw]
    · rw [if_neg h1] at hpw hp ⊢
      simp +decide (disch := first | omega | decide) only [↓reduceIte, Option.bind_some, nI_clamp, inB_nI, inB_z, cl_z, nI_eqL, nI_leL, nI_ltL, nI_geL, nI_gtL, nI_leI, nI_ltI, nI_eq, nI_1, nI_addL, nI_add, Nat.not_le.mpr hi, hse, h1, hpw]
  · rintro ⟨c, s, cl, sn, ar, x⟩ rec ⟨hx, hc⟩
    dsimp only at hx hc
    subst hx
    refine ⟨c, s, cl, sn, ar, ?_, hc⟩
    unfold g_RF_doElement_2
    simp +decide (disch := first | omega | decide) only [↓reduceIte, Option.bind_some, nI_clamp, inB_nI, inB_z, cl_z, nI_eqL, nI_leL, nI_ltL, nI_geL, nI_gtL, nI_leI, nI_ltI, nI_eq, nI_1, nI_addL, nI_add, Nat.le_refl]
set_option maxHeartbeats 4000000 in
theorem r_pause (hW : W ≤ 16) (hB : B ≤ 4) (hF : FLok W B F) (hM : FM B F cnt kinds victims others) {c1 s1 x2 : Int32} {cells sense arr : Nat → Int32} {M : Mem} (hR : RC W B cells M) (rec57 : (Int32 × Int32 × (Nat → Int32) × (Nat → Int32) × (Nat → Int32) × Int32) → Option (Int32 × Int32 × (Nat → Int32) × (Nat → Int32) × (Nat → Int32) × (Nat → Int32))) :
    ∃ cells', lp (g_RF_go_77 4 4 64 4 cnt c1 s1 victims kinds others sense arr x2 rec57) 100000 (cells, 0) = rec57 (c1, s1, cells', sense, arr, x2 + 1) ∧ RC W B cells' (pauseM F M) := by
  have hF' := hF
  have hM' := hM
  obtain ⟨hn, hf⟩ := hF
  obtain ⟨rfl, hm⟩ := hM
  refine lp_Q (I := fun i (s : (Nat → Int32) × Int32) => s.2 = nI i ∧ RC W B s.1 (pauseN F M i)) F.n (fun (r : Option (Int32 × Int32 × (Nat → Int32) × (Nat → Int32) × (Nat → Int32) × (Nat → Int32))) => ∃ cells', r = rec57 (c1, s1, cells', sense, arr, x2 + 1) ∧ RC W B cells' (pauseM F M)) ?_ ?_ 100000 0 _ (by omega) (by omega) ⟨rfl, hR⟩
  · rintro i ⟨c, x⟩ rec hi ⟨hx, hc⟩
    dsimp only at hx hc
    subst hx
    obtain ⟨k1, k2, k3, k4⟩ := hf i hi
    obtain ⟨m1, m2, m3⟩ := hm i hi
    have hv := ix_lt hW hB k2 k3
    have hni := Nat.not_le.mpr hi
    left
    unfold g_RF_go_77
    by_cases h5 : F.kd i = 5
    · refine ⟨(upd c (B * F.vw i + F.vb i) (b2 false), nI (i + 1)), ⟨rfl, ?_⟩, ?_⟩
      · unfold pauseN; rw [if_pos h5]; exact RC_upd hc k3 false
      · simp +decide (disch := first | omega | decide) only [↓reduceIte, Option.bind_some, nI_clamp, inB_nI, inB_z, cl_z, nI_eqL, nI_leL, nI_ltL, nI_geL, nI_gtL, nI_leI, nI_ltI, nI_eq, nI_1, nI_addL, nI_add, m1, m2, h5, hni]
        rfl
    · refine ⟨(upd c (B * F.vw i + F.vb i) (c (B * F.vw i + F.vb i)), nI (i + 1)), ⟨rfl, ?_⟩, ?_⟩
      · unfold pauseN; rw [if_neg h5]; exact RC_same hc k2 k3
      · simp +decide (disch := first | omega | decide) only [↓reduceIte, Option.bind_some, nI_clamp, inB_nI, inB_z, cl_z, nI_eqL, nI_leL, nI_ltL, nI_geL, nI_gtL, nI_leI, nI_ltI, nI_eq, nI_1, nI_addL, nI_add, m1, m2, h5, hni]
  · rintro ⟨c, x⟩ rec ⟨hx, hc⟩
    dsimp only at hx hc
    subst hx
    obtain ⟨c', e1, e2⟩ := r_behind hW hB hF' hM' hc
    refine ⟨c', ?_, e2⟩
    unfold g_RF_go_77
    simp +decide (disch := first | omega | decide) only [↓reduceIte, Option.bind_some, nI_clamp, inB_nI, inB_z, cl_z, nI_eqL, nI_leL, nI_ltL, nI_geL, nI_gtL, nI_leI, nI_ltI, nI_eq, nI_1, nI_addL, nI_add, Nat.le_refl, e1]
set_option maxHeartbeats 4000000 in
theorem r_march (hW0 : 0 < W) (hW : W ≤ 16) (hB : B ≤ 4) (hg : g ≤ 3) (hpt : ports ≤ 2) (hF : FLok W B F) (hM : FM B F cnt kinds victims others) (ha : MAok a) (hA : AM a elements sorts counts operations) (hP : ∀ p, p < W → P p < W ∧ places p = nI (P p))
    {c1 s1 : Int32} {cells sense arr : Nat → Int32} {st : RSt} (hS : Rst W B keep c0 f0 c1 s1 cells sense arr st) :
    ∃ c2 s2 cells' sense' arr', lp (g_RF_go_57 16 4 4 64 4 16 16 128 4 1200 (nI W) (nI B) cnt (nI g) (nI ports) elements (b2 keep) places victims kinds others sorts counts operations) 100000 (c1, s1, cells, sense, arr, 0) = some (c2, s2, places, cells', sense', arr') ∧ Rst W B keep c0 f0 c2 s2 cells' sense' arr' (runA (F, B, W, g, P, ports) a st a.1) := by
  have hA' := hA
  obtain ⟨rfl, hA2⟩ := hA
  have h16 := ha.1
  refine lp_Q (I := fun e (s : Int32 × Int32 × (Nat → Int32) × (Nat → Int32) × (Nat → Int32) × Int32) => s.2.2.2.2.2 = nI e ∧ Rst W B keep c0 f0 s.1 s.2.1 s.2.2.1 s.2.2.2.1 s.2.2.2.2.1 (runA (F, B, W, g, P, ports) a st e)) a.1 (fun (r : Option (Int32 × Int32 × (Nat → Int32) × (Nat → Int32) × (Nat → Int32) × (Nat → Int32))) => ∃ c2 s2 cells' sense' arr', r = some (c2, s2, places, cells', sense', arr') ∧ Rst W B keep c0 f0 c2 s2 cells' sense' arr' (runA (F, B, W, g, P, ports) a st a.1)) ?_ ?_ 100000 0 _ (by omega) (by omega) ⟨rfl, hS⟩
  · rintro e ⟨c, s, cl, sn, ar, x⟩ rec he ⟨hx, hc⟩
    dsimp only at hx hc
    subst hx
    have hse := (hA2 e he).1
    have hsz := (ha.2 e he).1
    have hni := Nat.not_le.mpr he
    have e0 : runA (F, B, W, g, P, ports) a st (e + 1) = if a.2.1 e = 2 then ((pauseM F (runA (F, B, W, g, P, ports) a st e).1.1, (runA (F, B, W, g, P, ports) a st e).1.2), (runA (F, B, W, g, P, ports) a st e).2) else elA (F, B, W, g, P, ports) a e (runA (F, B, W, g, P, ports) a st e) W := rfl
    rw [e0]
    left
    unfold g_RF_go_57
    by_cases h2 : a.2.1 e = 2
    · obtain ⟨r1, r2, r3, r4⟩ := hc
      obtain ⟨cl', h3, h4⟩ := r_pause hW hB hF hM (c1 := c) (s1 := s) (x2 := nI e) (sense := sn) (arr := ar) r1 rec
      refine ⟨(c, s, cl', sn, ar, nI (e + 1)), ⟨rfl, ?_⟩, ?_⟩
      · rw [if_pos h2]; exact ⟨h4, r2, r3, r4⟩
      · simp +decide (disch := first | omega | decide) only [↓reduceIte, Option.bind_some, nI_clamp, inB_nI, inB_z, cl_z, nI_eqL, nI_leL, nI_ltL, nI_geL, nI_gtL, nI_leI, nI_ltI, nI_eq, nI_1, nI_addL, nI_add, hni, hse, h2, h3]
    · obtain ⟨c2, s2, cl2, sn2, ar2, h3, h4⟩ := r_element hW0 hW hB hg hpt hF hM ha hA' hP he hc
      refine ⟨(c2, s2, cl2, sn2, ar2, nI (e + 1)), ⟨rfl, ?_⟩, ?_⟩
      · rw [if_neg h2]; exact h4
      · simp +decide (disch := first | omega | decide) only [↓reduceIte, Option.bind_some, nI_clamp, inB_nI, inB_z, cl_z, nI_eqL, nI_leL, nI_ltL, nI_geL, nI_gtL, nI_leI, nI_ltI, nI_eq, nI_1, nI_addL, nI_add, hni, hse, h2, h3]
  · rintro ⟨c, s, cl, sn, ar, x⟩ rec ⟨hx, hc⟩
    dsimp only at hx hc
    subst hx
    refine ⟨c, s, cl, sn, ar, ?_, hc⟩
    unfold g_RF_go_57
    simp +decide (disch := first | omega | decide) only [↓reduceIte, Option.bind_some, nI_clamp, inB_nI, inB_z, cl_z, nI_eqL, nI_leL, nI_ltL, nI_geL, nI_gtL, nI_leI, nI_ltI, nI_eq, nI_1, nI_addL, nI_add, Nat.le_refl]
set_option maxHeartbeats 4000000 in
theorem r_go {scr : Nat → Nat} {scrambled : Nat → Int32} {o : Nat} (ho : o < 3) (hs : SC W scr scrambled) (hW0 : 0 < W) (hW : W ≤ 16) (hB : B ≤ 4) (hg : g ≤ 3) (hpt : ports ≤ 2) (hF : FLok W B F) (hM : FM B F cnt kinds victims others) (ha : MAok a) (hA : AM a elements sorts counts operations)
    {c1 : Int32} {cells sense arr : Nat → Int32} (hK : KP keep c0 f0 c1 arr []) :
    ∃ c2 s2 places' cells' sense' arr', f_RF_go 16 16 4 4 64 4 16 16 128 4 1200 (nI W) (nI B) cnt (nI g) (nI ports) elements c1 (b2 keep) scrambled places victims kinds cells others sorts counts operations sense arr (nI o) = some (c2, s2, places', cells', sense', arr') ∧ KP keep c0 f0 c2 arr' (runA (F, B, W, g, plN o W scr 16, ports) a (st0 F) a.1).2 ∧ s2 = b2 (!(runA (F, B, W, g, plN o W scr 16, ports) a (st0 F) a.1).2.isEmpty) := by
  obtain ⟨places', p1, p2⟩ := r_places (places := places) ho hW0 hW hs
  unfold f_RF_go
  rw [p1, Option.bind_some]
  refine lp_Q (I := fun i (s : Int32 × Int32 × (Nat → Int32) × (Nat → Int32) × (Nat → Int32) × Int32) => s.2.2.2.2.2 = nI i ∧ s.1 = c1 ∧ s.2.1 = 0 ∧ s.2.2.2.2.1 = arr ∧ ∀ c, c < i → s.2.2.1 c = 0) 64 (fun (r : Option (Int32 × Int32 × (Nat → Int32) × (Nat → Int32) × (Nat → Int32) × (Nat → Int32))) => ∃ c2 s2 places' cells' sense' arr', r = some (c2, s2, places', cells', sense', arr') ∧ KP keep c0 f0 c2 arr' (runA (F, B, W, g, plN o W scr 16, ports) a (st0 F) a.1).2 ∧ s2 = b2 (!(runA (F, B, W, g, plN o W scr 16, ports) a (st0 F) a.1).2.isEmpty)) ?_ ?_ 100000 0 _ (by omega) (by omega) ⟨rfl, rfl, rfl, rfl, fun c h => by omega⟩
  · rintro i ⟨c, s, cl, sn, ar, x⟩ rec hi ⟨hx, h1, h2, h3, h4⟩
    dsimp only at hx h1 h2 h3 h4
    subst hx h1 h2 h3
    left
    refine ⟨(c, 0, upd cl i 0, sn, ar, nI (i + 1)), ⟨rfl, rfl, rfl, rfl, fun j hj => ?_⟩, ?_⟩
    · by_cases e : j = i
      · subst e; exact upd_s
      · show upd cl i 0 j = 0
        rw [upd_n e]; exact h4 j (by omega)
    · have hni := Nat.not_le.mpr hi
      unfold g_RF_go_12
      simp +decide (disch := first | omega | decide) only [↓reduceIte, Option.bind_some, nI_clamp, inB_nI, inB_z, cl_z, nI_eqL, nI_leL, nI_ltL, nI_geL, nI_gtL, nI_leI, nI_ltI, nI_eq, nI_1, nI_addL, nI_add, hni]
  · rintro ⟨c, s, cl, sn, ar, x⟩ rec ⟨hx, h1, h2, h3, h4⟩
    dsimp only at hx h1 h2 h3 h4
    subst hx h1 h2 h3
    unfold g_RF_go_12
    simp +decide (disch := first | omega | decide) only [↓reduceIte, Option.bind_some, nI_clamp, inB_nI, inB_z, cl_z, nI_eqL, nI_leL, nI_ltL, nI_geL, nI_gtL, nI_leI, nI_ltI, nI_eq, nI_1, nI_addL, nI_add]
    refine lp_Q (I := fun i (s : Int32 × Int32 × (Nat → Int32) × (Nat → Int32) × (Nat → Int32) × Int32) => s.2.2.2.2.2 = nI i ∧ s.1 = c ∧ s.2.1 = 0 ∧ s.2.2.1 = cl ∧ s.2.2.2.2.1 = ar ∧ ∀ b, b < i → s.2.2.2.1 b = 0) 4 (fun (r : Option (Int32 × Int32 × (Nat → Int32) × (Nat → Int32) × (Nat → Int32) × (Nat → Int32))) => ∃ c2 s2 places' cells' sense' arr', r = some (c2, s2, places', cells', sense', arr') ∧ KP keep c0 f0 c2 arr' (runA (F, B, W, g, plN o W scr 16, ports) a (st0 F) a.1).2 ∧ s2 = b2 (!(runA (F, B, W, g, plN o W scr 16, ports) a (st0 F) a.1).2.isEmpty)) ?_ ?_ 100000 0 _ (by omega) (by omega) ⟨rfl, rfl, rfl, rfl, rfl, fun c h => by omega⟩
    · rintro i ⟨c', s', cl', sn', ar', x'⟩ rec' hi ⟨hx, h1, h2, h3, h5, h6⟩
      dsimp only at hx h1 h2 h3 h5 h6
      subst hx h1 h2 h3 h5
      left
      refine ⟨(c', 0, cl', upd sn' i 0, ar', nI (i + 1)), ⟨rfl, rfl, rfl, rfl, rfl, fun j hj => ?_⟩, ?_⟩
      · by_cases e : j = i
        · subst e; exact upd_s
        · show upd sn' i 0 j = 0
          rw [upd_n e]; exact h6 j (by omega)
      · have hni := Nat.not_le.mpr hi
        unfold g_RF_go_33
        simp +decide (disch := first | omega | decide) only [↓reduceIte, Option.bind_some, nI_clamp, inB_nI, inB_z, cl_z, nI_eqL, nI_leL, nI_ltL, nI_geL, nI_gtL, nI_leI, nI_ltI, nI_eq, nI_1, nI_addL, nI_add, hni]
    · rintro ⟨c', s', cl', sn', ar', x'⟩ rec' ⟨hx, h1, h2, h3, h5, h6⟩
      dsimp only at hx h1 h2 h3 h5 h6
      subst hx h1 h2 h3 h5
      have hRC : RC W B cl' (fun _ _ => false) := fun w b hw hb => h4 _ (ix_lt hW hB hw hb)
      have hRS : RS B sn' (fun _ => false) := fun b hb => h6 b (by omega)
      obtain ⟨cl2, e1, e2⟩ := r_behind hW hB hF hM hRC
      have hst : Rst W B keep c0 f0 c' 0 cl2 sn' ar' (st0 F) := ⟨e2, hRS, hK, rfl⟩
      obtain ⟨c3, s3, cl3, sn3, ar3, e3, e4⟩ := r_march hW0 hW hB hg hpt hF hM ha hA p2 hst
      refine ⟨c3, s3, places', cl3, sn3, ar3, ?_, e4.2.2.1, e4.2.2.2⟩
      unfold g_RF_go_33
      simp +decide (disch := first | omega | decide) only [↓reduceIte, Option.bind_some, nI_clamp, inB_nI, inB_z, cl_z, nI_eqL, nI_leL, nI_ltL, nI_geL, nI_gtL, nI_leI, nI_ltI, nI_eq, nI_1, nI_addL, nI_add, e1, e3]
end RFG
