def sm (f : Nat → Nat) : Nat → Nat
  | 0 => 0
  | n + 1 => sm f n + f n
theorem sm_congr {f g : Nat → Nat} : ∀ n, (∀ i, i < n → f i = g i) → sm f n = sm g n
  | 0, _ => rfl
  | n + 1, h => by
    unfold sm
    rw [sm_congr n (fun i hi => h i (by omega)), h n (by omega)]
theorem sm_one {c v : Nat} : ∀ n, sm (fun o => if o = c then v else 0) n = if c < n then v else 0
  | 0 => rfl
  | n + 1 => by
    unfold sm
    rw [sm_one n]
    by_cases h : n = c
    · subst h; simp
    · by_cases h2 : c < n
      · rw [if_pos h2, if_neg h, if_pos (by omega)]
        omega
      · rw [if_neg h2, if_neg h, if_neg (by omega)]
theorem sm_oth {c : Nat} : ∀ n, sm (fun o => if o ≠ c then 1 else 0) n = if c < n then n - 1 else n
  | 0 => rfl
  | n + 1 => by
    unfold sm
    rw [sm_oth n]
    by_cases h : n = c
    · subst h; simp
    · by_cases h2 : c < n
      · rw [if_pos h2, if_pos h, if_pos (by omega)]
        omega
      · rw [if_neg h2, if_pos h, if_neg (by omega)]
theorem sm_const {v : Nat} : ∀ n, sm (fun _ => v) n = n * v
  | 0 => by rw [Nat.zero_mul]; rfl
  | n + 1 => by
    unfold sm
    rw [sm_const n, Nat.succ_mul]
theorem sm_le {f : Nat → Nat} {v : Nat} (h : ∀ i, f i ≤ v) : ∀ n, sm f n ≤ n * v
  | 0 => by rw [Nat.zero_mul]; exact Nat.le_refl _
  | n + 1 => by
    unfold sm
    rw [Nat.succ_mul]
    exact Nat.add_le_add (sm_le h n) (h n)
def vC (k c o : Nat) : Bool := if 10 ≤ k then decide (c ≠ o) else decide (c = o)
def vR (k c o : Nat) : Bool := if 10 ≤ k then decide (o ≠ c) else decide (o = 0)
def FZ : FL := (0, fun _ => 0, fun _ => 0, fun _ => 0, fun _ => 0, fun _ => 0)
def hit (B W g : Nat) (P : Nat → Nat) (ports : Nat) (a : MA) (k c o : Nat) : Nat := if (runA (FZ.add B k c o, B, W, g, P, ports) a (st0 (FZ.add B k c o)) a.1).2.isEmpty then 0 else 1
theorem sum_eq {h : Nat → Nat → Nat} {k n : Nat} (hh : ¬ 10 ≤ k → ∀ c o o', h c o = h c o') : sm (fun c => sm (fun o => if vC k c o = true then h c o else 0) n) n = sm (fun c => sm (fun o => if vR k c o = true then h c o else 0) n) n := by
  refine sm_congr n (fun c hc => ?_)
  by_cases hk : 10 ≤ k
  · refine sm_congr n (fun o ho => ?_)
    have : vC k c o = vR k c o := by
      unfold vC vR
      rw [if_pos hk, if_pos hk]
      congr 1
      exact propext ⟨fun q r => q r.symm, fun q r => q r.symm⟩
    rw [this]
  · have e1 : sm (fun o => if vC k c o = true then h c o else 0) n = sm (fun o => if o = c then h c c else 0) n := by
      refine sm_congr n (fun o ho => ?_)
      unfold vC
      rw [if_neg hk]
      by_cases q : o = c
      · subst q; simp
      · rw [if_neg q, if_neg]
        simp
        exact fun r => q r.symm
    have e2 : sm (fun o => if vR k c o = true then h c o else 0) n = sm (fun o => if o = 0 then h c 0 else 0) n := by
      refine sm_congr n (fun o ho => ?_)
      unfold vR
      rw [if_neg hk]
      by_cases q : o = 0
      · subst q; simp
      · rw [if_neg q, if_neg]
        simpa using q
    rw [e1, e2, sm_one, sm_one, if_pos hc, if_pos (by omega), hh hk c c 0]
theorem sum_tot {k n : Nat} (hn : 0 < n) : sm (fun c => sm (fun o => if vR k c o = true then 1 else 0) n) n = if 10 ≤ k then n * (n - 1) else n := by
  by_cases hk : 10 ≤ k
  · rw [if_pos hk, ← sm_const n]
    refine sm_congr n (fun c hc => ?_)
    have : sm (fun o => if vR k c o = true then 1 else 0) n = sm (fun o => if o ≠ c then 1 else 0) n := by
      refine sm_congr n (fun o ho => ?_)
      unfold vR
      rw [if_pos hk]
      simp
    rw [this, sm_oth, if_pos hc]
  · rw [if_neg hk]
    have : sm (fun c => sm (fun o => if vR k c o = true then 1 else 0) n) n = sm (fun _ => 1) n := by
      refine sm_congr n (fun c hc => ?_)
      have : sm (fun o => if vR k c o = true then 1 else 0) n = sm (fun o => if o = 0 then 1 else 0) n := by
        refine sm_congr n (fun o ho => ?_)
        unfold vR
        rw [if_neg hk]
        simp
      rw [this, sm_one, if_pos hn]
    rw [this, sm_const, Nat.mul_one]
theorem FZ_ok {W B : Nat} : FLok W B FZ := ⟨Nat.zero_le 4, fun f hf => absurd hf (Nat.not_lt_zero f)⟩
theorem FZ_X {kinds vW vM oW oM : Nat → Int32} : FX FZ (nI FZ.n) 0 kinds vW vM oW oM := by
  refine ⟨rfl, fun f hf => absurd hf (Nat.not_lt_zero f), 0, by decide, rfl, fun w hw => ?_⟩
  rw [Nat.zero_testBit]
  constructor
  · intro q; cases q
  · rintro ⟨f, hf, _⟩; exact absurd hf (Nat.not_lt_zero f)
theorem FZ_M {B : Nat} {mk mv mo : Nat → Int32} : FM B FZ (nI FZ.n) mk mv mo := ⟨rfl, fun f hf => absurd hf (Nat.not_lt_zero f)⟩
theorem m_pair {k : Nat} (hk : k ≤ 13) : f_MT_isPaired (nI k) = some (b2 (decide (10 ≤ k))) := by
  unfold f_MT_isPaired
  by_cases h : 10 ≤ k
  · (have o_0 : ¬ k < 10 := (by omega); have o_1 : ¬ 13 < k := (by omega); simp +decide (disch := first | omega | decide) only [↓reduceIte, Option.bind_some, nI_clamp, inB_nI, inB_z, cl_z, nI_eqL, nI_leL, nI_ltL, nI_geL, nI_gtL, nI_leI, nI_ltI, nI_eq, nI_1, nI_addL, nI_add, o_0, o_1])
    rw [decide_eq_true h]; rfl
  · (have o_0 : k < 10 := (by omega); simp +decide (disch := first | omega | decide) only [↓reduceIte, Option.bind_some, nI_clamp, inB_nI, inB_z, cl_z, nI_eqL, nI_leL, nI_ltL, nI_geL, nI_gtL, nI_leI, nI_ltI, nI_eq, nI_1, nI_addL, nI_add, o_0])
    rw [decide_eq_false h]; rfl
set_option maxHeartbeats 4000000 in
theorem m_cov {W B g ports k : Nat} {P : Nat → Nat} (hW0 : 0 < W) (hW : W ≤ 16) (hB0 : 0 < B) (hB : B ≤ 4) (hpt : ports ≤ 2) (hk : k ≤ 13) {wordAt zeroOf : Nat → Int32} (hP : ∀ p, p < W → P p < W ∧ wordAt p = nI (P p)) (hZ : ∀ w, w < W → zeroOf w = nI (wrN (gr g w) (fun _ => false) B))
    {a : MA} (ha : MAok a) {xe xr : Int32} {xf xrows : Nat → Int32} (hA : AX a xe xr xf xrows) {sc st lt xfc : Int32} {sk svW svM soW soM held xfp : Nat → Int32} :
    ∃ q, lp (g_MT_covered_102 W W 4 4 4 4 4 W 17 128 1200 (nI (W * B)) xe (nI ports) (nI W) (nI (2 ^ B - 1)) zeroOf wordAt (nI B) (nI W) (nI B) xf xrows (nI k) (b2 (decide (10 ≤ k)))) 100000 (sc, st, sk, svW, svM, soW, soM, lt, xfc, held, xfp, 0, 0) = some (Sum.inl q)
      ∧ q.1 = lN (sm (fun c => sm (fun o => if vC k c o = true then hit B W g P ports a k c o else 0) (W * B)) (W * B)) ∧ q.2.2.2.2.2.2.2.2.2.2.2.1 = xfc ∧ q.2.2.2.2.2.2.2.2.2.2.2.2.2 = xfp := by
  have c64 : W * B ≤ 64 := Nat.mul_le_mul hW hB
  refine lp_Q (I := fun c (s : Int32 × Int32 × (Nat → Int32) × (Nat → Int32) × (Nat → Int32) × (Nat → Int32) × (Nat → Int32) × Int32 × Int32 × (Nat → Int32) × (Nat → Int32) × Int32 × Int64) => s.2.2.2.2.2.2.2.2.2.2.2.1 = nI c ∧ s.2.2.2.2.2.2.2.2.2.2.2.2 = lN (sm (fun c => sm (fun o => if vC k c o = true then hit B W g P ports a k c o else 0) (W * B)) c) ∧ s.2.2.2.2.2.2.2.2.1 = xfc ∧ s.2.2.2.2.2.2.2.2.2.2.1 = xfp) (W * B) (fun (r : Option ((Int64 × (Nat → Int32) × (Nat → Int32) × Int32 × Int32 × (Nat → Int32) × (Nat → Int32) × (Nat → Int32) × (Nat → Int32) × (Nat → Int32) × Int32 × Int32 × (Nat → Int32) × (Nat → Int32)) ⊕ Nat)) => ∃ q, r = some (Sum.inl q) ∧ q.1 = lN (sm (fun c => sm (fun o => if vC k c o = true then hit B W g P ports a k c o else 0) (W * B)) (W * B)) ∧ q.2.2.2.2.2.2.2.2.2.2.2.1 = xfc ∧ q.2.2.2.2.2.2.2.2.2.2.2.2.2 = xfp) ?_ ?_ 100000 0 _ (by omega) (by omega) ⟨rfl, rfl, rfl, rfl⟩
  · rintro c ⟨sc, st, sk, svW, svM, soW, soM, lt, fc, held, fp, x, fo⟩ rec hc ⟨h1, h2, h3, h4⟩
    dsimp only at h1 h2 h3 h4
    subst h1 h2 h3 h4
    left
    unfold g_MT_covered_102
    have hnc : ¬ W * B ≤ c := by omega
    simp +decide (disch := first | omega | decide) only [↓reduceIte, Option.bind_some, nI_clamp, inB_nI, inB_z, cl_z, nI_eqL, nI_leL, nI_ltL, nI_geL, nI_gtL, nI_leI, nI_ltI, nI_eq, nI_1, nI_addL, nI_add, hnc]
    refine lp_Q (I := fun o (s : Int32 × Int32 × (Nat → Int32) × (Nat → Int32) × (Nat → Int32) × (Nat → Int32) × (Nat → Int32) × Int32 × Int32 × (Nat → Int32) × (Nat → Int32) × Int32 × Int64) => s.2.2.2.2.2.2.2.2.2.2.2.1 = nI o ∧ s.2.2.2.2.2.2.2.2.2.2.2.2 = lN (sm (fun c => sm (fun o => if vC k c o = true then hit B W g P ports a k c o else 0) (W * B)) c + sm (fun o => if vC k c o = true then hit B W g P ports a k c o else 0) o) ∧ s.2.2.2.2.2.2.2.2.1 = fc ∧ s.2.2.2.2.2.2.2.2.2.2.1 = fp) (W * B) (fun r => ∃ s' : Int32 × Int32 × (Nat → Int32) × (Nat → Int32) × (Nat → Int32) × (Nat → Int32) × (Nat → Int32) × Int32 × Int32 × (Nat → Int32) × (Nat → Int32) × Int32 × Int64, (s'.2.2.2.2.2.2.2.2.2.2.2.1 = nI (c + 1) ∧ s'.2.2.2.2.2.2.2.2.2.2.2.2 = lN (sm (fun c => sm (fun o => if vC k c o = true then hit B W g P ports a k c o else 0) (W * B)) (c + 1)) ∧ s'.2.2.2.2.2.2.2.2.1 = fc ∧ s'.2.2.2.2.2.2.2.2.2.2.1 = fp) ∧ r = rec s') ?_ ?_ 100000 0 _ (by omega) (by omega) ⟨rfl, rfl, rfl, rfl⟩
    · rintro o ⟨sc, st, sk, svW, svM, soW, soM, lt, fc', held, fp', x, fo⟩ rec2 ho ⟨h1, h2, h3, h4⟩
      dsimp only at h1 h2 h3 h4
      subst h1 h2 h3 h4
      left
      have hno : ¬ W * B ≤ o := by omega
      generalize sm (fun c => sm (fun o => if vC k c o = true then hit B W g P ports a k c o else 0) (W * B)) c = s0
      have hs : sm (fun o => if vC k c o = true then hit B W g P ports a k c o else 0) (o + 1) = sm (fun o => if vC k c o = true then hit B W g P ports a k c o else 0) o + (if vC k c o = true then hit B W g P ports a k c o else 0) := rfl
      rw [hs]
      generalize sm (fun o => if vC k c o = true then hit B W g P ports a k c o else 0) o = s1
      have key : g_MT_covered_114 W W 4 4 4 4 4 W 17 128 1200 (nI (W * B)) xe (nI ports) (nI W) (nI (2 ^ B - 1)) zeroOf wordAt (nI B) (nI W) (nI B) xf xrows (nI k) (b2 (decide (10 ≤ k))) (nI c) rec rec2 (sc, st, sk, svW, svM, soW, soM, lt, fc', held, fp', nI o, lN (s0 + s1)) = f_MT_covered_136 W W 4 4 4 4 4 W 17 128 1200 xe (nI ports) (nI W) (nI (2 ^ B - 1)) zeroOf wordAt sc st (nI B) sk svW svM soW soM (nI W) (nI B) lt fc' held xf xrows fp' (b2 (decide (10 ≤ k))) (b2 (decide (c ≠ o))) (nI k) (nI c) (nI o) (lN (s0 + s1)) rec2 := by
        unfold g_MT_covered_114
        by_cases hco : c = o
        · rw [decide_eq_false (p := c ≠ o) (fun q => q hco)]
          have hco := eq_true hco
          simp +decide (disch := first | omega | decide) only [↓reduceIte, Option.bind_some, nI_clamp, inB_nI, inB_z, cl_z, nI_eqL, nI_leL, nI_ltL, nI_geL, nI_gtL, nI_leI, nI_ltI, nI_eq, nI_1, nI_addL, nI_add, hno, hco]
          rfl
        · rw [decide_eq_true (p := c ≠ o) hco]
          simp +decide (disch := first | omega | decide) only [↓reduceIte, Option.bind_some, nI_clamp, inB_nI, inB_z, cl_z, nI_eqL, nI_leL, nI_ltL, nI_geL, nI_gtL, nI_leI, nI_ltI, nI_eq, nI_1, nI_addL, nI_add, hno, hco]
          rfl
      rw [key]
      unfold f_MT_covered_136
      have hv : (b2 (decide (10 ≤ k)) = b2 (decide (c ≠ o))) ↔ vC k c o = true := by
        rw [b2_inj]
        unfold vC
        by_cases h : 10 ≤ k
        · rw [if_pos h, decide_eq_true h]
          exact ⟨fun q => q.symm, fun q => q.symm⟩
        · rw [if_neg h, decide_eq_false h]
          by_cases e : c = o
          · simp [e]
          · simp [e]
      by_cases hvt : vC k c o = true
      · rw [if_pos (hv.mpr hvt), if_pos hvt]
        have hd : 10 ≤ k → c ≠ o := by
          intro h
          unfold vC at hvt
          rw [if_pos h] at hvt
          exact of_decide_eq_true hvt
        obtain ⟨q, q1, q2, q3⟩ := add_FX hW hB0 hB (FZ_X (kinds := sk) (vW := svW) (vM := svM) (oW := soW) (oM := soM)) (by decide) hk hc (o := o) (fun _ => ho) (y := nI o) (fun _ => rfl)
        have hF : FLok W B (FZ.add B k c o) := add_ok hB0 FZ_ok (by decide) hk hc (fun h => ⟨ho, hd h⟩)
        obtain ⟨y, y1, y2⟩ := m_march (keep := false) (c0 := fc') (f0 := fp') (held := held) hW0 hW hB hpt hF q3 hP hZ ha hA ⟨rfl, rfl⟩
        have q1' : f_FaultList_add 4 4 4 4 4 0 0 (nI B) sk svW svM soW soM (nI k) (nI c) (nI o) = some q := q1
        have y1' := y1
        rw [show b2 false = 0 from rfl] at y1'
        unfold f_FaultList_clear f_MT_covered_184
        rw [Option.bind_some, q1', Option.bind_some, y1', Option.bind_some]
        unfold hit
        cases hr : (runA (FZ.add B k c o, B, W, g, P, ports) a (st0 (FZ.add B k c o)) a.1).2.isEmpty
        · refine ⟨(q.1, q.2.1, q.2.2.1, q.2.2.2.1, q.2.2.2.2.1, q.2.2.2.2.2.1, q.2.2.2.2.2.2, y.1, y.2.2.1, y.2.1, y.2.2.2, nI (o + 1), lN (s0 + (s1 + 1))), ⟨rfl, rfl, y2.1, y2.2⟩, ?_⟩
          dsimp only
          rw [if_neg (by decide), nI_1, ← Nat.add_assoc, ← lN_1]
        · refine ⟨(q.1, q.2.1, q.2.2.1, q.2.2.2.1, q.2.2.2.2.1, q.2.2.2.2.2.1, q.2.2.2.2.2.2, y.1, y.2.2.1, y.2.1, y.2.2.2, nI (o + 1), lN (s0 + (s1 + 0))), ⟨rfl, rfl, y2.1, y2.2⟩, ?_⟩
          dsimp only
          rw [if_pos (by decide), nI_1, show lN (s0 + s1) + 0 = lN (s0 + (s1 + 0)) from Int64.add_zero _]
      · rw [if_neg (fun q => hvt (hv.mp q)), if_neg hvt]
        refine ⟨(sc, st, sk, svW, svM, soW, soM, lt, fc', held, fp', nI (o + 1), lN (s0 + (s1 + 0))), ⟨rfl, rfl, rfl, rfl⟩, ?_⟩
        rw [nI_1]
        rfl
    · rintro ⟨sc, st, sk, svW, svM, soW, soM, lt, fc', held, fp', x, fo⟩ rec2 ⟨h1, h2, h3, h4⟩
      dsimp only at h1 h2 h3 h4
      subst h1 h2 h3 h4
      unfold g_MT_covered_114
      simp +decide (disch := first | omega | decide) only [↓reduceIte, Option.bind_some, nI_clamp, inB_nI, inB_z, cl_z, nI_eqL, nI_leL, nI_ltL, nI_geL, nI_gtL, nI_leI, nI_ltI, nI_eq, nI_1, nI_addL, nI_add, Nat.le_refl]
      exact ⟨_, ⟨rfl, rfl, rfl, rfl⟩, rfl⟩
  · rintro ⟨sc, st, sk, svW, svM, soW, soM, lt, fc', held, fp', x, fo⟩ rec2 ⟨h1, h2, h3, h4⟩
    dsimp only at h1 h2 h3 h4
    subst h1 h2 h3 h4
    unfold g_MT_covered_102
    simp +decide (disch := first | omega | decide) only [↓reduceIte, Option.bind_some, nI_clamp, inB_nI, inB_z, cl_z, nI_eqL, nI_leL, nI_ltL, nI_geL, nI_gtL, nI_leI, nI_ltI, nI_eq, nI_1, nI_addL, nI_add, Nat.le_refl]
    exact ⟨_, rfl, rfl, rfl, rfl⟩
set_option maxHeartbeats 4000000 in
theorem r_cov {W B g ports k part : Nat} {scr : Nat → Nat} (hW0 : 0 < W) (hW : W ≤ 16) (hB0 : 0 < B) (hB : B ≤ 4) (hg : g ≤ 3) (hpt : ports ≤ 2) (hk : k ≤ 13) (hpart : part < 2) {mscr : Nat → Int32} (hs : SC W scr mscr)
    {a : MA} (ha : MAok a) {me : Int32} {ms mc mo : Nat → Int32} (hA : AM a me ms mc mo) {fc so : Int32} {mk mv mot mpl mce mse mff : Nat → Int32} :
    ∃ q, lp (g_RF_covered_84 4 4 4 16 16 64 16 16 128 4 1200 0 (nI W) (nI B) 1 (nI g) (nI ports) me 0 (upd mk 0 (nI k)) mscr ms mc mo (nI k) (nI part) (nI (W * B))) 100000 (fc, so, mv, mot, mpl, mce, mse, mff, 0, 0, 0) = some q
      ∧ q.1 = (if part = 0 then Int32.toInt64 (nI (sm (fun c => sm (fun o => if vR k c o = true then hit B W g (plN 0 W scr 16) ports a k c o else 0) (W * B)) (W * B))) else Int32.toInt64 (nI (sm (fun c => sm (fun o => if vR k c o = true then 1 else 0) (W * B)) (W * B)))) ∧ q.2.1 = 0 ∧ q.2.2.2.1 = fc ∧ q.2.2.2.2.2.2.2.2.2.2.2.2 = mff := by
  have c64 : W * B ≤ 64 := Nat.mul_le_mul hW hB
  refine lp_Q (I := fun c (s : Int32 × Int32 × (Nat → Int32) × (Nat → Int32) × (Nat → Int32) × (Nat → Int32) × (Nat → Int32) × (Nat → Int32) × Int32 × Int32 × Int32) => s.2.2.2.2.2.2.2.2.2.2 = nI c ∧ (part = 0 → s.2.2.2.2.2.2.2.2.1 = nI (sm (fun c => sm (fun o => if vR k c o = true then hit B W g (plN 0 W scr 16) ports a k c o else 0) (W * B)) c)) ∧ s.2.2.2.2.2.2.2.2.2.1 = nI (sm (fun c => sm (fun o => if vR k c o = true then 1 else 0) (W * B)) c) ∧ s.1 = fc ∧ s.2.2.2.2.2.2.2.1 = mff) (W * B) (fun (r : Option (Int64 × Int32 × Int32 × Int32 × Int32 × Int32 × (Nat → Int32) × (Nat → Int32) × (Nat → Int32) × (Nat → Int32) × (Nat → Int32) × (Nat → Int32) × (Nat → Int32))) => ∃ q, r = some q
      ∧ q.1 = (if part = 0 then Int32.toInt64 (nI (sm (fun c => sm (fun o => if vR k c o = true then hit B W g (plN 0 W scr 16) ports a k c o else 0) (W * B)) (W * B))) else Int32.toInt64 (nI (sm (fun c => sm (fun o => if vR k c o = true then 1 else 0) (W * B)) (W * B)))) ∧ q.2.1 = 0 ∧ q.2.2.2.1 = fc ∧ q.2.2.2.2.2.2.2.2.2.2.2.2 = mff) ?_ ?_ 100000 0 _ (by omega) (by omega) ⟨rfl, fun _ => rfl, rfl, rfl, rfl⟩
  · rintro c ⟨f1, s1, v1, o1, p1, c1, e1, a1, x4, x5, x6⟩ rec hc ⟨h1, h2, h3, h4, h5⟩
    dsimp only at h1 h2 h3 h4 h5
    subst h1 h3 h4 h5
    left
    unfold g_RF_covered_84
    have hnc : ¬ W * B ≤ c := by omega
    simp +decide (disch := first | omega | decide) only [↓reduceIte, Option.bind_some, nI_clamp, inB_nI, inB_z, cl_z, nI_eqL, nI_leL, nI_ltL, nI_geL, nI_gtL, nI_leI, nI_ltI, nI_eq, nI_1, nI_addL, nI_add, hnc]
    refine lp_Q (I := fun o (s : Int32 × Int32 × (Nat → Int32) × (Nat → Int32) × (Nat → Int32) × (Nat → Int32) × (Nat → Int32) × (Nat → Int32) × Int32 × Int32 × Int32) => s.2.2.2.2.2.2.2.2.2.2 = nI o ∧ (part = 0 → s.2.2.2.2.2.2.2.2.1 = nI (sm (fun c => sm (fun o => if vR k c o = true then hit B W g (plN 0 W scr 16) ports a k c o else 0) (W * B)) c + sm (fun o => if vR k c o = true then hit B W g (plN 0 W scr 16) ports a k c o else 0) o)) ∧ s.2.2.2.2.2.2.2.2.2.1 = nI (sm (fun c => sm (fun o => if vR k c o = true then 1 else 0) (W * B)) c + sm (fun o => if vR k c o = true then 1 else 0) o) ∧ s.1 = f1 ∧ s.2.2.2.2.2.2.2.1 = a1) (W * B) (fun r => ∃ s' : Int32 × Int32 × (Nat → Int32) × (Nat → Int32) × (Nat → Int32) × (Nat → Int32) × (Nat → Int32) × (Nat → Int32) × Int32 × Int32 × Int32, (s'.2.2.2.2.2.2.2.2.2.2 = nI (c + 1) ∧ (part = 0 → s'.2.2.2.2.2.2.2.2.1 = nI (sm (fun c => sm (fun o => if vR k c o = true then hit B W g (plN 0 W scr 16) ports a k c o else 0) (W * B)) (c + 1))) ∧ s'.2.2.2.2.2.2.2.2.2.1 = nI (sm (fun c => sm (fun o => if vR k c o = true then 1 else 0) (W * B)) (c + 1)) ∧ s'.1 = f1 ∧ s'.2.2.2.2.2.2.2.1 = a1) ∧ r = rec s') ?_ ?_ 100000 0 _ (by omega) (by omega) ⟨rfl, h2, rfl, rfl, rfl⟩
    · rintro o ⟨f2, s2, v2, o2, p2, c2, e2, a2, x4, x5, x6⟩ rec2 ho ⟨h1, h2, h3, h4, h5⟩
      dsimp only at h1 h2 h3 h4 h5
      subst h1 h3 h4 h5
      left
      have hno : ¬ W * B ≤ o := by omega
      generalize sm (fun c => sm (fun o => if vR k c o = true then hit B W g (plN 0 W scr 16) ports a k c o else 0) (W * B)) c = s0 at h2 ⊢
      generalize sm (fun c => sm (fun o => if vR k c o = true then 1 else 0) (W * B)) c = u0
      have hsum : sm (fun o => if vR k c o = true then hit B W g (plN 0 W scr 16) ports a k c o else 0) (o + 1) = sm (fun o => if vR k c o = true then hit B W g (plN 0 W scr 16) ports a k c o else 0) o + (if vR k c o = true then hit B W g (plN 0 W scr 16) ports a k c o else 0) := rfl
      have hu : sm (fun o => if vR k c o = true then 1 else 0) (o + 1) = sm (fun o => if vR k c o = true then 1 else 0) o + (if vR k c o = true then 1 else 0) := rfl
      rw [hsum, hu]
      generalize sm (fun o => if vR k c o = true then hit B W g (plN 0 W scr 16) ports a k c o else 0) o = s1 at h2 ⊢
      generalize sm (fun o => if vR k c o = true then 1 else 0) o = u1
      have key : g_RF_covered_93 4 4 4 16 16 64 16 16 128 4 1200 (nI W) (nI B) 1 (nI g) (nI ports) me 0 (upd mk 0 (nI k)) mscr ms mc mo (nI k) (nI part) (nI (W * B)) (nI c) rec rec2 (f2, s2, v2, o2, p2, c2, e2, a2, x4, nI (u0 + u1), nI o) = f_RF_covered_130 4 4 4 16 16 64 16 16 128 4 1200 (nI W) (nI B) 1 (nI g) (nI ports) me f2 0 s2 (upd mk 0 (nI k)) v2 o2 mscr p2 c2 ms mc mo e2 a2 (b2 (vR k c o)) (nI k) (nI part) x4 (nI (u0 + u1)) (nI c) (nI o) rec2 := by
        unfold g_RF_covered_93 vR
        by_cases h10 : 10 ≤ k
        · rw [if_pos h10]
          by_cases hoc : o = c
          · rw [decide_eq_false (p := o ≠ c) (fun q => q hoc)]
            have hoc := eq_true hoc
            simp +decide (disch := first | omega | decide) only [↓reduceIte, Option.bind_some, nI_clamp, inB_nI, inB_z, cl_z, nI_eqL, nI_leL, nI_ltL, nI_geL, nI_gtL, nI_leI, nI_ltI, nI_eq, nI_1, nI_addL, nI_add, hno, h10, hoc]
            rfl
          · rw [decide_eq_true (p := o ≠ c) hoc]
            simp +decide (disch := first | omega | decide) only [↓reduceIte, Option.bind_some, nI_clamp, inB_nI, inB_z, cl_z, nI_eqL, nI_leL, nI_ltL, nI_geL, nI_gtL, nI_leI, nI_ltI, nI_eq, nI_1, nI_addL, nI_add, hno, h10, hoc]
            rfl
        · rw [if_neg h10]
          by_cases hoc : o = 0
          · rw [decide_eq_true hoc]
            have hoc := eq_true hoc
            simp +decide (disch := first | omega | decide) only [↓reduceIte, Option.bind_some, nI_clamp, inB_nI, inB_z, cl_z, nI_eqL, nI_leL, nI_ltL, nI_geL, nI_gtL, nI_leI, nI_ltI, nI_eq, nI_1, nI_addL, nI_add, hno, h10, hoc]
            rfl
          · rw [decide_eq_false hoc]
            simp +decide (disch := first | omega | decide) only [↓reduceIte, Option.bind_some, nI_clamp, inB_nI, inB_z, cl_z, nI_eqL, nI_leL, nI_ltL, nI_geL, nI_gtL, nI_leI, nI_ltI, nI_eq, nI_1, nI_addL, nI_add, hno, h10, hoc]
            rfl
      rw [key]
      unfold f_RF_covered_130
      by_cases hvt : vR k c o = true
      · rw [hvt, if_pos (show true = true from rfl), if_pos (show true = true from rfl), if_neg nzt]
        have hd : 10 ≤ k → c ≠ o := by
          intro h
          unfold vR at hvt
          rw [if_pos h] at hvt
          exact fun q => (of_decide_eq_true hvt) q.symm
        have hF : FLok W B (FZ.add B k c o) := add_ok hB0 FZ_ok (by decide) hk hc (fun h => ⟨ho, hd h⟩)
        have step : ∀ y : Int32, y = (if 10 ≤ k then nI o else -1) → ∃ s' : Int32 × Int32 × (Nat → Int32) × (Nat → Int32) × (Nat → Int32) × (Nat → Int32) × (Nat → Int32) × (Nat → Int32) × Int32 × Int32 × Int32, (s'.2.2.2.2.2.2.2.2.2.2 = nI (o + 1) ∧ (part = 0 → s'.2.2.2.2.2.2.2.2.1 = nI (s0 + (s1 + hit B W g (plN 0 W scr 16) ports a k c o))) ∧ s'.2.2.2.2.2.2.2.2.2.1 = nI (u0 + (u1 + 1)) ∧ s'.1 = f2 ∧ s'.2.2.2.2.2.2.2.1 = a2) ∧ f_RF_covered_162 4 4 4 16 16 64 16 16 128 4 1200 (nI W) (nI B) 1 (nI g) (nI ports) me f2 0 s2 (upd mk 0 (nI k)) (upd v2 0 (nI c)) o2 mscr p2 c2 ms mc mo e2 a2 0 y (nI part) x4 (nI (u0 + u1)) (nI o) rec2 = rec2 s' := by
          intro y hy
          unfold f_RF_covered_162
          have hM : FM B (FZ.add B k c o) 1 (upd mk 0 (nI k)) (upd v2 0 (nI c)) (upd o2 0 y) := add_FM hy FZ_M
          by_cases hp0 : part = 0
          · subst hp0
            obtain ⟨c3, s3, places', cells', sense', arr', g1, g2, g3⟩ := r_go (keep := false) (c0 := f2) (f0 := a2) (o := 0) (places := p2) (cells := c2) (sense := e2) (by decide) hs hW0 hW hB hg hpt hF hM ha hA ⟨rfl, rfl⟩
            have g1' := g1
            rw [show b2 false = 0 from rfl, show nI 0 = 0 from rfl] at g1'
            have ex4 := h2 rfl
            subst ex4
            rw [show Int32.toNatClampNeg 0 = 0 from rfl, if_pos (show inB 0 4 = true by decide), if_pos (show nI 0 = 0 from rfl), g1', Option.bind_some]
            unfold hit
            rw [g3]
            cases hr : (runA (FZ.add B k c o, B, W, g, plN 0 W scr 16, ports) a (st0 (FZ.add B k c o)) a.1).2.isEmpty
            · refine ⟨(c3, 1, upd v2 0 (nI c), upd o2 0 y, places', cells', sense', arr', nI (s0 + (s1 + 1)), nI (u0 + (u1 + 1)), nI (o + 1)), ⟨rfl, fun _ => rfl, rfl, g2.1, g2.2⟩, ?_⟩
              dsimp only
              rw [if_neg (by decide), nI_1, nI_1, nI_1]
              rfl
            · refine ⟨(c3, 0, upd v2 0 (nI c), upd o2 0 y, places', cells', sense', arr', nI (s0 + (s1 + 0)), nI (u0 + (u1 + 1)), nI (o + 1)), ⟨rfl, fun _ => rfl, rfl, g2.1, g2.2⟩, ?_⟩
              dsimp only
              rw [if_pos (by decide), nI_1, nI_1]
              rfl
          · have hp1 : ¬ nI part = 0 := nI_ne0 (by omega) (by omega)
            refine ⟨(f2, s2, upd v2 0 (nI c), upd o2 0 y, p2, c2, e2, a2, x4, nI (u0 + (u1 + 1)), nI (o + 1)), ⟨rfl, fun q => absurd q hp0, rfl, rfl, rfl⟩, ?_⟩
            rw [show Int32.toNatClampNeg 0 = 0 from rfl, if_pos (show inB 0 4 = true by decide), if_neg hp1, nI_1, nI_1]
            rfl
        rw [if_pos (show inB 0 4 = true by decide)]
        by_cases h10 : 10 ≤ k
        · rw [if_pos ((nI_geL (by omega) (by decide)).mpr h10)]
          exact step (nI o) (by rw [if_pos h10])
        · rw [if_neg (fun q => h10 ((nI_geL (by omega) (by decide)).mp q))]
          exact step (-1) (by rw [if_neg h10])
      · have hvf : vR k c o = false := by simpa using hvt
        rw [hvf, if_neg (show ¬ (false = true) by decide), if_neg (show ¬ (false = true) by decide), if_pos (show b2 false = 0 from rfl)]
        refine ⟨(f2, s2, v2, o2, p2, c2, e2, a2, x4, nI (u0 + (u1 + 0)), nI (o + 1)), ⟨rfl, h2, rfl, rfl, rfl⟩, ?_⟩
        rw [nI_1]
        rfl
    · rintro ⟨f2, s2, v2, o2, p2, c2, e2, a2, x4, x5, x6⟩ rec2 ⟨h1, h2, h3, h4, h5⟩
      dsimp only at h1 h2 h3 h4 h5
      subst h1 h3 h4 h5
      unfold g_RF_covered_93
      simp +decide (disch := first | omega | decide) only [↓reduceIte, Option.bind_some, nI_clamp, inB_nI, inB_z, cl_z, nI_eqL, nI_leL, nI_ltL, nI_geL, nI_gtL, nI_leI, nI_ltI, nI_eq, nI_1, nI_addL, nI_add, Nat.le_refl]
      exact ⟨_, ⟨rfl, h2, rfl, rfl, rfl⟩, rfl⟩
  · rintro ⟨f2, s2, v2, o2, p2, c2, e2, a2, x4, x5, x6⟩ rec2 ⟨h1, h2, h3, h4, h5⟩
    dsimp only at h1 h2 h3 h4 h5
    subst h1 h3 h4 h5
    unfold g_RF_covered_84
    rw [if_pos (show nI (W * B) ≤ nI (W * B) from (nI_leI (by omega) (by omega)).mpr (Nat.le_refl _))]
    by_cases hp0 : part = 0
    · rw [if_pos (show nI part = 0 by rw [hp0]; rfl)]
      refine ⟨_, rfl, ?_, rfl, rfl, rfl⟩
      rw [if_pos hp0, h2 hp0]
    · rw [if_neg (nI_ne0 (by omega) (by omega))]
      refine ⟨_, rfl, ?_, rfl, rfl, rfl⟩
      rw [if_neg hp0]
theorem kind3 (x : Int32) : (x < 0 ∧ f_MT_isKind x = some 0) ∨ (¬ x < 0 ∧ 13 < x ∧ f_MT_isKind x = some 0) ∨ ∃ k, k ≤ 13 ∧ x = nI k ∧ ¬ nI k < 0 ∧ ¬ 13 < nI k ∧ f_MT_isKind x = some 1 := by
  unfold f_MT_isKind
  by_cases h0 : x < 0
  · left; exact ⟨h0, by rw [if_pos h0]⟩
  · by_cases h1 : 13 < x
    · right; left; exact ⟨h0, h1, by rw [if_neg h0, if_pos h1]⟩
    · right; right
      obtain ⟨k, hk, rfl⟩ := nI_of h0
      refine ⟨k, ?_, rfl, h0, h1, by rw [if_neg h0, if_neg h1]⟩
      have : ¬ 13 < k := fun q => h1 ((nI_gtL hk (by decide)).mpr q)
      omega
set_option maxHeartbeats 4000000 in
theorem L_covered {W B g ports : Nat} (hW0 : 0 < W) (hW : W ≤ 16) (hB0 : 0 < B) (hB : B ≤ 4) (hg : g ≤ 3) (hpt : ports ≤ 2)
    {xe xr : Int32} {xf xrows : Nat → Int32} {me : Int32} {ms mc mo : Nat → Int32} (h2 : marchI xe xr xf xrows me ms mc mo) {xscr mscr : Nat → Int32} (h3 : scrI W xscr mscr)
    {sc st lt xfc mfa mfc mke mso : Int32} {sk svW svM soW soM zeroOf wordAt held xfp mk mv mot mpl mce mse mff : Nat → Int32} {out : Nat → Int64} (x y : Int32) :
    ∃ q1 q2, f_LW_covered W W W 4 4 4 4 4 W 17 128 1200 1 (nI (W * B)) (nI ports) (nI g) (nI W) (nI (2 ^ B - 1)) sc st (nI B) (nI W) (nI B) lt xe xfc zeroOf xscr wordAt sk svW svM soW soM held xf xrows xfp out x y = some q1
      ∧ f_RF_covered 4 4 4 16 16 64 16 16 128 4 1200 (nI W) (nI B) mfa (nI g) (nI ports) me mfc mke mso mk mv mot mscr mpl mce ms mc mo mse mff x y = some q2
      ∧ q2.2.1 = q1.1 ∧ (q1.1 = 0 → q1.2.2.2.2.2.2.2.2.2.2.2.2.2.2 0 = q2.1) ∧ (q1.2.2.2.2.1 = xfc ∧ q1.2.2.2.2.2.2.2.2.2.2.2.2.2.1 = xfp ∧ q2.2.2.2.1 = mfc ∧ q2.2.2.2.2.2.2.2.2.2.2.2.2 = mff) := by
  have c64 : W * B ≤ 64 := Nat.mul_le_mul hW hB
  have c0 : 0 < W * B := Nat.mul_pos hW0 hB0
  obtain ⟨a, ha, hAX, hAM⟩ := h2
  obtain ⟨scr, hs1, hs2⟩ := h3
  have h16 := ha.1
  have exe := hAX.1
  have eme := hAM.1
  subst exe eme
  by_cases h0 : a.1 = 0
  · have e1 : f_LW_covered W W W 4 4 4 4 4 W 17 128 1200 1 (nI (W * B)) (nI ports) (nI g) (nI W) (nI (2 ^ B - 1)) sc st (nI B) (nI W) (nI B) lt (nI a.1) xfc zeroOf xscr wordAt sk svW svM soW soM held xf xrows xfp out x y = some (1, sc, st, lt, xfc, zeroOf, wordAt, sk, svW, svM, soW, soM, held, xfp, out) := by
      rw [h0]; rfl
    have e2 : f_RF_covered 4 4 4 16 16 64 16 16 128 4 1200 (nI W) (nI B) mfa (nI g) (nI ports) (nI a.1) mfc mke mso mk mv mot mscr mpl mce ms mc mo mse mff x y = some (0, 1, mfa, mfc, mke, mso, mk, mv, mot, mpl, mce, mse, mff) := by
      rw [h0]; rfl
    exact ⟨_, _, e1, e2, rfl, fun q => absurd q nz1, rfl, rfl, rfl, rfl⟩
  · have n1 : ¬ nI a.1 ≤ 0 := nI_nle (by omega) (by omega)
    have n2 : ¬ nI a.1 = 0 := nI_ne0 (by omega) (by omega)
    have bad : f_LW_covered W W W 4 4 4 4 4 W 17 128 1200 1 (nI (W * B)) (nI ports) (nI g) (nI W) (nI (2 ^ B - 1)) sc st (nI B) (nI W) (nI B) lt (nI a.1) xfc zeroOf xscr wordAt sk svW svM soW soM held xf xrows xfp out x y = some (2, sc, st, lt, xfc, zeroOf, wordAt, sk, svW, svM, soW, soM, held, xfp, out) → f_RF_covered 4 4 4 16 16 64 16 16 128 4 1200 (nI W) (nI B) mfa (nI g) (nI ports) (nI a.1) mfc mke mso mk mv mot mscr mpl mce ms mc mo mse mff x y = some (0, 2, mfa, mfc, mke, mso, mk, mv, mot, mpl, mce, mse, mff) → _ := fun e1 e2 => (⟨_, _, e1, e2, rfl, fun q => absurd q nz2, rfl, rfl, rfl, rfl⟩ : ∃ q1 q2, f_LW_covered W W W 4 4 4 4 4 W 17 128 1200 1 (nI (W * B)) (nI ports) (nI g) (nI W) (nI (2 ^ B - 1)) sc st (nI B) (nI W) (nI B) lt (nI a.1) xfc zeroOf xscr wordAt sk svW svM soW soM held xf xrows xfp out x y = some q1
      ∧ f_RF_covered 4 4 4 16 16 64 16 16 128 4 1200 (nI W) (nI B) mfa (nI g) (nI ports) (nI a.1) mfc mke mso mk mv mot mscr mpl mce ms mc mo mse mff x y = some q2
      ∧ q2.2.1 = q1.1 ∧ (q1.1 = 0 → q1.2.2.2.2.2.2.2.2.2.2.2.2.2.2 0 = q2.1) ∧ (q1.2.2.2.2.1 = xfc ∧ q1.2.2.2.2.2.2.2.2.2.2.2.2.2.1 = xfp ∧ q2.2.2.2.1 = mfc ∧ q2.2.2.2.2.2.2.2.2.2.2.2.2 = mff))
    unfold f_LW_covered f_MT_covered f_MT_hasMarch f_RF_covered f_RF_covered_31 at bad ⊢
    rw [if_neg n1, if_neg n2, Option.bind_some, if_neg nz1] at bad ⊢
    rcases kind3 x with ⟨k0, k2⟩ | ⟨k0, k1, k2⟩ | ⟨k, hk, rfl, k0, k1, k2⟩
    · refine bad ?_ ?_
      · rw [k2]; rfl
      · rw [if_pos k0]; rfl
    · refine bad ?_ ?_
      · rw [k2]; rfl
      · rw [if_neg k0, if_pos k1]; rfl
    · rw [k2, Option.bind_some, if_neg nz1, if_neg k0, if_neg k1] at bad ⊢
      by_cases y0 : y < 0
      · have y1 : ¬ y = 0 := by intro q; subst q; exact absurd y0 (by decide)
        have y2 : ¬ y = 1 := by intro q; subst q; exact absurd y0 (by decide)
        refine bad ?_ ?_
        · rw [if_neg y1, if_neg y2]; rfl
        · rw [if_pos y0]; rfl
      · obtain ⟨part, hpart, rfl⟩ := nI_of y0
        by_cases hp2 : part < 2
        · have ey : ∀ {α : Type} (t u : α), (if nI part = 0 then t else if nI part = 1 then t else u) = t := by
            intro α t u
            have : part = 0 ∨ part = 1 := by omega
            rcases this with rfl | rfl <;> rfl
          have ey2 : nI part ≤ 1 := (nI_leL (by omega) (by decide)).mpr (by show part ≤ 1; omega)
          clear bad
          rw [ey, if_neg y0, if_pos ey2]
          unfold f_MT_covered_53 f_RF_covered_36
          rw [m_pair hk, Option.bind_some, if_pos (show (0 : Int32) ≤ 0 by decide), if_pos (show inB 0 4 = true by decide), show nI W * nI B = nI (W * B) from pk_mul W B, show Int32.toNatClampNeg 0 = 0 from rfl]
          obtain ⟨q, r1, r2, r3, r4, r5⟩ := r_cov (fc := mfc) (so := mso) (mk := mk) (mv := mv) (mot := mot) (mpl := mpl) (mce := mce) (mse := mse) (mff := mff) hW0 hW hB0 hB hg hpt hk hp2 hs2 ha hAM
          rw [r1]
          by_cases hp0 : part = 0
          · obtain ⟨z', w', p1, p2, p3⟩ := m_prepare (o := 0) (wordAt := wordAt) (zeroOf := zeroOf) (by decide) hW0 hW hB hg hs1
            obtain ⟨c, s1, s2, s3, s4⟩ := m_cov (g := g) (sc := sc) (st := st) (lt := lt) (xfc := xfc) (sk := sk) (svW := svW) (svM := svM) (soW := soW) (soM := soM) (held := held) (xfp := xfp) hW0 hW hB0 hB hpt hk p2 p3 ha hAX
            have p1' := p1
            rw [show nI 0 = 0 from rfl] at p1'
            rw [if_neg (show ¬ nI part = 1 by rw [hp0]; decide), p1', Option.bind_some, s1]
            refine ⟨(0, c.2.2.2.1, c.2.2.2.2.1, c.2.2.2.2.2.2.2.2.2.2.1, c.2.2.2.2.2.2.2.2.2.2.2.1, c.2.1, c.2.2.1, c.2.2.2.2.2.1, c.2.2.2.2.2.2.1, c.2.2.2.2.2.2.2.1, c.2.2.2.2.2.2.2.2.1, c.2.2.2.2.2.2.2.2.2.1, c.2.2.2.2.2.2.2.2.2.2.2.2.1, c.2.2.2.2.2.2.2.2.2.2.2.2.2, vp_updL out 0 c.1), q, rfl, rfl, r3, fun _ => (pk_uLs : vp_updL out 0 _ 0 = _).trans ?_, s3, s4, r4, r5⟩
            have hh : ¬ 10 ≤ k → ∀ c o o', hit B W g (plN 0 W scr 16) ports a k c o = hit B W g (plN 0 W scr 16) ports a k c o' := by
              intro hk10 c o o'
              unfold hit FL.add
              rw [if_neg hk10, if_neg hk10, if_neg hk10, if_neg hk10]
            have h1 : ∀ c o, (if vR k c o = true then hit B W g (plN 0 W scr 16) ports a k c o else 0) ≤ 1 := by
              intro c o
              split
              · unfold hit; split <;> decide
              · decide
            have hlt : sm (fun c => sm (fun o => if vR k c o = true then hit B W g (plN 0 W scr 16) ports a k c o else 0) (W * B)) (W * B) < 2 ^ 31 := by
              have h2 := sm_le (f := fun c => sm (fun o => if vR k c o = true then hit B W g (plN 0 W scr 16) ports a k c o else 0) (W * B)) (v := 64) (fun c => Nat.le_trans (sm_le (h1 c) (W * B)) (by rw [Nat.mul_one]; exact c64)) (W * B)
              have h3 : W * B * 64 ≤ 64 * 64 := Nat.mul_le_mul_right 64 c64
              omega
            rw [r2, if_pos hp0, nI_l hlt]
            exact s2.trans (congrArg lN (sum_eq hh))
          · have hp1 : part = 1 := by omega
            rw [if_pos (show nI part = 1 by rw [hp1]; rfl)]
            rw [if_neg hp0, sum_tot c0] at r2
            have en : nI (W * B) * (nI (W * B) - 1) = nI (W * B * (W * B - 1)) := by rw [show nI (W * B) - 1 = nI (W * B - 1) from pk_sub (b := 1) (by omega), pk_mul]
            by_cases h10 : 10 ≤ k
            · rw [if_pos h10] at r2
              rw [decide_eq_true h10, if_neg nzt, en, Option.bind_some]
              exact ⟨_, q, rfl, rfl, r3, fun _ => (pk_uLs : vp_updL out 0 _ 0 = _).trans r2.symm, rfl, rfl, r4, r5⟩
            · rw [if_neg h10] at r2
              rw [decide_eq_false h10, if_pos (show b2 false = 0 from rfl), Option.bind_some]
              exact ⟨_, q, rfl, rfl, r3, fun _ => (pk_uLs : vp_updL out 0 _ 0 = _).trans r2.symm, rfl, rfl, r4, r5⟩
        · have y1 : ¬ nI part = 0 := nI_ne0 (by omega) hpart
          have y2 : ¬ nI part = 1 := fun q => by have : part = 1 := (nI_eqL hpart (by decide)).mp q; omega
          have y3 : ¬ nI part ≤ 1 := fun q => by have : part ≤ 1 := (nI_leL hpart (by decide)).mp q; omega
          refine bad ?_ ?_
          · rw [if_neg y1, if_neg y2]; rfl
          · rw [if_neg y0, if_neg y3]; rfl
