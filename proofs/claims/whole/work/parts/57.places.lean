def rev4 (k : Nat) : Nat := (k % 2) * 8 + (k / 2 % 2) * 4 + (k / 4 % 2) * 2 + (k / 8 % 2)
def wordOfN (o W k : Nat) : Option Nat := if o = 0 then (if k < W then some k else none) else if o = 1 then (if rev4 k < W then some (rev4 k) else none) else (if k < W then some (W - 1 - k) else none)
def cntN (o W : Nat) : Nat → Nat
  | 0 => 0
  | k + 1 => if (wordOfN o W k).isSome then cntN o W k + 1 else cntN o W k
def plN (o W : Nat) (scr : Nat → Nat) : Nat → Nat → Nat
  | 0 => fun _ => 0
  | k + 1 => match wordOfN o W k with
    | some x => fun p => if p = cntN o W k then scr x else plN o W scr k p
    | none => plN o W scr k
theorem cnt_lt : ∀ o, o < 3 → ∀ W, W < 17 → ∀ k, k < 16 → (wordOfN o W k).isSome = true → cntN o W k < W := by decide +kernel
theorem cnt_all : ∀ o, o < 3 → ∀ W, W < 17 → cntN o W 16 = W := by decide +kernel
theorem cnt_le (o W : Nat) : ∀ k, cntN o W k ≤ k
  | 0 => Nat.le_refl _
  | k + 1 => by
    have := cnt_le o W k
    unfold cntN
    split <;> omega
theorem wordOfN_lt {o W k x : Nat} (h : wordOfN o W k = some x) : x < W := by
  unfold wordOfN at h
  split at h
  · split at h
    · cases h; assumption
    · cases h
  · split at h
    · split at h
      · cases h; assumption
      · cases h
    · split at h
      · cases h; omega
      · cases h
theorem pl_lt {o W : Nat} {scr : Nat → Nat} (hs : ∀ x, x < W → scr x < W) : ∀ k p, p < cntN o W k → plN o W scr k p < W
  | 0, p, h => by simp [cntN] at h
  | k + 1, p, h => by
    unfold cntN at h
    unfold plN
    cases hw : wordOfN o W k with
    | none =>
      simp only [hw, Option.isSome_none, Bool.false_eq_true, if_false] at h
      exact pl_lt hs k p h
    | some x =>
      simp only [hw, Option.isSome_some, if_true] at h
      dsimp only
      by_cases e : p = cntN o W k
      · rw [if_pos e]; exact hs x (wordOfN_lt hw)
      · rw [if_neg e]; exact pl_lt hs k p (by omega)
theorem cnt_none {o W k : Nat} (h : wordOfN o W k = none) : cntN o W (k + 1) = cntN o W k := by
  show (if (wordOfN o W k).isSome then _ else _) = _
  rw [h]; rfl
theorem cnt_some {o W k x : Nat} (h : wordOfN o W k = some x) : cntN o W (k + 1) = cntN o W k + 1 := by
  show (if (wordOfN o W k).isSome then _ else _) = _
  rw [h]; rfl
theorem pl_none {o W k : Nat} {scr : Nat → Nat} (h : wordOfN o W k = none) : plN o W scr (k + 1) = plN o W scr k := by
  show (match wordOfN o W k with | some x => fun p => if p = cntN o W k then scr x else plN o W scr k p | none => plN o W scr k) = _
  rw [h]
theorem pl_some {o W k x : Nat} {scr : Nat → Nat} (h : wordOfN o W k = some x) : plN o W scr (k + 1) = fun p => if p = cntN o W k then scr x else plN o W scr k p := by
  show (match wordOfN o W k with | some x => fun p => if p = cntN o W k then scr x else plN o W scr k p | none => plN o W scr k) = _
  rw [h]
theorem rev_eq : ∀ k, k < 16 → (((((nI k &&& 1) <<< ((3 : Int32) &&& 31)) ||| ((nI k &&& 2) <<< ((1 : Int32) &&& 31))) ||| ((nI k &&& 4) >>> ((1 : Int32) &&& 31))) ||| ((nI k &&& 8) >>> ((3 : Int32) &&& 31))) = nI (rev4 k) := by decide +kernel
theorem rev_lt : ∀ k, k < 16 → rev4 k < 16 := by decide +kernel
def SC (W : Nat) (scr : Nat → Nat) (scrambled : Nat → Int32) : Prop := ∀ x, x < W → scr x < W ∧ scrambled x = nI (scr x)
theorem word_case {o W k : Nat} (ho : o < 3) (hW0 : 0 < W) (hW : W ≤ 16) (hk : k < 16) : ∃ s0 : Int32, (if (nI o = 0) then nI k else if nI o = 1 then nI (rev4 k) else (nI W - 1) - nI k) = s0 ∧ ((wordOfN o W k = none ∧ (s0 < 0 ∨ (¬ s0 < 0 ∧ nI W ≤ s0))) ∨ ∃ x, wordOfN o W k = some x ∧ s0 = nI x) := by
  refine ⟨_, rfl, ?_⟩
  unfold wordOfN
  rcases (show o = 0 ∨ o = 1 ∨ o = 2 by omega) with rfl | rfl | rfl
  · simp +decide only [↓reduceIte]
    by_cases h : k < W
    · rw [if_pos h]; exact Or.inr ⟨k, rfl, rfl⟩
    · rw [if_neg h]; exact Or.inl ⟨rfl, Or.inr ⟨nI_pos (by omega), nI_le (by omega) (by omega)⟩⟩
  · have hr := rev_lt k hk
    simp +decide only [↓reduceIte]
    by_cases h : rev4 k < W
    · rw [if_pos h]; exact Or.inr ⟨_, rfl, rfl⟩
    · rw [if_neg h]; exact Or.inl ⟨rfl, Or.inr ⟨nI_pos (by omega), nI_le (by omega) (by omega)⟩⟩
  · simp +decide only [↓reduceIte]
    rw [show (1 : Int32) = nI 1 from rfl, pk_sub (by omega)]
    by_cases h : k < W
    · rw [if_pos h]; exact Or.inr ⟨_, rfl, pk_sub (by omega)⟩
    · rw [if_neg h]; exact Or.inl ⟨rfl, Or.inl (pk_sneg (by omega) (by omega))⟩
set_option maxHeartbeats 4000000 in
theorem r_places {o W : Nat} {scr : Nat → Nat} {scrambled places : Nat → Int32} (ho : o < 3) (hW0 : 0 < W) (hW : W ≤ 16) (hs : SC W scr scrambled) : ∃ places', f_RF_findPlaces 16 16 (nI W) scrambled places (nI o) = some places' ∧ ∀ p, p < W → plN o W scr 16 p < W ∧ places' p = nI (plN o W scr 16 p) := by
  unfold f_RF_findPlaces
  refine lp_Q (I := fun k (s : (Nat → Int32) × Int32 × Int32) => s.2.2 = nI k ∧ s.2.1 = nI (cntN o W k) ∧ ∀ p, p < cntN o W k → s.1 p = nI (plN o W scr k p)) 16 (fun (r : Option (Nat → Int32)) => ∃ places', r = some places' ∧ ∀ p, p < W → plN o W scr 16 p < W ∧ places' p = nI (plN o W scr 16 p)) ?_ ?_ 100000 0 _ (by omega) (by omega) ⟨rfl, rfl, fun p h => by simp [cntN] at h⟩
  · rintro k ⟨pl, n, x⟩ rec hk ⟨hx, hn, hp⟩
    dsimp only at hx hn hp
    subst hx hn
    obtain ⟨s0, e0, hc⟩ := word_case (k := k) ho hW0 hW hk
    have hcl := cnt_le o W k
    left
    have key : g_RF_findPlaces_4 16 16 (nI W) scrambled (nI o) rec (pl, nI (cntN o W k), nI k) = f_RF_findPlaces_62 16 16 (nI W) scrambled pl s0 (nI (cntN o W k)) (nI k) rec := by
      unfold g_RF_findPlaces_4
      dsimp only
      rw [rev_eq k hk, if_neg (by rw [show (16 : Int32) = nI 16 from rfl, nI_leI (by omega) (by omega)]; omega), ← e0]
      split
      · rfl
      · split <;> rfl
    rw [key]
    unfold f_RF_findPlaces_62
    rcases hc with ⟨hw, hneg | ⟨h1, h2⟩⟩ | ⟨x, hw, rfl⟩
    · refine ⟨(pl, nI (cntN o W k), nI (k + 1)), ⟨rfl, ?_, ?_⟩, ?_⟩
      · rw [cnt_none hw]
      · rw [cnt_none hw, pl_none hw]; exact hp
      · rw [if_pos hneg, nI_1]
    · refine ⟨(pl, nI (cntN o W k), nI (k + 1)), ⟨rfl, ?_, ?_⟩, ?_⟩
      · rw [cnt_none hw]
      · rw [cnt_none hw, pl_none hw]; exact hp
      · rw [if_neg h1, if_pos h2, nI_1]
    · have hxW := wordOfN_lt hw
      have hcw := cnt_lt o ho W (by omega) k hk (by rw [hw]; rfl)
      refine ⟨(upd pl (cntN o W k) (nI (scr x)), nI (cntN o W k + 1), nI (k + 1)), ⟨rfl, ?_, ?_⟩, ?_⟩
      · rw [cnt_some hw]
      · rw [cnt_some hw, pl_some hw]
        intro p hpp
        dsimp only
        by_cases e : p = cntN o W k
        · rw [if_pos e, e, upd_s]
        · rw [if_neg e, upd_n e]; exact hp p (by omega)
      · simp +decide (disch := first | omega | decide) only [↓reduceIte, Option.bind_some, nI_clamp, inB_nI, inB_z, cl_z, nI_eqL, nI_leL, nI_ltL, nI_geL, nI_gtL, nI_leI, nI_ltI, nI_eq, nI_1, nI_addL, nI_add, (hs x hxW).2, Nat.not_le.mpr hxW, Nat.not_lt_zero]
  · rintro ⟨pl, n, x⟩ rec ⟨hx, hn, hp⟩
    dsimp only at hx hn hp
    subst hx hn
    rw [cnt_all o ho W (by omega)] at hp
    refine ⟨pl, ?_, fun p hpp => ⟨pl_lt (fun x hx => (hs x hx).1) 16 p (by rw [cnt_all o ho W (by omega)]; exact hpp), hp p hpp⟩⟩
    unfold g_RF_findPlaces_4
    simp +decide (disch := first | omega | decide) only [↓reduceIte, Option.bind_some, nI_clamp, inB_nI, inB_z, cl_z, nI_eqL, nI_leL, nI_ltL, nI_geL, nI_gtL, nI_leI, nI_ltI, nI_eq, nI_1, nI_addL, nI_add]
theorem zero_all : ∀ g, g < 4 → ∀ w, w < 16 → ∀ B, B < 5 → (f_Tester_zeroIn (nI g) (nI w)).map (· &&& nI (2 ^ B - 1)) = some (nI (wrN (gr g w) (fun _ => false) B)) := by decide +kernel
set_option maxHeartbeats 4000000 in
theorem m_prepare {o W B g : Nat} {scr : Nat → Nat} {scrambled wordAt zeroOf : Nat → Int32} (ho : o < 3) (hW0 : 0 < W) (hW : W ≤ 16) (hB : B ≤ 4) (hg : g ≤ 3) (hs : SC W scr scrambled) : ∃ zero' word', f_Tester_prepare W W W (nI g) (nI W) (nI (2 ^ B - 1)) zeroOf scrambled wordAt (nI o) = some (zero', word') ∧ (∀ p, p < W → plN o W scr 16 p < W ∧ word' p = nI (plN o W scr 16 p)) ∧ ∀ w, w < W → zero' w = nI (wrN (gr g w) (fun _ => false) B) := by
  unfold f_Tester_prepare
  refine lp_Q (I := fun k (s : (Nat → Int32) × (Nat → Int32) × Int32 × Int32) => s.2.2.2 = nI k ∧ s.2.2.1 = nI (cntN o W k) ∧ ∀ p, p < cntN o W k → s.2.1 p = nI (plN o W scr k p)) 16 (fun (r : Option ((Nat → Int32) × (Nat → Int32))) => ∃ zero' word', r = some (zero', word') ∧ (∀ p, p < W → plN o W scr 16 p < W ∧ word' p = nI (plN o W scr 16 p)) ∧ ∀ w, w < W → zero' w = nI (wrN (gr g w) (fun _ => false) B)) ?_ ?_ 100000 0 _ (by omega) (by omega) ⟨rfl, rfl, fun p h => by simp [cntN] at h⟩
  · rintro k ⟨zo, pl, n, x⟩ rec hk ⟨hx, hn, hp⟩
    dsimp only at hx hn hp
    subst hx hn
    obtain ⟨s0, e0, hc⟩ := word_case (k := k) ho hW0 hW hk
    have hcl := cnt_le o W k
    left
    have key : g_Tester_prepare_4 W W W (nI g) (nI W) (nI (2 ^ B - 1)) scrambled (nI o) rec (zo, pl, nI (cntN o W k), nI k) = f_Tester_prepare_38 W W (nI W) zo scrambled pl s0 (nI (cntN o W k)) (nI k) rec := by
      unfold g_Tester_prepare_4 f_Tester_reversed
      dsimp only
      rw [rev_eq k hk, if_neg (by rw [show (16 : Int32) = nI 16 from rfl, nI_leI (by omega) (by omega)]; omega), ← e0]
      split
      · rfl
      · split <;> rfl
    rw [key]
    unfold f_Tester_prepare_38
    rcases hc with ⟨hw, hneg | ⟨h1, h2⟩⟩ | ⟨x, hw, rfl⟩
    · refine ⟨(zo, pl, nI (cntN o W k), nI (k + 1)), ⟨rfl, ?_, ?_⟩, ?_⟩
      · rw [cnt_none hw]
      · rw [cnt_none hw, pl_none hw]; exact hp
      · rw [if_pos hneg, nI_1]
    · refine ⟨(zo, pl, nI (cntN o W k), nI (k + 1)), ⟨rfl, ?_, ?_⟩, ?_⟩
      · rw [cnt_none hw]
      · rw [cnt_none hw, pl_none hw]; exact hp
      · rw [if_neg h1, if_pos h2, nI_1]
    · have hxW := wordOfN_lt hw
      have hcw := cnt_lt o ho W (by omega) k hk (by rw [hw]; rfl)
      refine ⟨(zo, upd pl (cntN o W k) (nI (scr x)), nI (cntN o W k + 1), nI (k + 1)), ⟨rfl, ?_, ?_⟩, ?_⟩
      · rw [cnt_some hw]
      · rw [cnt_some hw, pl_some hw]
        intro p hpp
        dsimp only
        by_cases e : p = cntN o W k
        · rw [if_pos e, e, upd_s]
        · rw [if_neg e, upd_n e]; exact hp p (by omega)
      · simp +decide (disch := first | omega | decide) only [↓reduceIte, Option.bind_some, nI_clamp, inB_nI, inB_z, cl_z, nI_eqL, nI_leL, nI_ltL, nI_geL, nI_gtL, nI_leI, nI_ltI, nI_eq, nI_1, nI_addL, nI_add, (hs x hxW).2, Nat.not_le.mpr hxW, Nat.not_lt_zero, Nat.not_le.mpr hcw]
  · rintro ⟨zo, pl, n, x⟩ rec ⟨hx, hn, hp⟩
    dsimp only at hx hn hp
    subst hx hn
    rw [cnt_all o ho W (by omega)] at hp
    unfold g_Tester_prepare_4
    simp +decide (disch := first | omega | decide) only [↓reduceIte, Option.bind_some, nI_clamp, inB_nI, inB_z, cl_z, nI_eqL, nI_leL, nI_ltL, nI_geL, nI_gtL, nI_leI, nI_ltI, nI_eq, nI_1, nI_addL, nI_add]
    refine lp_Q (I := fun w (s : (Nat → Int32) × Int32) => s.2 = nI w ∧ ∀ v, v < w → s.1 v = nI (wrN (gr g v) (fun _ => false) B)) W (fun (r : Option ((Nat → Int32) × (Nat → Int32))) => ∃ zero' word', r = some (zero', word') ∧ (∀ p, p < W → plN o W scr 16 p < W ∧ word' p = nI (plN o W scr 16 p)) ∧ ∀ w, w < W → zero' w = nI (wrN (gr g w) (fun _ => false) B)) ?_ ?_ 100000 0 _ (by omega) (by omega) ⟨rfl, fun v h => by omega⟩
    · rintro w ⟨z, y⟩ rec2 hw ⟨hy, hz⟩
      dsimp only at hy hz
      subst hy
      have h1 := zero_all g (by omega) w (by omega) B (by omega)
      left
      cases hq : f_Tester_zeroIn (nI g) (nI w) with
      | none => rw [hq] at h1; cases h1
      | some q =>
        rw [hq] at h1
        have h2 : q &&& nI (2 ^ B - 1) = nI (wrN (gr g w) (fun _ => false) B) := Option.some.inj h1
        refine ⟨(upd z w (nI (wrN (gr g w) (fun _ => false) B)), nI (w + 1)), ⟨rfl, fun v hv => ?_⟩, ?_⟩
        · by_cases e : v = w
          · subst e; exact upd_s
          · show upd z w _ v = _
            rw [upd_n e]; exact hz v (by omega)
        · unfold g_Tester_prepare_86
          rw [hq]
          simp +decide (disch := first | omega | decide) only [↓reduceIte, Option.bind_some, nI_clamp, inB_nI, inB_z, cl_z, nI_eqL, nI_leL, nI_ltL, nI_geL, nI_gtL, nI_leI, nI_ltI, nI_eq, nI_1, nI_addL, nI_add, Nat.not_le.mpr hw, h2]
    · rintro ⟨z, y⟩ rec2 ⟨hy, hz⟩
      dsimp only at hy hz
      subst hy
      refine ⟨z, pl, ?_, fun p hpp => ⟨pl_lt (fun x hx => (hs x hx).1) 16 p (by rw [cnt_all o ho W (by omega)]; exact hpp), hp p hpp⟩, hz⟩
      unfold g_Tester_prepare_86
      simp +decide (disch := first | omega | decide) only [↓reduceIte, Option.bind_some, nI_clamp, inB_nI, inB_z, cl_z, nI_eqL, nI_leL, nI_ltL, nI_geL, nI_gtL, nI_leI, nI_ltI, nI_eq, nI_1, nI_addL, nI_add, Nat.le_refl]
