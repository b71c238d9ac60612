def goodF (W B : Nat) (x : Fail) : Prop := x.1 < 16 ∧ x.2.1 < 8 ∧ x.2.2.1 < W ∧ 0 < x.2.2.2 ∧ x.2.2.2 < 2 ^ B
theorem step_good {W B : Nat} {c : Ctx} {a : MA} {e p k : Nat} {st : RSt} (hc : c.2.1 = B) (he : e < 16) (hk : k < 8) (hp : c.2.2.2.2.1 p < W) (h : ∀ x ∈ st.2, goodF W B x) : ∀ x ∈ (stepA c a e p k st).2, goodF W B x := by
  unfold stepA
  dsimp only
  split
  · exact h
  · rename_i h0
    intro x hx
    rcases List.mem_append.mp hx with hx | hx
    · exact h x hx
    · rw [List.mem_singleton] at hx
      subst hx
      refine ⟨he, hk, hp, Nat.pos_of_ne_zero h0, ?_⟩
      unfold opA
      dsimp only
      split
      · exact Nat.two_pow_pos B
      · rw [hc]; exact wrN_lt _ _ B
theorem ops_good {W B : Nat} {c : Ctx} {a : MA} {e p : Nat} {st : RSt} (hc : c.2.1 = B) (he : e < 16) (hp : c.2.2.2.2.1 p < W) (h : ∀ x ∈ st.2, goodF W B x) : ∀ k, k ≤ 8 → ∀ x ∈ (opsA c a e p st k).2, goodF W B x
  | 0, _ => h
  | k + 1, hk => step_good hc he (by omega) hp (ops_good hc he hp h k (by omega))
theorem el_good {W B : Nat} {c : Ctx} {a : MA} {e : Nat} {st : RSt} (hc : c.2.1 = B) (hcW : c.2.2.1 = W) (he : e < 16) (hct : a.2.2.1 e ≤ 8) (hP : ∀ p, p < W → c.2.2.2.2.1 p < W) (h : ∀ x ∈ st.2, goodF W B x) : ∀ i, i ≤ W → ∀ x ∈ (elA c a e st i).2, goodF W B x
  | 0, _ => h
  | i + 1, hi => ops_good hc he (hP _ (by unfold plA; rw [hcW]; split <;> omega)) (el_good hc hcW he hct hP h i (by omega)) _ hct
theorem run_good {W B : Nat} {c : Ctx} {a : MA} {st : RSt} (hc : c.2.1 = B) (hcW : c.2.2.1 = W) (ha : MAok a) (hP : ∀ p, p < W → c.2.2.2.2.1 p < W) (h : ∀ x ∈ st.2, goodF W B x) : ∀ n, n ≤ a.1 → ∀ x ∈ (runA c a st n).2, goodF W B x
  | 0, _ => h
  | n + 1, hn => by
    have ih := run_good hc hcW ha hP h n (by omega)
    have h16 := ha.1
    unfold runA
    split
    · exact ih
    · rw [hcW]
      exact el_good hc hcW (by omega) (ha.2 n (by omega)).2.2.1 hP ih W (Nat.le_refl _)
def faultI (W B : Nat) (xc xt : Int32) (xk xvW xvM xoW xoM : Nat → Int32) (mt : Int32) (mk mv mo : Nat → Int32) : Prop := ∃ F, FLok W B F ∧ FX F xc xt xk xvW xvM xoW xoM ∧ FM B F mt mk mv mo
def marchI (xe xr : Int32) (xf xrows : Nat → Int32) (me : Int32) (ms mc mo : Nat → Int32) : Prop := ∃ a, MAok a ∧ AX a xe xr xf xrows ∧ AM a me ms mc mo
def scrI (W : Nat) (xs ms : Nat → Int32) : Prop := ∃ scr, SC W scr xs ∧ SC W scr ms
def failI (W B : Nat) (xc : Int32) (xp : Nat → Int32) (mc : Int32) (mf : Nat → Int32) : Prop := ∃ fl, FA xc xp fl ∧ FA mc mf fl ∧ ∀ x ∈ fl, goodF W B x
set_option maxHeartbeats 4000000 in
theorem r_told {B : Nat} {F : FL} {W : Nat} (hF : FLok W B F) {mt : Int32} {mk mv mo kinds victims others : Nat → Int32} (h : FM B F mt mk mv mo) : ∃ k' v' o', f_RF_takeTold 4 4 4 4 4 4 mt mk kinds mv victims mo others = some (mt, k', v', o') ∧ FM B F mt k' v' o' := by
  obtain ⟨rfl, hm⟩ := h
  have hn := hF.1
  unfold f_RF_takeTold
  refine lp_Q (I := fun i (s : (Nat → Int32) × (Nat → Int32) × (Nat → Int32) × Int32) => s.2.2.2 = nI i ∧ ∀ f, f < i → s.1 f = mk f ∧ s.2.1 f = mv f ∧ s.2.2.1 f = mo f) F.n (fun (r : Option (Int32 × (Nat → Int32) × (Nat → Int32) × (Nat → Int32))) => ∃ k' v' o', r = some (nI F.n, k', v', o') ∧ FM B F (nI F.n) k' v' o') ?_ ?_ 100000 0 _ (by omega) (by omega) ⟨rfl, fun f h => by omega⟩
  · rintro i ⟨k, v, o, x⟩ rec hi ⟨hx, hc⟩
    dsimp only at hx hc
    subst hx
    left
    refine ⟨(upd k i (mk i), upd v i (mv i), upd o i (mo i), nI (i + 1)), ⟨rfl, fun f hf => ?_⟩, ?_⟩
    · dsimp only
      by_cases e : f = i
      · subst e; exact ⟨upd_s, upd_s, upd_s⟩
      · rw [upd_n e, upd_n e, upd_n e]; exact hc f (by omega)
    · unfold g_RF_takeTold_10
      simp +decide (disch := first | omega | decide) only [↓reduceIte, Option.bind_some, nI_clamp, inB_nI, inB_z, cl_z, nI_eqL, nI_leL, nI_ltL, nI_geL, nI_gtL, nI_leI, nI_ltI, nI_eq, nI_1, nI_addL, nI_add, Nat.not_le.mpr hi]
  · rintro ⟨k, v, o, x⟩ rec ⟨hx, hc⟩
    dsimp only at hx hc
    subst hx
    refine ⟨k, v, o, ?_, rfl, fun f hf => ?_⟩
    · unfold g_RF_takeTold_10
      simp +decide (disch := first | omega | decide) only [↓reduceIte, Option.bind_some, nI_clamp, inB_nI, inB_z, cl_z, nI_eqL, nI_leL, nI_ltL, nI_geL, nI_gtL, nI_leI, nI_ltI, nI_eq, nI_1, nI_addL, nI_add, Nat.le_refl]
    · obtain ⟨a1, a2, a3⟩ := hc f hf
      rw [a1, a2, a3]; exact hm f hf
theorem nz1 : ¬ (1 : Int32) = 0 := by decide
theorem nz2 : ¬ (2 : Int32) = 0 := by decide
theorem nz3 : ¬ (3 : Int32) = 0 := by decide
theorem int3 (x : Int32) : x < 0 ∨ (∃ o : Nat, o < 3 ∧ x = nI o) ∨ (¬ x < 0 ∧ ¬ x < 3 ∧ ¬ x ≤ 2) := by
  by_cases h : x < 0
  · exact Or.inl h
  · obtain ⟨j, hj, rfl⟩ := nI_of h
    by_cases h2 : j < 3
    · exact Or.inr (Or.inl ⟨j, h2, rfl⟩)
    · refine Or.inr (Or.inr ⟨h, fun q => ?_, fun q => ?_⟩)
      · have : j < 3 := (nI_ltL hj (by decide)).mp q
        exact h2 this
      · have : j ≤ 2 := (nI_leL hj (by decide)).mp q
        omega
set_option maxHeartbeats 4000000 in
theorem L_run {W B g ports : Nat} (hW0 : 0 < W) (hW : W ≤ 16) (hB : B ≤ 4) (hg : g ≤ 3) (hpt : ports ≤ 2) {xc xt : Int32} {xk xvW xvM xoW xoM : Nat → Int32} {mt : Int32} {mtk mtv mto : Nat → Int32} (h1 : faultI W B xc xt xk xvW xvM xoW xoM mt mtk mtv mto)
    {xe xr : Int32} {xf xrows : Nat → Int32} {me : Int32} {ms mc mo : Nat → Int32} (h2 : marchI xe xr xf xrows me ms mc mo) {xscr mscr : Nat → Int32} (h3 : scrI W xscr mscr) {xfc : Int32} {xfp : Nat → Int32} {mfc : Int32} {mff : Nat → Int32} (h4 : failI W B xfc xfp mfc mff)
    {lt mfa mke mso : Int32} {zeroOf wordAt held mk mv mot mpl mce mse : Nat → Int32} {out : Nat → Int64} (x : Int32) :
    ∃ q1 q2, f_LW_run W W W 4 4 4 W 4 4 17 128 1200 1 (nI ports) (nI g) (nI W) (nI (2 ^ B - 1)) xc xt (nI W) (nI B) lt xe xfc zeroOf xscr wordAt xvW xvM xk held xoW xoM xf xrows xfp out x = some q1
      ∧ f_RF_run 4 4 4 4 4 4 16 16 64 16 16 128 4 1200 (nI W) (nI B) mfa mt (nI g) (nI ports) me mfc mke mso mtk mk mtv mv mto mot mscr mpl mce ms mc mo mse mff x = some q2
      ∧ q2.2.1 = q1.1 ∧ (q1.1 = 0 → q1.2.2.2.2.2.2.2.1 0 = Int32.toInt64 q2.1) ∧ failI W B q1.2.2.1 q1.2.2.2.2.2.2.1 q2.2.2.2.1 q2.2.2.2.2.2.2.2.2.2.2.2.2 := by
  obtain ⟨F, hF, hX, hM⟩ := h1
  obtain ⟨a, ha, hAX, hAM⟩ := h2
  obtain ⟨scr, hs1, hs2⟩ := h3
  have h16 := ha.1
  have exe := hAX.1
  have eme := hAM.1
  subst exe eme
  by_cases h0 : a.1 = 0
  · have e1 : f_LW_run W W W 4 4 4 W 4 4 17 128 1200 1 (nI ports) (nI g) (nI W) (nI (2 ^ B - 1)) xc xt (nI W) (nI B) lt (nI a.1) xfc zeroOf xscr wordAt xvW xvM xk held xoW xoM xf xrows xfp out x = some (1, lt, xfc, zeroOf, wordAt, held, xfp, out, 1) := by
      rw [h0]; rfl
    have e2 : f_RF_run 4 4 4 4 4 4 16 16 64 16 16 128 4 1200 (nI W) (nI B) mfa mt (nI g) (nI ports) (nI a.1) mfc mke mso mtk mk mtv mv mto mot mscr mpl mce ms mc mo mse mff x = some (0, 1, mfa, mfc, mke, mso, mk, mv, mot, mpl, mce, mse, mff) := by
      rw [h0]; rfl
    exact ⟨_, _, e1, e2, rfl, fun q => absurd q nz1, h4⟩
  · have n1 : ¬ nI a.1 ≤ 0 := nI_nle (by omega) (by omega)
    have n2 : ¬ nI a.1 = 0 := nI_ne0 (by omega) (by omega)
    have bad : (x < 0 ∨ (¬ x < 0 ∧ ¬ x < 3 ∧ ¬ x ≤ 2)) → f_LW_run W W W 4 4 4 W 4 4 17 128 1200 1 (nI ports) (nI g) (nI W) (nI (2 ^ B - 1)) xc xt (nI W) (nI B) lt (nI a.1) xfc zeroOf xscr wordAt xvW xvM xk held xoW xoM xf xrows xfp out x = some (2, lt, xfc, zeroOf, wordAt, held, xfp, out, 1) ∧ f_RF_run 4 4 4 4 4 4 16 16 64 16 16 128 4 1200 (nI W) (nI B) mfa mt (nI g) (nI ports) (nI a.1) mfc mke mso mtk mk mtv mv mto mot mscr mpl mce ms mc mo mse mff x = some (0, 2, mfa, mfc, mke, mso, mk, mv, mot, mpl, mce, mse, mff) := by
      intro hx
      unfold f_LW_run f_MT_run f_MT_hasMarch f_RF_run f_RF_run_21
      rw [if_neg n1, if_neg n2]
      rcases hx with hx | ⟨x1, x2, x3⟩
      · rw [if_pos hx, if_pos hx]; exact ⟨rfl, rfl⟩
      · rw [if_neg x1, if_neg x1, if_neg x2, if_neg x3]; exact ⟨rfl, rfl⟩
    rcases int3 x with hx | ⟨o, ho, rfl⟩ | hx
    · obtain ⟨e1, e2⟩ := bad (Or.inl hx)
      exact ⟨_, _, e1, e2, rfl, fun q => absurd q nz2, h4⟩
    · obtain ⟨k', v', o', t1, t2⟩ := r_told (kinds := mk) (victims := mv) (others := mot) hF hM
      obtain ⟨z', w', p1, p2, p3⟩ := m_prepare (wordAt := wordAt) (zeroOf := zeroOf) ho hW0 hW hB hg hs1
      have hFA0 : ∀ arr, KP true 0 (fun _ => 0) 0 arr [] := fun arr => ⟨rfl, fun k x h => by simp at h⟩
      obtain ⟨y, y1, y2⟩ := m_march (keep := true) hW0 hW hB hpt hF hX p2 p3 ha hAX (held := held) (hFA0 xfp)
      obtain ⟨c2, s2, pl', ce', se', ar', g1, g2, g3⟩ := r_go (keep := true) (places := mpl) (cells := mce) (sense := mse) ho hs2 hW0 hW hB hg hpt hF t2 ha hAM (hFA0 mff)
      have hgood := run_good (W := W) (B := B) (c := (F, B, W, g, plN o W scr 16, ports)) rfl rfl ha (fun p hp => (p2 p hp).1) (st := st0 F) (fun x hx => by cases hx) a.1 (Nat.le_refl _)
      generalize (runA (F, B, W, g, plN o W scr 16, ports) a (st0 F) a.1).2 = fl at y1 y2 g2 g3 hgood
      have hb1 : b2 true = 1 := rfl
      rw [hb1] at y1 g1
      subst g3
      have n3 : ¬ nI o < 0 := nI_pos (by omega)
      have n4 : nI o < 3 := (nI_ltL (by omega) (by decide)).mpr ho
      have n5 : nI o ≤ 2 := (nI_leL (by omega) (by decide)).mpr (by show o ≤ 2; omega)
      have e1 : f_LW_run W W W 4 4 4 W 4 4 17 128 1200 1 (nI ports) (nI g) (nI W) (nI (2 ^ B - 1)) xc xt (nI W) (nI B) lt (nI a.1) xfc zeroOf xscr wordAt xvW xvM xk held xoW xoM xf xrows xfp out (nI o) = some (0, y.1, y.2.2.1, z', w', y.2.1, y.2.2.2, vp_updL out 0 (Int32.toInt64 (b2 (!fl.isEmpty))), 0) := by
        unfold f_LW_run f_MT_run f_MT_hasMarch f_Failures_clear
        rw [if_neg n1, Option.bind_some, if_neg (by decide), if_neg n3, if_pos n4, Option.bind_some, p1, Option.bind_some, y1, Option.bind_some]
        cases fl.isEmpty <;> rfl
      have e2 : f_RF_run 4 4 4 4 4 4 16 16 64 16 16 128 4 1200 (nI W) (nI B) mfa mt (nI g) (nI ports) (nI a.1) mfc mke mso mtk mk mtv mv mto mot mscr mpl mce ms mc mo mse mff (nI o) = some (b2 (!fl.isEmpty), 0, mt, c2, 1, b2 (!fl.isEmpty), k', v', o', pl', ce', se', ar') := by
        unfold f_RF_run f_RF_run_26
        rw [if_neg n2, if_neg n3, if_pos n5, if_pos (by decide), t1, Option.bind_some, g1, Option.bind_some]
        cases fl.isEmpty <;> rfl
      exact ⟨_, _, e1, e2, rfl, fun _ => (pk_uLs : vp_updL out 0 _ 0 = _), fl, y2, g2, hgood⟩
    · obtain ⟨e1, e2⟩ := bad (Or.inr hx)
      exact ⟨_, _, e1, e2, rfl, fun q => absurd q nz2, h4⟩
