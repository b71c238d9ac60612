theorem r_copy {a : MA} (ha : a.1 ≤ 16) (h8 : ∀ e, e < a.1 → a.2.2.1 e ≤ 8) {ns nc no so co op : Nat → Int32} (hA : AMr a ns nc no) {thr el ts pl : Int32} :
    ∃ q, lp (g_RF_read_224 16 16 16 16 128 128 thr el ts pl ns nc no (nI a.1)) 100000 (so, co, op, 0) = some q ∧ q.1 = nI a.1 ∧ q.2.1 = thr ∧ q.2.2.1 = el ∧ q.2.2.2.1 = ts ∧ AM a (nI a.1) q.2.2.2.2.2.2.1 q.2.2.2.2.2.2.2.2.1 q.2.2.2.2.2.2.2.2.2.2 := by
  refine lp_Q (I := fun e (s : (Nat → Int32) × (Nat → Int32) × (Nat → Int32) × Int32) => s.2.2.2 = nI e ∧ ∀ d, d < e → s.1 d = ns d ∧ s.2.1 d = nc d ∧ ∀ k, k < 8 → s.2.2.1 (8 * d + k) = no (8 * d + k)) a.1 (fun (r : Option (Int32 × Int32 × Int32 × Int32 × Int32 × (Nat → Int32) × (Nat → Int32) × (Nat → Int32) × (Nat → Int32) × (Nat → Int32) × (Nat → Int32))) => ∃ q, r = some q ∧ q.1 = nI a.1 ∧ q.2.1 = thr ∧ q.2.2.1 = el ∧ q.2.2.2.1 = ts ∧ AM a (nI a.1) q.2.2.2.2.2.2.1 q.2.2.2.2.2.2.2.2.1 q.2.2.2.2.2.2.2.2.2.2) ?_ ?_ 100000 0 (so, co, op, 0) (Nat.zero_le _) (by omega) ⟨rfl, fun d h => by omega⟩
  · rintro e ⟨s1, c1, o1, x⟩ rec he ⟨hx, hI⟩
    dsimp only at hx hI
    subst hx
    left
    have hne : ¬ a.1 ≤ e := by omega
    unfold g_RF_read_224
    simp +decide (disch := first | omega | decide) only [↓reduceIte, Option.bind_some, nI_clamp, inB_nI, inB_z, cl_z, nI_eqL, nI_leL, nI_ltL, nI_geL, nI_gtL, nI_leI, nI_ltI, nI_eq, nI_1, nI_addL, nI_add, hne]
    refine lp_Q (I := fun k (s : (Nat → Int32) × Int32) => s.2 = nI k ∧ (∀ d, d < e → ∀ j, j < 8 → s.1 (8 * d + j) = no (8 * d + j)) ∧ ∀ j, j < k → s.1 (8 * e + j) = no (8 * e + j)) 8 (fun r => ∃ s' : (Nat → Int32) × (Nat → Int32) × (Nat → Int32) × Int32, (s'.2.2.2 = nI (e + 1) ∧ ∀ d, d < e + 1 → s'.1 d = ns d ∧ s'.2.1 d = nc d ∧ ∀ k, k < 8 → s'.2.2.1 (8 * d + k) = no (8 * d + k)) ∧ r = rec s') ?_ ?_ 100000 0 (o1, 0) (Nat.zero_le _) (by omega) ⟨rfl, fun d hd j hj => (hI d hd).2.2 j hj, fun j h => by omega⟩
    · rintro k ⟨o2, y⟩ rec2 hk ⟨hy, h1, h2⟩
      dsimp only at hy h1 h2
      subst hy
      left
      refine ⟨(upd o2 (8 * e + k) (no (8 * e + k)), nI (k + 1)), ⟨rfl, fun d hd j hj => ?_, fun j hj => ?_⟩, ?_⟩
      · show upd o2 (8 * e + k) (no (8 * e + k)) (8 * d + j) = _
        rw [upd_n (by omega)]; exact h1 d hd j hj
      · show upd o2 (8 * e + k) (no (8 * e + k)) (8 * e + j) = _
        by_cases q : j = k
        · rw [q, upd_s]
        · rw [upd_n (by omega)]; exact h2 j (by omega)
      · unfold g_RF_read_261
        have e8 : (8 : Int32) * nI e = nI (8 * e) := pk_mul 8 e
        (have o_0 : ¬ 8 ≤ k := (by omega); simp +decide (disch := first | omega | decide) only [↓reduceIte, Option.bind_some, nI_clamp, inB_nI, inB_z, cl_z, nI_eqL, nI_leL, nI_ltL, nI_geL, nI_gtL, nI_leI, nI_ltI, nI_eq, nI_1, nI_addL, nI_add, o_0, e8])
    · rintro ⟨o2, y⟩ rec2 ⟨hy, h1, h2⟩
      dsimp only at hy h1 h2
      subst hy
      refine ⟨(upd s1 e (ns e), upd c1 e (nc e), o2, nI (e + 1)), ⟨rfl, fun d hd => ?_⟩, ?_⟩
      · show upd s1 e (ns e) d = ns d ∧ upd c1 e (nc e) d = nc d ∧ ∀ k, k < 8 → o2 (8 * d + k) = no (8 * d + k)
        by_cases q : d = e
        · subst q
          rw [upd_s, upd_s]; exact ⟨rfl, rfl, h2⟩
        · rw [upd_n q, upd_n q]
          exact ⟨(hI d (by omega)).1, (hI d (by omega)).2.1, h1 d (by omega)⟩
      · unfold g_RF_read_261
        simp +decide (disch := first | omega | decide) only [↓reduceIte, Option.bind_some, nI_clamp, inB_nI, inB_z, cl_z, nI_eqL, nI_leL, nI_ltL, nI_geL, nI_gtL, nI_leI, nI_ltI, nI_eq, nI_1, nI_addL, nI_add, Nat.le_refl]
  · rintro ⟨s1, c1, o1, x⟩ rec ⟨hx, hI⟩
    dsimp only at hx hI
    subst hx
    unfold g_RF_read_224
    dsimp only
    rw [if_pos ((nI_leI (by omega) (by omega)).mpr (Nat.le_refl _))]
    refine ⟨_, rfl, rfl, rfl, rfl, rfl, rfl, fun e he => ?_⟩
    obtain ⟨i1, i2, i3⟩ := hI e he
    obtain ⟨b1, b2, b3⟩ := hA e he
    have := h8 e he
    exact ⟨i1.trans b1, i2.trans b2, fun k hk => (i3 k (by omega)).trans (b3 k hk)⟩
section LRD
variable {n : Nat} {t : Nat → Nat} {mt : Nat → Int32}
abbrev RT : Type := Int32 × Int32 × Int32 × (Nat → Int32) × (Nat → Int32) × (Nat → Int32) × (Nat → Int32) × (Nat → Int32) × (Nat → Int32) × Int32 × Int32 × Int32
abbrev RO : Type := Int32 × Int32 × Int32 × Int32 × Int32 × (Nat → Int32) × (Nat → Int32) × (Nat → Int32) × (Nat → Int32) × (Nat → Int32) × (Nat → Int32)
def RI (n : Nat) (t : Nat → Nat) (el : Int32) (so co op : Nat → Int32) (R : Nat ⊕ MA) (i : Nat) (st : RT) : Prop :=
  st.1 = el ∧ st.2.1 = nI n ∧ st.2.2.2.2.1 = so ∧ st.2.2.2.2.2.2.1 = co ∧ st.2.2.2.2.2.2.2.2.1 = op ∧
  ((st.2.2.2.2.2.2.2.2.2.2.2 = 1 ∧ st.2.2.2.2.2.2.2.2.2.2.1 = 1 ∧ st.2.2.2.2.2.2.2.2.2.1 = nI i ∧ ∃ p s, p ≤ n ∧ st.2.2.1 = nI p ∧ okS s ∧ s.1 = 0 ∧ s.2.2.2.1 = i ∧ AMr s.2.2.2 st.2.2.2.1 st.2.2.2.2.2.1 st.2.2.2.2.2.2.2.1 ∧ scanF t n (n - p) s = R)
   ∨ (st.2.2.2.2.2.2.2.2.2.2.2 = 0 ∧ st.2.2.2.2.2.2.2.2.2.2.1 = 0 ∧ ∃ p, p ≤ n ∧ st.2.2.1 = nI p ∧ R = Sum.inl p)
   ∨ (st.2.2.2.2.2.2.2.2.2.2.2 = 0 ∧ st.2.2.2.2.2.2.2.2.2.2.1 = 1 ∧ ∃ a, MAok a ∧ st.2.2.2.2.2.2.2.2.2.1 = nI a.1 ∧ AMr a st.2.2.2.1 st.2.2.2.2.2.1 st.2.2.2.2.2.2.2.1 ∧ R = Sum.inr a))
theorem r_behindEl (hn : n ≤ 400) (ht : ∀ i, i < n → t i < 256) (hm : ∀ i, i < n → mt i = nI (t i)) {el : Int32} {so co op ns nc no : Nat → Int32} {R : Nat ⊕ MA} {s : AS} (hok : okS s) (h1 : s.1 = 1) {e p : Nat} (he : s.2.2.2.1 = e + 1) (hp : p ≤ n) (hA : AMr s.2.2.2 ns nc no) (hR : scanF t n (n - p) s = R) (rec : RT → Option RO) :
    ∃ st', RI n t el so co op R (e + 1) st' ∧ f_RF_read_143 400 el (nI n) (nI p) ns so nc co no op mt (nI e) rec = rec st' := by
  obtain ⟨p', c, l1, l2, l3, l4, l5, l6, l7, l8, l9⟩ := look hn ht hm hp
  unfold f_RF_read_143 f_RF_read_148 f_RF_read_152
  rw [if_neg nz1, nI_1, l5, Option.bind_some]
  dsimp only
  by_cases h256 : c = 256
  · rw [if_pos (show cI c = -1 by rw [h256]; rfl)]
    have e1 := l8 s h1 h256
    rw [hR] at e1
    exact ⟨(el, nI n, nI p', ns, so, nc, co, no, op, nI (e + 1), 1, 0), ⟨rfl, rfl, rfl, rfl, rfl, Or.inr (Or.inr ⟨rfl, rfl, s.2.2.2, okS_MA hok h1, by rw [he], hA, e1⟩)⟩, rfl⟩
  · have hc : c < 256 := by omega
    have hpn : p' < n := by
      by_cases q : p' = n
      · exact absurd (l4.mpr q) h256
      · omega
    have ok0 : okS (0, s.2) := by
      obtain ⟨a1, a2, a3, a4, a5, a6⟩ := hok
      refine ⟨by show 0 ≤ 5; omega, a2, a3, a4, fun d hd => ?_, fun q => absurd (show 2 ≤ 0 from q) (by omega)⟩
      obtain ⟨b1, b2, b3, b4⟩ := a5 d hd
      exact ⟨b1, b2, b3, fun q _ => b4 q (Or.inr (by omega))⟩
    have e1 := l7 s (Or.inr hc)
    rw [hR] at e1
    rw [if_neg (show ¬ cI c = -1 by rw [cI_lt hc]; exact ne_m1 (by omega))]
    unfold f_RF_read_169
    rw [if_neg nz1, l6, Option.bind_some]
    dsimp only
    have c59 : (cI c = (59 : Int32)) ↔ c = 59 := cI_eq l3 (by decide)
    by_cases h59 : c = 59
    · rw [if_pos (c59.mpr h59), nI_1]
      have es : stepS s c = some (0, s.2) := by
        unfold stepS
        rw [if_pos (by omega), if_pos ⟨h1, h59⟩]
      rw [es] at e1
      exact ⟨(el, nI n, nI (p' + 1), ns, so, nc, co, no, op, nI (e + 1), 1, 1), ⟨rfl, rfl, rfl, rfl, rfl, Or.inl ⟨rfl, rfl, rfl, p' + 1, (0, s.2), by omega, rfl, ok0, rfl, he, hA, e1.symm⟩⟩, rfl⟩
    · rw [if_neg (fun r => h59 (c59.mp r))]
      have es : stepS s c = stepS (0, s.2) c := by
        unfold stepS
        rw [if_pos (show s.1 ≤ 1 by omega), if_neg (show ¬ (s.1 = 1 ∧ c = 59) from fun q => h59 q.2), if_pos (show (0, s.2).1 ≤ 1 from Nat.zero_le 1), if_neg (show ¬ ((0, s.2).1 = 1 ∧ c = 59) from fun q => h59 q.2)]
      have e2 := l7 (0, s.2) (Or.inr hc)
      rw [l9, ← es, ← e1] at e2
      exact ⟨(el, nI n, nI p', ns, so, nc, co, no, op, nI (e + 1), 1, 1), ⟨rfl, rfl, rfl, rfl, rfl, Or.inl ⟨rfl, rfl, rfl, p', (0, s.2), l2, rfl, ok0, rfl, he, hA, e2⟩⟩, rfl⟩
def RRq (el : Int32) (so co op : Nat → Int32) (r : Nat ⊕ MA) (q : RO) : Prop := q.2.2.2.1 = 0 ∧ match r with
  | Sum.inl p => q.1 = -1 - nI p ∧ q.2.2.1 = el ∧ q.2.2.2.2.2.2.1 = so ∧ q.2.2.2.2.2.2.2.2.1 = co ∧ q.2.2.2.2.2.2.2.2.2.2 = op
  | Sum.inr a => q.1 = nI a.1 ∧ AM a q.2.2.1 q.2.2.2.2.2.2.1 q.2.2.2.2.2.2.2.2.1 q.2.2.2.2.2.2.2.2.2.2
theorem read_fail {el pl x1 x4 : Int32} {so co op ns nc no : Nat → Int32} {rec : RT → Option RO} : f_RF_read_76 16 16 128 400 el (nI n) pl ns so nc co no op mt x1 x4 rec = rec (el, nI n, pl, ns, so, nc, co, no, op, x1, 0, 0) := rfl
set_option maxHeartbeats 4000000 in
theorem r_read (hn : n ≤ 400) (ht : ∀ i, i < n → t i < 256) (hm : ∀ i, i < n → mt i = nI (t i)) {el : Int32} {so co op ns nc no : Nat → Int32} :
    ∃ q, f_RF_read 16 16 16 16 128 128 400 el (nI n) ns so nc co no op mt = some q ∧ RRq el so co op (scanF t n n s0) q := by
  unfold f_RF_read
  have exit : ∀ i (st : RT) rec, RI n t el so co op (scanF t n n s0) i st → st.2.2.2.2.2.2.2.2.2.2.2 = 0 → ∃ q, g_RF_read_16 16 16 16 16 128 128 400 0 mt rec st = some q ∧ RRq el so co op (scanF t n n s0) q := by
    rintro i ⟨a1, a2, a3, a4, a5, a6, a7, a8, a9, b1, b2, b3⟩ rec hI h0
    obtain ⟨h1, h2, h3, h4, h5, h6⟩ := hI
    dsimp only at h0 h1 h2 h3 h4 h5 h6
    subst h0 h1 h2 h3 h4 h5
    unfold g_RF_read_16
    dsimp only
    rw [if_pos (show (0 : Int32) = 0 from rfl)]
    rcases h6 with ⟨q, _⟩ | ⟨_, e2, p, p1, p2, p3⟩ | ⟨_, e2, a, q1, q2, q3, q4⟩
    · exact absurd q (by decide)
    · subst e2 p2
      rw [if_pos (show (0 : Int32) = 0 from rfl), p3]
      exact ⟨_, rfl, rfl, rfl, rfl, rfl, rfl, rfl⟩
    · subst e2 q2
      rw [if_neg nz1, q4]
      obtain ⟨q, r1, r2, r3, r4, r5, r6⟩ := r_copy (so := a5) (co := a7) (op := a9) (thr := 0) (el := nI a.1) (ts := 0) (pl := a3) q1.1 (fun e he => (q1.2 e he).2.2.1) q3
      refine ⟨q, r1, r5, r2, ?_⟩
      rw [r4]; exact r6
  refine lp_Q (I := fun i (st : RT) => RI n t el so co op (scanF t n n s0) i st) 17 (fun (r : Option RO) => ∃ q, r = some q ∧ RRq el so co op (scanF t n n s0) q) ?_ ?_ 100000 0 (el, nI n, 0, ns, so, nc, co, no, op, 0, 1, 1) (Nat.zero_le _) (by omega) ⟨rfl, rfl, rfl, rfl, rfl, Or.inl ⟨rfl, rfl, rfl, 0, s0, Nat.zero_le _, rfl, ok_0, rfl, rfl, fun e he => absurd he (Nat.not_lt_zero e), rfl⟩⟩
  · rintro i ⟨a1, a2, a3, a4, a5, a6, a7, a8, a9, b1, b2, b3⟩ rec hi hI
    by_cases h0 : b3 = 0
    · right; exact exit i _ rec hI h0
    · left
      obtain ⟨h1, h2, h3, h4, h5, h6⟩ := hI
      dsimp only at h1 h2 h3 h4 h5 h6
      subst h1 h2 h3 h4 h5
      rcases h6 with ⟨e1, e2, e3, p, s, i1, i2, i3, i4, i5, i6, i7⟩ | ⟨e1, _⟩ | ⟨e1, _⟩
      · subst e1 e2 e3 i2
        obtain ⟨p', c, l1, l2, l3, l4, l5, l6, l7, l8, l9⟩ := look hn ht hm i1
        have hsc := l7 s (Or.inl (by omega))
        rw [i7] at hsc
        have h16 := i3.2.2.2.1
        unfold g_RF_read_16
        dsimp only
        rw [if_neg nz1, l5, Option.bind_some]
        dsimp only
        unfold f_RF_read_47 f_RF_read_52
        rw [read_fail, if_neg nz1, if_pos (show (0 : Int32) = 0 from rfl)]
        have c94 : (cI c = (94 : Int32)) ↔ c = 94 := cI_eq l3 (by decide)
        have c118 : (cI c = (118 : Int32)) ↔ c = 118 := cI_eq l3 (by decide)
        have c42 : (cI c = (42 : Int32)) ↔ c = 42 := cI_eq l3 (by decide)
        have c100 : (cI c = (100 : Int32)) ↔ c = 100 := cI_eq l3 (by decide)
        have pick : ∀ (u v : Option RO), (if cI c = 94 then u else if cI c = 118 then u else if cI c = 42 then u else if cI c = 100 then u else v) = if c = 94 ∨ c = 118 ∨ c = 42 ∨ c = 100 then u else v := by
          intro u v
          by_cases q1 : c = 94
          · rw [if_pos (c94.mpr q1), if_pos (Or.inl q1)]
          · rw [if_neg (fun r => q1 (c94.mp r))]
            by_cases q2 : c = 118
            · rw [if_pos (c118.mpr q2), if_pos (Or.inr (Or.inl q2))]
            · rw [if_neg (fun r => q2 (c118.mp r))]
              by_cases q3 : c = 42
              · rw [if_pos (c42.mpr q3), if_pos (Or.inr (Or.inr (Or.inl q3)))]
              · rw [if_neg (fun r => q3 (c42.mp r))]
                by_cases q4 : c = 100
                · rw [if_pos (c100.mpr q4), if_pos (Or.inr (Or.inr (Or.inr q4)))]
                · rw [if_neg (fun r => q4 (c100.mp r)), if_neg (by omega)]
        rw [pick]
        have bad : stepS s c = none → ∃ st', RI n t a1 a5 a7 a9 (scanF t n n s0) (i + 1) st' ∧ rec (a1, nI n, nI p', a4, a5, a6, a7, a8, a9, nI i, 0, 0) = rec st' := by
          intro hs
          rw [hs] at hsc
          exact ⟨(a1, nI n, nI p', a4, a5, a6, a7, a8, a9, nI i, 0, 0), ⟨rfl, rfl, rfl, rfl, rfl, Or.inr (Or.inl ⟨rfl, rfl, p', l2, rfl, hsc⟩)⟩, rfl⟩
        by_cases hel : c = 94 ∨ c = 118 ∨ c = 42 ∨ c = 100
        · rw [if_pos hel]
          unfold f_RF_read_66
          rw [read_fail]
          by_cases hi16 : 16 ≤ i
          · rw [if_pos ((nI_geL (by omega) (by decide)).mpr hi16)]
            refine bad ?_
            unfold stepS
            rw [if_pos (show s.1 ≤ 1 by omega), if_neg (show ¬ (s.1 = 1 ∧ c = 59) by omega), if_pos (show 16 ≤ s.2.2.2.1 by omega)]
          · rw [if_neg (fun r => hi16 ((nI_geL (by omega) (by decide)).mp r))]
            have hp : p' < n := by
              by_cases q : p' = n
              · have := l4.mpr q; omega
              · omega
            unfold f_RF_read_77 f_RF_read_120
            rw [if_neg nz1, nI_1, inB_nI (by omega) (by decide), nI_clamp (by omega)]
            simp only [if_true]
            by_cases h100 : c = 100
            · rw [if_pos (c100.mpr h100), if_pos (c100.mpr h100)]
              have es : stepS s c = some (1, s.2.1, s.2.2.1, addEl s.2.2.2 2) := by
                unfold stepS
                rw [if_pos (show s.1 ≤ 1 by omega), if_neg (show ¬ (s.1 = 1 ∧ c = 59) by omega), if_neg (show ¬ 16 ≤ s.2.2.2.1 by omega), if_pos h100]
              rw [es] at hsc
              have hA2 := AMr_el (so := 2) i6
              rw [i5] at hA2
              exact r_behindEl hn ht hm (ok_step i3 es) rfl (show s.2.2.2.1 + 1 = i + 1 by omega) (show p' + 1 ≤ n by omega) hA2 hsc.symm rec
            · have rest : ∀ so' : Nat, so' = (if c = 118 then 1 else 0) → ∃ st', RI n t a1 a5 a7 a9 (scanF t n n s0) (i + 1) st' ∧ (Option.bind (f_RF_readOperations 400 16 128 (nI n) (nI (p' + 1)) mt (upd a6 i 0) a8 (nI i)) fun q137_4 => (if q137_4.1 = 0 then (f_RF_read_148 400 a1 (nI n) q137_4.2.1 (upd a4 i (nI so')) a5 q137_4.2.2.1 a7 q137_4.2.2.2 a9 mt 0 (nI i) rec) else (f_RF_read_143 400 a1 (nI n) q137_4.2.1 (upd a4 i (nI so')) a5 q137_4.2.2.1 a7 q137_4.2.2.2 a9 mt (nI i) rec))) = rec st' := by
                intro so' hso
                have es : stepS s c = some (2, (if c = 118 then 1 else 0), s.2.2.1, addEl s.2.2.2 (if c = 118 then 1 else 0)) := by
                  unfold stepS
                  rw [if_pos (show s.1 ≤ 1 by omega), if_neg (show ¬ (s.1 = 1 ∧ c = 59) by omega), if_neg (show ¬ 16 ≤ s.2.2.2.1 by omega), if_neg h100, if_pos (show c = 94 ∨ c = 118 ∨ c = 42 by omega)]
                rw [← hso] at es
                rw [es] at hsc
                dsimp only at hsc
                have hA2 := AMr_el (so := so') i6
                rw [i5] at hA2
                have hcnt : (addEl s.2.2.2 so').2.2.1 i = 0 := by
                  show updN s.2.2.2.2.2.1 s.2.2.2.1 0 i = 0
                  rw [i5, updN_s]
                obtain ⟨q, q1, q2⟩ := r_rops hn ht hm (ok_step i3 es) rfl (e := i) (show s.2.2.2.1 + 1 = i + 1 by omega) hcnt (show p' + 1 ≤ n by omega) hA2
                rw [q1, Option.bind_some]
                rcases q2 with ⟨z1, pp, z2, z3, z4⟩ | ⟨z1, i', s', z2, z3, z4, z5, z6, z7, z8⟩
                · rw [if_pos z1, z3]
                  refine ⟨(a1, nI n, nI pp, upd a4 i (nI so'), a5, q.2.2.1, a7, q.2.2.2, a9, nI (i + 1), 0, 0), ⟨rfl, rfl, rfl, rfl, rfl, Or.inr (Or.inl ⟨rfl, rfl, pp, z2, rfl, hsc.trans z4⟩)⟩, ?_⟩
                  unfold f_RF_read_148 f_RF_read_152 f_RF_read_168 f_RF_read_169
                  rw [nI_1]
                  rfl
                · rw [if_neg (by rw [z1]; decide), z3]
                  exact r_behindEl hn ht hm z4 z5 z6 z2 z7 (hsc.trans z8).symm rec
              rw [if_neg (fun r => h100 (c100.mp r))]
              by_cases h118 : c = 118
              · rw [if_pos (c118.mpr h118), if_neg (fun r => h100 (c100.mp r))]
                exact rest 1 (by rw [if_pos h118])
              · rw [if_neg (fun r => h118 (c118.mp r)), if_neg (fun r => h100 (c100.mp r))]
                exact rest 0 (by rw [if_neg h118])
        · rw [if_neg hel]
          refine bad ?_
          unfold stepS
          rw [if_pos (show s.1 ≤ 1 by omega), if_neg (show ¬ (s.1 = 1 ∧ c = 59) by omega)]
          by_cases h16' : 16 ≤ s.2.2.2.1
          · rw [if_pos h16']
          · rw [if_neg h16', if_neg (show ¬ c = 100 by omega), if_neg (show ¬ (c = 94 ∨ c = 118 ∨ c = 42) by omega)]
      · exact absurd e1 h0
      · exact absurd e1 h0
  · rintro ⟨a1, a2, a3, a4, a5, a6, a7, a8, a9, b1, b2, b3⟩ rec hI
    refine exit 17 _ rec hI ?_
    obtain ⟨h1, h2, h3, h4, h5, h6⟩ := hI
    rcases h6 with ⟨e1, e2, e3, p, s, i1, i2, i3, i4, i5, i6, i7⟩ | ⟨e1, _⟩ | ⟨e1, _⟩
    · have := i3.2.2.2.1
      omega
    · exact e1
    · exact e1
end LRD
