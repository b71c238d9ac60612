def cI (c : Nat) : Int32 := if c = 256 then -1 else nI c
theorem cI_eq {c m : Nat} (hc : c ≤ 256) (hm : m < 256) : (cI c = nI m) ↔ c = m := by
  unfold cI
  by_cases h : c = 256
  · rw [if_pos h]
    exact ⟨fun q => absurd q.symm (ne_m1 (by omega)), fun q => by omega⟩
  · rw [if_neg h]; exact nI_eq (by omega) (by omega)
theorem cI_lt {c : Nat} (h : c < 256) : cI c = nI c := if_neg (by omega)
theorem step_256 (s : AS) : stepS s 256 = none := by
  unfold stepS
  by_cases h1 : s.1 ≤ 1
  · rw [if_pos h1, if_neg (by omega)]
    by_cases h2 : 16 ≤ s.2.2.2.1
    · rw [if_pos h2]
    · rw [if_neg h2, if_neg (by omega), if_neg (by omega)]
  · rw [if_neg h1]
    by_cases h2 : s.1 = 2
    · rw [if_pos h2]; rfl
    · rw [if_neg h2]
      by_cases h3 : s.1 = 3
      · rw [if_pos h3, if_neg (fun q => by omega)]
      · rw [if_neg h3]
        by_cases h4 : s.1 = 4
        · rw [if_pos h4]; rfl
        · rw [if_neg h4]; rfl
section RRD
variable {n : Nat} {t : Nat → Nat} {mt : Nat → Int32}
def Look (n : Nat) (t : Nat → Nat) (mt : Nat → Int32) (i p c : Nat) : Prop := i ≤ p ∧ p ≤ n ∧ c ≤ 256 ∧ (c = 256 ↔ p = n) ∧ f_RF_next 400 (nI n) (nI i) mt = some (cI c, nI p) ∧ f_RF_next 400 (nI n) (nI p) mt = some (cI c, nI p)
  ∧ (∀ s, (s.1 ≠ 1 ∨ c < 256) → scanF t n (n - i) s = match stepS s c with
    | none => Sum.inl p
    | some s' => scanF t n (n - (p + 1)) s') ∧ (∀ s, s.1 = 1 → c = 256 → scanF t n (n - i) s = Sum.inr s.2.2.2) ∧ (∀ s, scanF t n (n - i) s = scanF t n (n - p) s)
theorem next_nb {i : Nat} (hn : n ≤ 400) (hi : i < n) (ht : t i < 256) (hm : mt i = nI (t i)) (hb : blankB (t i) = false) : f_RF_next 400 (nI n) (nI i) mt = some (nI (t i), nI i) := by
  unfold f_RF_next
  show g_RF_next_0 400 (nI n) mt _ (nI i) = _
  unfold g_RF_next_0
  unfold blankB at hb
  simp only [Bool.or_eq_false_iff, decide_eq_false_iff_not] at hb
  obtain ⟨⟨⟨b1, b2⟩, b3⟩, b4⟩ := hb
  (have o_0 : ¬ n ≤ i := (by omega); simp +decide (disch := first | omega | decide) only [↓reduceIte, Option.bind_some, nI_clamp, inB_nI, inB_z, cl_z, nI_eqL, nI_leL, nI_ltL, nI_geL, nI_gtL, nI_leI, nI_ltI, nI_eq, nI_1, nI_addL, nI_add, o_0, hm, b1, b2, b3, b4])
theorem next_end (hn : n ≤ 400) : f_RF_next 400 (nI n) (nI n) mt = some (-1, nI n) := by
  unfold f_RF_next
  show g_RF_next_0 400 (nI n) mt _ (nI n) = _
  unfold g_RF_next_0
  simp +decide (disch := first | omega | decide) only [↓reduceIte, Option.bind_some, nI_clamp, inB_nI, inB_z, cl_z, nI_eqL, nI_leL, nI_ltL, nI_geL, nI_gtL, nI_leI, nI_ltI, nI_eq, nI_1, nI_addL, nI_add, Nat.le_refl]
theorem next_lp (hn : n ≤ 400) (ht : ∀ i, i < n → t i < 256) (hm : ∀ i, i < n → mt i = nI (t i)) {i : Nat} (hi : i ≤ n) : ∃ p, i ≤ p ∧ p ≤ n ∧ (∀ j, i ≤ j → j < p → blankB (t j) = true) ∧ (p < n → blankB (t p) = false) ∧ f_RF_next 400 (nI n) (nI i) mt = some ((if p < n then nI (t p) else -1), nI p) := by
  unfold f_RF_next
  refine lp_Q (I := fun k (s : Int32) => s = nI (i + k) ∧ i + k ≤ n ∧ ∀ j, i ≤ j → j < i + k → blankB (t j) = true) (n - i) (fun (r : Option (Int32 × Int32)) => ∃ p, i ≤ p ∧ p ≤ n ∧ (∀ j, i ≤ j → j < p → blankB (t j) = true) ∧ (p < n → blankB (t p) = false) ∧ r = some ((if p < n then nI (t p) else -1), nI p)) ?_ ?_ 100000 0 (nI i) (Nat.zero_le _) (by omega) ⟨rfl, by omega, fun j h1 h2 => by omega⟩
  · rintro k s rec hk ⟨hs, h1, h2⟩
    subst hs
    have hlt : i + k < n := by omega
    cases hb : blankB (t (i + k))
    · right
      refine ⟨i + k, by omega, by omega, h2, fun _ => hb, ?_⟩
      rw [if_pos hlt]
      unfold g_RF_next_0
      unfold blankB at hb
      simp only [Bool.or_eq_false_iff, decide_eq_false_iff_not] at hb
      obtain ⟨⟨⟨b1, b2⟩, b3⟩, b4⟩ := hb
      have e := hm _ hlt
      have e2 := ht _ hlt
      (have o_0 : ¬ n ≤ i + k := (by omega); simp +decide (disch := first | omega | decide) only [↓reduceIte, Option.bind_some, nI_clamp, inB_nI, inB_z, cl_z, nI_eqL, nI_leL, nI_ltL, nI_geL, nI_gtL, nI_leI, nI_ltI, nI_eq, nI_1, nI_addL, nI_add, o_0, e, b1, b2, b3, b4])
    · left
      refine ⟨nI (i + (k + 1)), ⟨rfl, by omega, fun j j1 j2 => ?_⟩, ?_⟩
      · by_cases q : j = i + k
        · rw [q]; exact hb
        · exact h2 j j1 (by omega)
      · unfold g_RF_next_0 f_RF_next_67
        unfold blankB at hb
        simp only [Bool.or_eq_true, decide_eq_true_eq] at hb
        have e := hm _ hlt
        have e2 := ht _ hlt
        have hnk : ¬ n ≤ i + k := by omega
        rw [show i + (k + 1) = i + k + 1 by omega]
        by_cases b4 : t (i + k) = 32
        · rw [b4] at e
          simp +decide (disch := first | omega | decide) only [↓reduceIte, Option.bind_some, nI_clamp, inB_nI, inB_z, cl_z, nI_eqL, nI_leL, nI_ltL, nI_geL, nI_gtL, nI_leI, nI_ltI, nI_eq, nI_1, nI_addL, nI_add, hnk, e]
        · by_cases b1 : t (i + k) = 9
          · rw [b1] at e
            simp +decide (disch := first | omega | decide) only [↓reduceIte, Option.bind_some, nI_clamp, inB_nI, inB_z, cl_z, nI_eqL, nI_leL, nI_ltL, nI_geL, nI_gtL, nI_leI, nI_ltI, nI_eq, nI_1, nI_addL, nI_add, hnk, e]
          · by_cases b2 : t (i + k) = 10
            · rw [b2] at e
              simp +decide (disch := first | omega | decide) only [↓reduceIte, Option.bind_some, nI_clamp, inB_nI, inB_z, cl_z, nI_eqL, nI_leL, nI_ltL, nI_geL, nI_gtL, nI_leI, nI_ltI, nI_eq, nI_1, nI_addL, nI_add, hnk, e]
            · have b3 : t (i + k) = 13 := by omega
              rw [b3] at e
              simp +decide (disch := first | omega | decide) only [↓reduceIte, Option.bind_some, nI_clamp, inB_nI, inB_z, cl_z, nI_eqL, nI_leL, nI_ltL, nI_geL, nI_gtL, nI_leI, nI_ltI, nI_eq, nI_1, nI_addL, nI_add, hnk, e]
  · rintro s rec ⟨hs, h1, h2⟩
    subst hs
    refine ⟨n, hi, Nat.le_refl _, fun j j1 j2 => h2 j j1 (by omega), fun q => by omega, ?_⟩
    rw [if_neg (Nat.lt_irrefl _), show i + (n - i) = n by omega]
    unfold g_RF_next_0
    simp +decide (disch := first | omega | decide) only [↓reduceIte, Option.bind_some, nI_clamp, inB_nI, inB_z, cl_z, nI_eqL, nI_leL, nI_ltL, nI_geL, nI_gtL, nI_leI, nI_ltI, nI_eq, nI_1, nI_addL, nI_add, Nat.le_refl]
theorem scan_skip {i : Nat} {s : AS} : ∀ d, i + d ≤ n → (∀ j, i ≤ j → j < i + d → blankB (t j) = true) → scanF t n (n - i) s = scanF t n (n - (i + d)) s
  | 0, _, _ => rfl
  | d + 1, h1, h2 => by
    rw [scan_skip d (by omega) (fun j j1 j2 => h2 j j1 (by omega)), scan_step (show i + d < n by omega), if_pos (h2 (i + d) (by omega) (by omega))]
    rfl
theorem look (hn : n ≤ 400) (ht : ∀ i, i < n → t i < 256) (hm : ∀ i, i < n → mt i = nI (t i)) {i : Nat} (hi : i ≤ n) : ∃ p c, Look n t mt i p c := by
  obtain ⟨p, p1, p2, p3, p4, p5⟩ := next_lp hn ht hm hi
  have hsk : ∀ s, scanF t n (n - i) s = scanF t n (n - p) s := by
    intro s
    have := scan_skip (n := n) (t := t) (i := i) (s := s) (p - i) (by omega) (fun j j1 j2 => p3 j j1 (by omega))
    rw [show i + (p - i) = p by omega] at this
    exact this
  by_cases h : p < n
  · have tp := ht p h
    rw [if_pos h] at p5
    refine ⟨p, t p, p1, p2, by omega, ⟨fun q => by omega, fun q => by omega⟩, by rw [cI_lt tp]; exact p5, by rw [cI_lt tp]; exact next_nb hn h tp (hm p h) (p4 h), fun s _ => ?_, fun s _ q => by omega, hsk⟩
    rw [hsk, scan_step h, p4 h, if_neg (by decide)]
    cases stepS s (t p) <;> rfl
  · have hp : p = n := by omega
    subst hp
    rw [if_neg h] at p5
    refine ⟨p, 256, p1, p2, by omega, ⟨fun _ => rfl, fun _ => rfl⟩, p5, next_end hn, fun s hs => ?_, fun s h1 _ => ?_, hsk⟩
    · rw [hsk, scan_end, step_256]
      rcases hs with hs | hs
      · rw [if_neg hs]
      · omega
    · rw [hsk, scan_end, if_pos h1]
def AMr (a : MA) (ns nc no : Nat → Int32) : Prop := ∀ e, e < a.1 → ns e = nI (a.2.1 e) ∧ nc e = nI (a.2.2.1 e) ∧ ∀ k, k < a.2.2.1 e → no (8 * e + k) = nI (a.2.2.2 e k)
theorem AMr_el {a : MA} {so : Nat} {ns nc no : Nat → Int32} (h : AMr a ns nc no) : AMr (addEl a so) (upd ns a.1 (nI so)) (upd nc a.1 0) no := by
  intro e he
  have he' : e < a.1 + 1 := he
  by_cases q : e = a.1
  · subst q
    rw [upd_s, upd_s]
    show nI so = nI (updN a.2.1 a.1 so a.1) ∧ 0 = nI (updN a.2.2.1 a.1 0 a.1) ∧ ∀ k, k < updN a.2.2.1 a.1 0 a.1 → _
    rw [updN_s, updN_s]
    exact ⟨rfl, rfl, fun k hk => by omega⟩
  · rw [upd_n q, upd_n q, (el_old q).1, (el_old q).2]
    exact h e (by omega)
theorem AMr_op {a : MA} {o : Nat} {ns nc no : Nat → Int32} (h : AMr a ns nc no) (h0 : 0 < a.1) (hc : a.2.2.1 (a.1 - 1) < 8) (hall : ∀ e, e < a.1 → a.2.2.1 e ≤ 8) : AMr (addOp a o) ns (upd nc (a.1 - 1) (nI (a.2.2.1 (a.1 - 1) + 1))) (upd no (8 * (a.1 - 1) + a.2.2.1 (a.1 - 1)) (nI o)) := by
  intro e he
  have he' : e < a.1 := he
  obtain ⟨h1, h2, h3⟩ := h e he'
  have h8 := hall e he'
  by_cases q : e = a.1 - 1
  · subst q
    refine ⟨h1, ?_, fun k hk => ?_⟩
    · show upd nc (a.1 - 1) _ (a.1 - 1) = nI (updN a.2.2.1 (a.1 - 1) (a.2.2.1 (a.1 - 1) + 1) (a.1 - 1))
      rw [upd_s, updN_s]
    · have hk' : k < a.2.2.1 (a.1 - 1) + 1 := by
        have : k < updN a.2.2.1 (a.1 - 1) (a.2.2.1 (a.1 - 1) + 1) (a.1 - 1) := hk
        rw [updN_s] at this; exact this
      show _ = nI (if a.1 - 1 = a.1 - 1 ∧ k = a.2.2.1 (a.1 - 1) then o else a.2.2.2 (a.1 - 1) k)
      by_cases r : k = a.2.2.1 (a.1 - 1)
      · rw [if_pos ⟨rfl, r⟩, r, upd_s]
      · rw [if_neg (fun x => r x.2), upd_n (by omega)]; exact h3 k (by omega)
  · obtain ⟨o1, o2, o3⟩ := op_old (a := a) (o := o) q
    rw [o1, o2, upd_n q]
    refine ⟨h1, h2, fun k hk => ?_⟩
    rw [o3 k, upd_n (by omega)]; exact h3 k hk
theorem rop_fail {e x4 : Int32} {pl : Int32} {nc no : Nat → Int32} {rec : (Int32 × (Nat → Int32) × (Nat → Int32) × Int32 × Int32) → Option (Int32 × Int32 × (Nat → Int32) × (Nat → Int32))} : f_RF_readOperations_84 400 16 128 (nI n) pl mt nc no e x4 rec = rec (pl, nc, no, 0, 0) := rfl
theorem rop_155 {e x4 x5 : Int32} {pl : Int32} {nc no : Nat → Int32} {rec : (Int32 × (Nat → Int32) × (Nat → Int32) × Int32 × Int32) → Option (Int32 × Int32 × (Nat → Int32) × (Nat → Int32))} : f_RF_readOperations_155 400 16 128 (nI n) pl mt nc no e x4 x5 rec = rec (pl, nc, no, 0, 0) := rfl
set_option maxHeartbeats 4000000 in
theorem r_rops (hn : n ≤ 400) (ht : ∀ i, i < n → t i < 256) (hm : ∀ i, i < n → mt i = nI (t i)) {s : AS} (hok : okS s) (h2 : s.1 = 2) {e i : Nat} (he : s.2.2.2.1 = e + 1) (hc0 : s.2.2.2.2.2.1 e = 0) (hi : i ≤ n) {ns nc no : Nat → Int32} (hA : AMr s.2.2.2 ns nc no) :
    ∃ q, f_RF_readOperations 400 16 128 (nI n) (nI i) mt nc no (nI e) = some q ∧ ((q.1 = 0 ∧ ∃ p, p ≤ n ∧ q.2.1 = nI p ∧ scanF t n (n - i) s = Sum.inl p) ∨ (q.1 = 1 ∧ ∃ i' s', i' ≤ n ∧ q.2.1 = nI i' ∧ okS s' ∧ s'.1 = 1 ∧ s'.2.2.2.1 = e + 1 ∧ AMr s'.2.2.2 ns q.2.2.1 q.2.2.2 ∧ scanF t n (n - i) s = scanF t n (n - i') s')) := by
  have h16 := hok.2.2.2.1
  obtain ⟨p, c, l1, l2, l3, l4, l5, l6, l7, l8, l9⟩ := look hn ht hm hi
  have hsc := l7 s (Or.inl (by omega))
  have hno : upd nc e 0 = nc := by
    funext j
    by_cases q : j = e
    · rw [q, upd_s, (hA e (by omega)).2.1, hc0]; rfl
    · rw [upd_n q]
  unfold f_RF_readOperations f_RF_readOperations_14
  rw [l5, Option.bind_some]
  dsimp only
  rw [inB_nI (by omega) (by decide), if_pos rfl, if_pos rfl, nI_clamp (by omega), hno, nI_1]
  have c40 : (cI c = (40 : Int32)) ↔ c = 40 := cI_eq l3 (by decide)
  by_cases h40 : c = 40
  · rw [if_pos (c40.mpr h40), if_neg nz1]
    have hp : p < n := by
      by_cases q : p = n
      · have := l4.mpr q; omega
      · omega
    have es : stepS s c = some (3, s.2.1, s.2.2.1, s.2.2.2) := by
      unfold stepS
      rw [if_neg (by omega), if_pos h2, if_pos h40]
    rw [es] at hsc
    dsimp only at hsc
    have ok3 := ok_step hok es
    rw [hsc]
    generalize hR : scanF t n (n - (p + 1)) (3, s.2.1, s.2.2.1, s.2.2.2) = R
    refine lp_Q (I := fun k (st : Int32 × (Nat → Int32) × (Nat → Int32) × Int32 × Int32) =>
        (st.2.2.2.1 = 1 ∧ st.2.2.2.2 = 1 ∧ ∃ i' s', i' ≤ n ∧ st.1 = nI i' ∧ okS s' ∧ s'.1 = 3 ∧ s'.2.2.2.1 = e + 1 ∧ s'.2.2.2.2.2.1 e = k ∧ AMr s'.2.2.2 ns st.2.1 st.2.2.1 ∧ scanF t n (n - i') s' = R)
        ∨ (st.2.2.2.1 = 0 ∧ st.2.2.2.2 = 0 ∧ ∃ p, p ≤ n ∧ st.1 = nI p ∧ R = Sum.inl p)
        ∨ (st.2.2.2.1 = 0 ∧ st.2.2.2.2 = 1 ∧ ∃ i' s' c', i' ≤ n ∧ st.1 = nI i' ∧ okS s' ∧ s'.1 = 5 ∧ s'.2.2.2.1 = e + 1 ∧ AMr s'.2.2.2 ns st.2.1 st.2.2.1 ∧ scanF t n (n - i') s' = R ∧ Look n t mt i' i' c' ∧ c' ≠ 44)) 9
      (fun (y : Option (Int32 × Int32 × (Nat → Int32) × (Nat → Int32))) => ∃ q, y = some q ∧ ((q.1 = 0 ∧ ∃ p, p ≤ n ∧ q.2.1 = nI p ∧ R = Sum.inl p) ∨ (q.1 = 1 ∧ ∃ i' s', i' ≤ n ∧ q.2.1 = nI i' ∧ okS s' ∧ s'.1 = 1 ∧ s'.2.2.2.1 = e + 1 ∧ AMr s'.2.2.2 ns q.2.2.1 q.2.2.2 ∧ R = scanF t n (n - i') s'))) ?_ ?_ 100000 0 (nI (p + 1), nc, no, 1, 1) (Nat.zero_le _) (by omega) (Or.inl ⟨rfl, rfl, p + 1, (3, s.2.1, s.2.2.1, s.2.2.2), by omega, rfl, ok3, rfl, he, hc0, hA, hR⟩)
    · rintro k ⟨pl, nc, no, mo, go⟩ rec hk hI
      dsimp only at hI
      rcases hI with ⟨e1, e2, i', s', i1, i2, i3, i4, i5, i6, i7, i8⟩ | ⟨e1, e2, p', p1, p2, p3⟩ | ⟨e1, e2, i', s', c', i1, i2, i3, i4, i5, i7, i8, i9, i10⟩
      · subst e1 e2 i2
        left
        obtain ⟨p, c, l1, l2, l3, l4, l5, l6, l7, l8, l9⟩ := look hn ht hm i1
        have hsc := l7 s' (Or.inl (by omega))
        rw [i8] at hsc
        obtain ⟨_, _, n3⟩ := i7 e (by omega)
        have nce := (i7 e (by omega)).2.1
        rw [i6] at nce
        unfold g_RF_readOperations_45
        dsimp only
        rw [if_neg nz1, l5, Option.bind_some]
        dsimp only
        have c119 : (cI c = (119 : Int32)) ↔ c = 119 := cI_eq l3 (by decide)
        have c114 : (cI c = (114 : Int32)) ↔ c = 114 := cI_eq l3 (by decide)
        have k8 : k ≤ 8 := by
          have := (i3.2.2.2.2.1 e (by omega)).2.1
          omega
        have bad : stepS s' c = none → ∃ st', ((st'.2.2.2.1 = 1 ∧ st'.2.2.2.2 = 1 ∧ ∃ i' s', i' ≤ n ∧ st'.1 = nI i' ∧ okS s' ∧ s'.1 = 3 ∧ s'.2.2.2.1 = e + 1 ∧ s'.2.2.2.2.2.1 e = k + 1 ∧ AMr s'.2.2.2 ns st'.2.1 st'.2.2.1 ∧ scanF t n (n - i') s' = R)
        ∨ (st'.2.2.2.1 = 0 ∧ st'.2.2.2.2 = 0 ∧ ∃ p, p ≤ n ∧ st'.1 = nI p ∧ R = Sum.inl p)
        ∨ (st'.2.2.2.1 = 0 ∧ st'.2.2.2.2 = 1 ∧ ∃ i' s' c', i' ≤ n ∧ st'.1 = nI i' ∧ okS s' ∧ s'.1 = 5 ∧ s'.2.2.2.1 = e + 1 ∧ AMr s'.2.2.2 ns st'.2.1 st'.2.2.1 ∧ scanF t n (n - i') s' = R ∧ Look n t mt i' i' c' ∧ c' ≠ 44)) ∧ rec (nI p, nc, no, 0, 0) = rec st' := by
          intro hs
          rw [hs] at hsc
          exact ⟨(nI p, nc, no, 0, 0), Or.inr (Or.inl ⟨rfl, rfl, p, l2, rfl, hsc⟩), rfl⟩
        have e69 : ∀ x4, f_RF_readOperations_69 400 16 128 (nI n) (nI p) mt nc no (nI e) x4 rec = if k < 8 then f_RF_readOperations_85 400 16 128 (nI n) (nI p) mt nc no 1 (nI e) x4 rec else rec (nI p, nc, no, 0, 0) := by
          intro x4
          unfold f_RF_readOperations_69
          rw [inB_nI (by omega) (by decide), if_pos rfl, nI_clamp (by omega), nce, rop_fail]
          by_cases q : k < 8
          · rw [if_pos q, if_neg (fun r => by have : 8 ≤ k := (nI_geL (by omega) (by decide)).mp r; omega)]
          · rw [if_neg q, if_pos ((nI_geL (by omega) (by decide)).mpr (show 8 ≤ k by omega))]
        by_cases hwr : (c = 119 ∨ c = 114) ∧ k < 8
        · have hp : p < n := by
            by_cases q : p = n
            · have := l4.mpr q; omega
            · omega
          have es : stepS s' c = some (4, s'.2.1, if c = 114 then 2 else 0, s'.2.2.2) := by
            unfold stepS
            rw [if_neg (by omega), if_neg (by omega), if_pos i4, if_pos ⟨hwr.1, by rw [i5, Nat.add_sub_cancel, i6]; exact hwr.2⟩]
          rw [es] at hsc
          dsimp only at hsc
          have ok4 := ok_step i3 es
          have e85 : (if cI c = 119 then f_RF_readOperations_69 400 16 128 (nI n) (nI p) mt nc no (nI e) (cI c) rec else if cI c = 114 then f_RF_readOperations_69 400 16 128 (nI n) (nI p) mt nc no (nI e) (cI c) rec else f_RF_readOperations_84 400 16 128 (nI n) (nI p) mt nc no (nI e) (cI c) rec) = f_RF_readOperations_85 400 16 128 (nI n) (nI p) mt nc no 1 (nI e) (cI c) rec := by
            rw [e69, if_pos hwr.2]
            by_cases q : c = 119
            · rw [if_pos (c119.mpr q)]
            · rw [if_neg (fun r => q (c119.mp r)), if_pos (c114.mpr (by omega))]
          rw [e85]
          obtain ⟨p2, c2, m1, m2, m3, m4, m5, m6, m7, m8, m9⟩ := look hn ht hm (show p + 1 ≤ n by omega)
          have hsc2 := m7 (4, s'.2.1, if c = 114 then 2 else 0, s'.2.2.2) (Or.inl (show 4 ≠ 1 by omega))
          rw [← hsc] at hsc2
          have c48 : (cI c2 = (48 : Int32)) ↔ c2 = 48 := cI_eq m3 (by decide)
          have c49 : (cI c2 = (49 : Int32)) ↔ c2 = 49 := cI_eq m3 (by decide)
          unfold f_RF_readOperations_85 f_RF_readOperations_104
          rw [if_neg nz1, if_neg nz1, nI_1, m5, Option.bind_some]
          dsimp only
          unfold f_RF_readOperations_119 f_RF_readOperations_135 f_RF_readOperations_140
          rw [if_neg nz1, if_neg nz1, if_neg nz1, if_pos (show (0 : Int32) = 0 from rfl), rop_155]
          by_cases h01 : c2 = 48 ∨ c2 = 49
          · have hp2 : p2 < n := by
              by_cases q : p2 = n
              · have := m4.mpr q; omega
              · omega
            have es2 : stepS (4, s'.2.1, if c = 114 then 2 else 0, s'.2.2.2) c2 = some (5, s'.2.1, if c = 114 then 2 else 0, addOp s'.2.2.2 ((if c = 114 then 2 else 0) + (c2 - 48))) := by
              unfold stepS
              rw [if_neg (show ¬ 4 ≤ 1 by omega), if_neg (show ¬ 4 = 2 by omega), if_neg (show ¬ 4 = 3 by omega), if_pos (show 4 = 4 from rfl), if_pos h01]
            rw [es2] at hsc2
            dsimp only at hsc2
            have ok5 := ok_step ok4 es2
            have e140 : ∀ (u : Option (Int32 × Int32 × (Nat → Int32) × (Nat → Int32))) (v : Option (Int32 × Int32 × (Nat → Int32) × (Nat → Int32))), (if cI c2 = 48 then u else if cI c2 = 49 then u else v) = u := by
              intro u v
              rcases h01 with q | q
              · rw [if_pos (c48.mpr q)]
              · rw [if_neg (fun r => by have := c48.mp r; omega), if_pos (c49.mpr q)]
            rw [e140]
            unfold f_RF_readOperations_156 f_RF_readOperations_175
            rw [if_neg nz1, if_neg nz1, inB_nI (by omega) (by decide), if_pos rfl, nI_1, nI_clamp (by omega), nce, show (8 : Int32) * nI e = nI (8 * e) from pk_mul 8 e, nI_add]
            have hc2 : c2 < 256 := by omega
            have e209 : ∀ z : Nat, z ≤ 2 → f_RF_readOperations_209 400 16 128 (nI n) (nI (p2 + 1)) mt nc no (nI (8 * e + k)) (nI z) (nI e) 1 (cI c2) rec = f_RF_readOperations_226 400 (nI n) (nI (p2 + 1)) mt (upd nc e (nI (k + 1))) (upd no (8 * e + k) (nI (z + (c2 - 48)))) 1 rec := by
              intro z hz
              unfold f_RF_readOperations_209
              rw [inB_nI (by omega) (by decide), if_pos rfl, inB_nI (by omega) (by decide), if_pos rfl, if_pos rfl, nI_clamp (by omega), nI_clamp (by omega), nce, nI_1, cI_lt hc2, nI_add, show nI (z + c2) - 48 = nI (z + (c2 - 48)) by rw [show z + (c2 - 48) = z + c2 - 48 by omega]; exact pk_sub (b := 48) (by omega)]
            have e175 : (if cI c = 114 then f_RF_readOperations_209 400 16 128 (nI n) (nI (p2 + 1)) mt nc no (nI (8 * e + k)) 2 (nI e) 1 (cI c2) rec else f_RF_readOperations_209 400 16 128 (nI n) (nI (p2 + 1)) mt nc no (nI (8 * e + k)) 0 (nI e) 1 (cI c2) rec) = f_RF_readOperations_226 400 (nI n) (nI (p2 + 1)) mt (upd nc e (nI (k + 1))) (upd no (8 * e + k) (nI ((if c = 114 then 2 else 0) + (c2 - 48)))) 1 rec := by
              by_cases q : c = 114
              · rw [if_pos (c114.mpr q), if_pos q]; exact e209 2 (by omega)
              · rw [if_neg (fun r => q (c114.mp r)), if_neg q]; exact e209 0 (by omega)
            rw [e175]
            have hcn : s'.2.2.2.2.2.1 (s'.2.2.2.1 - 1) = k := by rw [i5, Nat.add_sub_cancel, i6]
            have hA' : AMr (addOp s'.2.2.2 ((if c = 114 then 2 else 0) + (c2 - 48))) ns (upd nc e (nI (k + 1))) (upd no (8 * e + k) (nI ((if c = 114 then 2 else 0) + (c2 - 48)))) := by
              have := AMr_op (o := (if c = 114 then 2 else 0) + (c2 - 48)) i7 (by omega) (by rw [hcn]; exact hwr.2) (fun d hd => (i3.2.2.2.2.1 d hd).2.1)
              rw [hcn, i5, Nat.add_sub_cancel] at this
              exact this
            have hck : (addOp s'.2.2.2 ((if c = 114 then 2 else 0) + (c2 - 48))).2.2.1 e = k + 1 := by
              show updN s'.2.2.2.2.2.1 (s'.2.2.2.1 - 1) (s'.2.2.2.2.2.1 (s'.2.2.2.1 - 1) + 1) e = k + 1
              rw [hcn, i5, Nat.add_sub_cancel, updN_s]
            obtain ⟨p3, c3, q1, q2, q3, q4, q5, q6, q7, q8, q9⟩ := look hn ht hm (show p2 + 1 ≤ n by omega)
            have c44 : (cI c3 = (44 : Int32)) ↔ c3 = 44 := cI_eq q3 (by decide)
            unfold f_RF_readOperations_226 f_RF_readOperations_243 f_RF_readOperations_244
            rw [if_neg nz1, q5, Option.bind_some]
            dsimp only
            by_cases h44 : c3 = 44
            · have hp3 : p3 < n := by
                by_cases q : p3 = n
                · have := q4.mpr q; omega
                · omega
              have es3 : stepS (5, s'.2.1, if c = 114 then 2 else 0, addOp s'.2.2.2 ((if c = 114 then 2 else 0) + (c2 - 48))) c3 = some (3, s'.2.1, if c = 114 then 2 else 0, addOp s'.2.2.2 ((if c = 114 then 2 else 0) + (c2 - 48))) := by
                unfold stepS
                rw [if_neg (show ¬ 5 ≤ 1 by omega), if_neg (show ¬ 5 = 2 by omega), if_neg (show ¬ 5 = 3 by omega), if_neg (show ¬ 5 = 4 by omega), if_pos h44]
              have hsc3 := q7 (5, s'.2.1, if c = 114 then 2 else 0, addOp s'.2.2.2 ((if c = 114 then 2 else 0) + (c2 - 48))) (Or.inl (show 5 ≠ 1 by omega))
              rw [← hsc2, es3] at hsc3
              rw [if_pos (c44.mpr h44), if_neg nz1, nI_1]
              exact ⟨_, Or.inl ⟨rfl, rfl, p3 + 1, _, by omega, rfl, ok_step ok5 es3, rfl, i5, hck, hA', hsc3.symm⟩, rfl⟩
            · rw [if_neg (fun r => h44 (c44.mp r)), if_pos (show (0 : Int32) = 0 from rfl)]
              refine ⟨_, Or.inr (Or.inr ⟨rfl, rfl, p3, _, c3, q2, rfl, ok5, rfl, i5, hA', ?_, ⟨Nat.le_refl _, q2, q3, q4, q6, q6, ?_, ?_, fun _ => rfl⟩, h44⟩), rfl⟩
              · rw [← q9]; exact hsc2.symm
              · intro s hs; rw [← q9]; exact q7 s hs
              · intro s h1 h2; rw [← q9]; exact q8 s h1 h2
          · have es2 : stepS (4, s'.2.1, if c = 114 then 2 else 0, s'.2.2.2) c2 = none := by
              unfold stepS
              rw [if_neg (show ¬ 4 ≤ 1 by omega), if_neg (show ¬ 4 = 2 by omega), if_neg (show ¬ 4 = 3 by omega), if_pos (show 4 = 4 from rfl), if_neg h01]
            rw [es2] at hsc2
            rw [if_neg (fun r => h01 (Or.inl (c48.mp r))), if_neg (fun r => h01 (Or.inr (c49.mp r)))]
            exact ⟨(nI p2, nc, no, 0, 0), Or.inr (Or.inl ⟨rfl, rfl, p2, m2, rfl, hsc2⟩), rfl⟩
        · have hs : stepS s' c = none := by
            unfold stepS
            rw [if_neg (by omega), if_neg (by omega), if_pos i4, if_neg (by rw [i5, Nat.add_sub_cancel, i6]; exact hwr)]
          have e69' : (if cI c = 119 then f_RF_readOperations_69 400 16 128 (nI n) (nI p) mt nc no (nI e) (cI c) rec else if cI c = 114 then f_RF_readOperations_69 400 16 128 (nI n) (nI p) mt nc no (nI e) (cI c) rec else f_RF_readOperations_84 400 16 128 (nI n) (nI p) mt nc no (nI e) (cI c) rec) = rec (nI p, nc, no, 0, 0) := by
            rw [e69, rop_fail]
            by_cases q : c = 119
            · rw [if_pos (c119.mpr q), if_neg (fun r => hwr ⟨Or.inl q, r⟩)]
            · rw [if_neg (fun r => q (c119.mp r))]
              by_cases q' : c = 114
              · rw [if_pos (c114.mpr q'), if_neg (fun r => hwr ⟨Or.inr q', r⟩)]
              · rw [if_neg (fun r => q' (c114.mp r))]
          rw [e69']
          exact bad hs
      · subst e1 e2 p2
        right
        exact ⟨(0, nI p', nc, no), rfl, Or.inl ⟨rfl, p', p1, rfl, p3⟩⟩
      · subst e1 e2 i2
        right
        obtain ⟨l1, l2, l3, l4, l5, l6, l7, l8, l9⟩ := i9
        have hsc := l7 s' (Or.inl (by omega))
        rw [i8] at hsc
        have c41 : (cI c' = (41 : Int32)) ↔ c' = 41 := cI_eq l3 (by decide)
        unfold g_RF_readOperations_45 f_RF_readOperations_286
        dsimp only
        rw [if_pos (show (0 : Int32) = 0 from rfl), if_neg nz1, l5, Option.bind_some]
        dsimp only
        by_cases h41 : c' = 41
        · have es : stepS s' c' = some (1, s'.2.1, s'.2.2.1, s'.2.2.2) := by
            unfold stepS
            rw [if_neg (by omega), if_neg (by omega), if_neg (by omega), if_neg (by omega), if_neg i10, if_pos h41]
          have hp : i' < n := by
            by_cases q : i' = n
            · have := l4.mpr q; omega
            · omega
          rw [es] at hsc
          rw [if_pos (c41.mpr h41), nI_1]
          exact ⟨_, rfl, Or.inr ⟨rfl, i' + 1, _, by omega, rfl, ok_step i3 es, rfl, i5, i7, hsc⟩⟩
        · have es : stepS s' c' = none := by
            unfold stepS
            rw [if_neg (by omega), if_neg (by omega), if_neg (by omega), if_neg (by omega), if_neg i10, if_neg h41]
          rw [es] at hsc
          rw [if_neg (fun r => h41 (c41.mp r))]
          exact ⟨_, rfl, Or.inl ⟨rfl, i', i1, rfl, hsc⟩⟩
    · rintro ⟨pl, nc, no, mo, go⟩ rec hI
      dsimp only at hI
      rcases hI with ⟨e1, e2, i', s', i1, i2, i3, i4, i5, i6, i7, i8⟩ | ⟨e1, e2, p', p1, p2, p3⟩ | ⟨e1, e2, i', s', c', i1, i2, i3, i4, i5, i7, i8, i9, i10⟩
      · have := (i3.2.2.2.2.1 e (by omega)).2.1
        omega
      · subst e1 e2 p2
        exact ⟨(0, nI p', nc, no), rfl, Or.inl ⟨rfl, p', p1, rfl, p3⟩⟩
      · subst e1 e2 i2
        obtain ⟨l1, l2, l3, l4, l5, l6, l7, l8, l9⟩ := i9
        have hsc := l7 s' (Or.inl (by omega))
        rw [i8] at hsc
        have c41 : (cI c' = (41 : Int32)) ↔ c' = 41 := cI_eq l3 (by decide)
        unfold g_RF_readOperations_45 f_RF_readOperations_286
        dsimp only
        rw [if_pos (show (0 : Int32) = 0 from rfl), if_neg nz1, l5, Option.bind_some]
        dsimp only
        by_cases h41 : c' = 41
        · have es : stepS s' c' = some (1, s'.2.1, s'.2.2.1, s'.2.2.2) := by
            unfold stepS
            rw [if_neg (by omega), if_neg (by omega), if_neg (by omega), if_neg (by omega), if_neg i10, if_pos h41]
          have hp : i' < n := by
            by_cases q : i' = n
            · have := l4.mpr q; omega
            · omega
          rw [es] at hsc
          rw [if_pos (c41.mpr h41), nI_1]
          exact ⟨_, rfl, Or.inr ⟨rfl, i' + 1, _, by omega, rfl, ok_step i3 es, rfl, i5, i7, hsc⟩⟩
        · have es : stepS s' c' = none := by
            unfold stepS
            rw [if_neg (by omega), if_neg (by omega), if_neg (by omega), if_neg (by omega), if_neg i10, if_neg h41]
          rw [es] at hsc
          rw [if_neg (fun r => h41 (c41.mp r))]
          exact ⟨_, rfl, Or.inl ⟨rfl, i', i1, rfl, hsc⟩⟩
  · rw [if_neg (fun r => h40 (c40.mp r)), if_pos (show (0 : Int32) = 0 from rfl)]
    have es : stepS s c = none := by
      unfold stepS
      rw [if_neg (by omega), if_pos h2, if_neg h40]
    rw [es] at hsc
    exact ⟨(0, nI p, nc, no), rfl, Or.inl ⟨rfl, p, l2, rfl, hsc⟩⟩
end RRD
