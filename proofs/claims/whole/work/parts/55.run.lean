abbrev Fail : Type := Nat × Nat × Nat × Nat
abbrev RSt : Type := (Mem × (Nat → Bool)) × List Fail
abbrev Ctx : Type := FL × Nat × Nat × Nat × (Nat → Nat) × Nat
abbrev MA : Type := Nat × (Nat → Nat) × (Nat → Nat) × (Nat → Nat → Nat)
def opA (c : Ctx) (p o : Nat) (q : Mem × (Nat → Bool)) : (Mem × (Nat → Bool)) × Nat :=
  if o < 2 then ((writeM c.1 c.2.1 (c.2.2.2.2.1 p) (fun b => decide (o = 1) != gr c.2.2.2.1 (c.2.2.2.2.1 p) b) q.1, q.2), 0)
  else ((if c.2.2.2.2.2 = 2 then readM c.1 c.2.1 (c.2.2.2.2.1 ((p + 1) % c.2.2.1)) (readM c.1 c.2.1 (c.2.2.2.2.1 p) q) else readM c.1 c.2.1 (c.2.2.2.2.1 p) q), wrN (readM c.1 c.2.1 (c.2.2.2.2.1 p) q).2 (fun b => decide (o = 3) != gr c.2.2.2.1 (c.2.2.2.2.1 p) b) c.2.1)
def stepA (c : Ctx) (a : MA) (e p k : Nat) (st : RSt) : RSt :=
  ((opA c p (a.2.2.2 e k) st.1).1, if (opA c p (a.2.2.2 e k) st.1).2 = 0 then st.2 else st.2 ++ [(e, k, c.2.2.2.2.1 p, (opA c p (a.2.2.2 e k) st.1).2)])
def opsA (c : Ctx) (a : MA) (e p : Nat) (st : RSt) : Nat → RSt
  | 0 => st
  | k + 1 => stepA c a e p k (opsA c a e p st k)
def plA (c : Ctx) (a : MA) (e i : Nat) : Nat := if a.2.1 e = 1 then c.2.2.1 - 1 - i else i
def elA (c : Ctx) (a : MA) (e : Nat) (st : RSt) : Nat → RSt
  | 0 => st
  | i + 1 => opsA c a e (plA c a e i) (elA c a e st i) (a.2.2.1 e)
def runA (c : Ctx) (a : MA) (st : RSt) : Nat → RSt
  | 0 => st
  | e + 1 => if a.2.1 e = 2 then ((pauseM c.1 (runA c a st e).1.1, (runA c a st e).1.2), (runA c a st e).2) else elA c a e (runA c a st e) c.2.2.1
theorem step_mono (c : Ctx) (a : MA) (e p k : Nat) (st : RSt) : st.2.length ≤ (stepA c a e p k st).2.length := by
  unfold stepA
  split <;> simp
theorem ops_mono (c : Ctx) (a : MA) (e p : Nat) (st : RSt) : ∀ k, st.2.length ≤ (opsA c a e p st k).2.length
  | 0 => Nat.le_refl _
  | k + 1 => Nat.le_trans (ops_mono c a e p st k) (step_mono c a e p k _)
theorem ops_mono2 (c : Ctx) (a : MA) (e p : Nat) (st : RSt) {k : Nat} : ∀ {n}, k ≤ n → (opsA c a e p st k).2.length ≤ (opsA c a e p st n).2.length
  | 0, h => by rw [show k = 0 by omega]; exact Nat.le_refl _
  | n + 1, h => by
    by_cases e1 : k = n + 1
    · rw [e1]; exact Nat.le_refl _
    · exact Nat.le_trans (ops_mono2 c a e p st (by omega : k ≤ n)) (step_mono c a e p n _)
theorem el_mono (c : Ctx) (a : MA) (e : Nat) (st : RSt) {k : Nat} : ∀ {n}, k ≤ n → (elA c a e st k).2.length ≤ (elA c a e st n).2.length
  | 0, h => by rw [show k = 0 by omega]; exact Nat.le_refl _
  | n + 1, h => by
    by_cases e1 : k = n + 1
    · rw [e1]; exact Nat.le_refl _
    · exact Nat.le_trans (el_mono c a e st (by omega : k ≤ n)) (ops_mono c a e _ _ _)
theorem run_mono (c : Ctx) (a : MA) (st : RSt) {k : Nat} : ∀ {n}, k ≤ n → (runA c a st k).2.length ≤ (runA c a st n).2.length
  | 0, h => by rw [show k = 0 by omega]; exact Nat.le_refl _
  | n + 1, h => by
    by_cases e1 : k = n + 1
    · rw [e1]; exact Nat.le_refl _
    · refine Nat.le_trans (run_mono c a st (by omega : k ≤ n)) ?_
      show _ ≤ (if a.2.1 n = 2 then ((pauseM c.1 (runA c a st n).1.1, (runA c a st n).1.2), (runA c a st n).2) else elA c a n (runA c a st n) c.2.2.1).2.length
      by_cases h9 : a.2.1 n = 2
      · rw [if_pos h9]; exact Nat.le_refl _
      · rw [if_neg h9]; exact el_mono c a n _ (Nat.zero_le _)
def MAok (a : MA) : Prop := a.1 ≤ 16 ∧ ∀ e, e < a.1 → a.2.1 e ≤ 2 ∧ (a.2.1 e ≠ 2 → 0 < a.2.2.1 e) ∧ a.2.2.1 e ≤ 8 ∧ ∀ k, k < a.2.2.1 e → a.2.2.2 e k < 4
def AM (a : MA) (elements : Int32) (sorts counts operations : Nat → Int32) : Prop := elements = nI a.1 ∧ ∀ e, e < a.1 → sorts e = nI (a.2.1 e) ∧ counts e = nI (a.2.2.1 e) ∧ ∀ k, k < a.2.2.1 e → operations (8 * e + k) = nI (a.2.2.2 e k)
def frA (a : MA) : Nat → Nat
  | 0 => 0
  | e + 1 => frA a e + (if a.2.1 e = 2 then 1 else a.2.2.1 e)
def rowA (s o : Nat) (l : Bool) : Nat := s + (if 2 ≤ o then 2 else 0) + (o % 2) * 4 + (if l then 8 else 0)
def AX (a : MA) (elements rowCount : Int32) (firstRows rows : Nat → Int32) : Prop := elements = nI a.1 ∧ rowCount = nI (frA a a.1) ∧ (∀ e, e ≤ a.1 → firstRows e = nI (frA a e)) ∧ ∀ e, e < a.1 → (a.2.1 e = 2 → rows (frA a e) = nI 24) ∧ (a.2.1 e ≠ 2 → ∀ k, k < a.2.2.1 e → rows (frA a e + k) = nI (rowA (a.2.1 e) (a.2.2.2 e k) (decide (k + 1 = a.2.2.1 e))))
theorem fr_le {a : MA} (h : MAok a) : ∀ e, e ≤ a.1 → frA a e ≤ 8 * e
  | 0, _ => Nat.le_refl _
  | e + 1, h1 => by
    have := fr_le h e (by omega)
    have h2 := (h.2 e (by omega)).2.2.1
    unfold frA
    split <;> omega
def FA (cnt : Int32) (arr : Nat → Int32) (fl : List Fail) : Prop := cnt = nI (min fl.length 300) ∧ ∀ k x, fl[k]? = some x → k < 300 → arr (4 * k) = nI x.1 ∧ arr (4 * k + 1) = nI x.2.1 ∧ arr (4 * k + 2) = nI x.2.2.1 ∧ arr (4 * k + 3) = nI x.2.2.2
theorem FA_full {cnt : Int32} {arr : Nat → Int32} {fl : List Fail} {x : Fail} (h : FA cnt arr fl) (hl : 300 ≤ fl.length) : FA cnt arr (fl ++ [x]) := by
  refine ⟨by rw [h.1]; congr 1; simp; omega, fun k y hk h3 => h.2 k y ?_ h3⟩
  rw [List.getElem?_append_left (by omega)] at hk
  exact hk
theorem FA_push {cnt : Int32} {arr : Nat → Int32} {fl : List Fail} {e k w x : Nat} (h : FA cnt arr fl) (hl : fl.length < 300) : FA (nI (fl.length + 1)) (upd (upd (upd (upd arr (4 * fl.length) (nI e)) (4 * fl.length + 1) (nI k)) (4 * fl.length + 2) (nI w)) (4 * fl.length + 3) (nI x)) (fl ++ [(e, k, w, x)]) := by
  refine ⟨by congr 1; simp; omega, fun j y hj h3 => ?_⟩
  by_cases e1 : j < fl.length
  · rw [List.getElem?_append_left e1] at hj
    obtain ⟨a1, a2, a3, a4⟩ := h.2 j y hj h3
    simp only [upd]
    refine ⟨?_, ?_, ?_, ?_⟩
    · rw [if_neg (by omega), if_neg (by omega), if_neg (by omega), if_neg (by omega)]; exact a1
    · rw [if_neg (by omega), if_neg (by omega), if_neg (by omega), if_neg (by omega)]; exact a2
    · rw [if_neg (by omega), if_neg (by omega), if_neg (by omega), if_neg (by omega)]; exact a3
    · rw [if_neg (by omega), if_neg (by omega), if_neg (by omega), if_neg (by omega)]; exact a4
  · have h4 : j < fl.length + 1 := by
      have := (List.getElem?_eq_some_iff.mp hj).1
      simpa using this
    have h5 : j = fl.length := by omega
    subst h5
    rw [List.getElem?_append_right (Nat.le_refl _)] at hj
    simp at hj
    subst hj
    simp only [upd]
    refine ⟨?_, ?_, ?_, ?_⟩
    · rw [if_neg (by omega), if_neg (by omega), if_neg (by omega), if_pos trivial]
    · rw [if_neg (by omega), if_neg (by omega), if_pos trivial]
    · rw [if_neg (by omega), if_pos trivial]
    · rw [if_pos trivial]
def KP (keep : Bool) (c0 : Int32) (f0 : Nat → Int32) (cnt : Int32) (arr : Nat → Int32) (fl : List Fail) : Prop := if keep then FA cnt arr fl else cnt = c0 ∧ arr = f0
theorem r_fail {keep : Bool} {c0 cnt : Int32} {f0 arr : Nat → Int32} {fl : List Fail} (h : KP keep c0 f0 cnt arr fl) {e k w x : Nat} (hx : x < 16) :
    ∃ cnt' arr', f_RF_fail 1200 cnt (b2 keep) (b2 (!fl.isEmpty)) arr (nI e) (nI k) (nI w) (nI x) = some (cnt', b2 (!(if x = 0 then fl else fl ++ [(e, k, w, x)]).isEmpty), arr') ∧ KP keep c0 f0 cnt' arr' (if x = 0 then fl else fl ++ [(e, k, w, x)]) := by
  unfold f_RF_fail
  by_cases h0 : x = 0
  · refine ⟨cnt, arr, ?_, by rw [if_pos h0]; exact h⟩
    simp +decide (disch := first | omega | decide) only [↓reduceIte, Option.bind_some, nI_clamp, inB_nI, inB_z, cl_z, nI_eqL, nI_leL, nI_ltL, nI_geL, nI_gtL, nI_leI, nI_ltI, nI_eq, nI_1, nI_addL, nI_add, h0]
  · have hx0 : ¬ x ≤ 0 := by omega
    have hne : (!(fl ++ [(e, k, w, x)]).isEmpty) = true := by simp
    rw [if_neg h0, hne]
    cases keep
    · refine ⟨cnt, arr, ?_, h⟩
      simp +decide (disch := first | omega | decide) only [↓reduceIte, Option.bind_some, nI_clamp, inB_nI, inB_z, cl_z, nI_eqL, nI_leL, nI_ltL, nI_geL, nI_gtL, nI_leI, nI_ltI, nI_eq, nI_1, nI_addL, nI_add, hx0, b2_0]
      rfl
    · have h' : FA cnt arr fl := h
      obtain ⟨rfl, h2⟩ := id h'
      by_cases hl : 300 ≤ fl.length
      · refine ⟨_, arr, ?_, FA_full h' hl⟩
        rw [show min fl.length 300 = 300 by omega]
        simp +decide (disch := first | omega | decide) only [↓reduceIte, Option.bind_some, nI_clamp, inB_nI, inB_z, cl_z, nI_eqL, nI_leL, nI_ltL, nI_geL, nI_gtL, nI_leI, nI_ltI, nI_eq, nI_1, nI_addL, nI_add, hx0, b2_0, Bool.true_eq_false]
        rfl
      · rw [show min fl.length 300 = fl.length by omega] at h' ⊢
        refine ⟨_, _, ?_, FA_push h' (by omega)⟩
        have h4 : (4 : Int32) * nI fl.length = nI (4 * fl.length) := pk_mul 4 fl.length
        simp +decide (disch := first | omega | decide) only [↓reduceIte, Option.bind_some, nI_clamp, inB_nI, inB_z, cl_z, nI_eqL, nI_leL, nI_ltL, nI_geL, nI_gtL, nI_leI, nI_ltI, nI_eq, nI_1, nI_addL, nI_add, hx0, b2_0, hl, h4, Bool.true_eq_false]
        rfl
theorem m_add {cnt : Int32} {arr : Nat → Int32} {fl : List Fail} (h : FA cnt arr fl) {e k w x : Nat} : ∃ cnt' arr', f_Failures_add 1200 cnt arr (nI e) (nI k) (nI w) (nI x) = some (cnt', arr') ∧ FA cnt' arr' (fl ++ [(e, k, w, x)]) := by
  unfold f_Failures_add
  obtain ⟨rfl, h2⟩ := id h
  by_cases hl : 300 ≤ fl.length
  · refine ⟨_, arr, ?_, FA_full h hl⟩
    rw [show min fl.length 300 = 300 by omega]
    rfl
  · rw [show min fl.length 300 = fl.length by omega] at h ⊢
    refine ⟨_, _, ?_, FA_push h (by omega)⟩
    have h4 : nI fl.length * (4 : Int32) = nI (4 * fl.length) := by rw [show (4 : Int32) = nI 4 from rfl, pk_mul, Nat.mul_comm]
    have hl2 : fl.length < 300 := by omega
    simp +decide (disch := first | omega | decide) only [↓reduceIte, Option.bind_some, nI_clamp, inB_nI, inB_z, cl_z, nI_eqL, nI_leL, nI_ltL, nI_geL, nI_gtL, nI_leI, nI_ltI, nI_eq, nI_1, nI_addL, nI_add, h4, hl2]
