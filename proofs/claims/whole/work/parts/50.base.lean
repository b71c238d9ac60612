theorem lp_Q {σ ρ : Type} {g : (σ → Option ρ) → σ → Option ρ} (I : Nat → σ → Prop) (N : Nat) (Q : Option ρ → Prop)
    (step : ∀ i s rec, i < N → I i s → (∃ s', I (i + 1) s' ∧ g rec s = rec s') ∨ Q (g rec s))
    (done : ∀ s rec, I N s → Q (g rec s)) : ∀ (n i : Nat) (s : σ), i ≤ N → N < i + n → I i s → Q (lp g n s) := by
  intro n
  induction n with
  | zero => intro i s h1 h2; omega
  | succ n ih =>
    intro i s h1 h2 h3
    show Q (g (lp g n) s)
    by_cases hi : i = N
    · subst hi; exact done s _ h3
    · rcases step i s (lp g n) (by omega) h3 with ⟨s', h4, h5⟩ | h4
      · rw [h5]; exact ih (i + 1) s' (by omega) (by omega) h4
      · exact h4
theorem inB_nI {i n : Nat} (h : i < n) (hn : n < 2 ^ 31) : inB (nI i) n = true := by
  unfold inB
  have h1 := nI_pos (n := i) (by omega)
  have h2 := nI_clamp (n := i) (by omega)
  simp only [h1, h2, h, not_false_eq_true, decide_true, Bool.and_self]
theorem inB_z {n : Nat} (h : 0 < n) : inB 0 n = true := by
  unfold inB
  simp only [show ¬ (0 : Int32) < 0 by decide, show Int32.toNatClampNeg 0 = 0 by decide, h, not_false_eq_true, decide_true, Bool.and_self]
theorem nI_z : (0 : Int32) = nI 0 := rfl
theorem cl_z : Int32.toNatClampNeg 0 = 0 := by decide
theorem m1_nI : (-1 : Int32) = nI (2 ^ 32 - 1) := by decide +kernel
theorem nI_bv (a : Nat) : (nI a).toBitVec = BitVec.ofNat 32 a := rfl
theorem nI_and {a b : Nat} : nI a &&& nI b = nI (a &&& b) := by
  apply Int32.toBitVec_inj.mp
  rw [Int32.toBitVec_and, nI_bv, nI_bv, nI_bv]
  apply BitVec.eq_of_getLsbD_eq
  intro i hi
  simp [BitVec.getLsbD_ofNat, hi]
theorem nI_or {a b : Nat} : nI a ||| nI b = nI (a ||| b) := by
  apply Int32.toBitVec_inj.mp
  rw [Int32.toBitVec_or, nI_bv, nI_bv, nI_bv]
  apply BitVec.eq_of_getLsbD_eq
  intro i hi
  simp [BitVec.getLsbD_ofNat, hi]
theorem nI_xor {a b : Nat} : nI a ^^^ nI b = nI (a ^^^ b) := by
  apply Int32.toBitVec_inj.mp
  rw [Int32.toBitVec_xor, nI_bv, nI_bv, nI_bv]
  apply BitVec.eq_of_getLsbD_eq
  intro i hi
  simp [BitVec.getLsbD_ofNat, hi]
theorem nI_eqL {k m : Nat} (hk : k < 2 ^ 31) (hm : m < 2147483648) : (nI k = no_index (OfNat.ofNat m : Int32)) ↔ k = m := nI_eq hk (by omega)
theorem nI_leL {k m : Nat} (hk : k < 2 ^ 31) (hm : m < 2147483648) : (nI k ≤ no_index (OfNat.ofNat m : Int32)) ↔ k ≤ m := nI_leI hk (by omega)
theorem nI_ltL {k m : Nat} (hk : k < 2 ^ 31) (hm : m < 2147483648) : (nI k < no_index (OfNat.ofNat m : Int32)) ↔ k < m := nI_ltI hk (by omega)
theorem nI_geL {k m : Nat} (hk : k < 2 ^ 31) (hm : m < 2147483648) : (no_index (OfNat.ofNat m : Int32) ≤ nI k) ↔ m ≤ k := nI_leI (by omega) hk
theorem nI_gtL {k m : Nat} (hk : k < 2 ^ 31) (hm : m < 2147483648) : (no_index (OfNat.ofNat m : Int32) < nI k) ↔ m < k := nI_ltI (by omega) hk
theorem nI_addL {k m : Nat} : nI k + no_index (OfNat.ofNat m : Int32) = nI (k + m) := nI_add k m
theorem ne_m1 {n : Nat} (h : n < 2 ^ 31) : ¬ nI n = -1 := by
  intro q
  have a := nI_toInt h
  rw [q] at a
  have : (-1 : Int32).toInt = -1 := by decide
  omega
def b2 (v : Bool) : Int32 := if v then 1 else 0
theorem b2_inj {u v : Bool} : b2 u = b2 v ↔ u = v := by cases u <;> cases v <;> decide
theorem b2_0 {u : Bool} : b2 u = 0 ↔ u = false := by cases u <;> decide
theorem b2_1 {u : Bool} : b2 u = 1 ↔ u = true := by cases u <;> decide
theorem b2_n {u : Bool} : 1 - b2 u = b2 (!u) := by cases u <;> decide
theorem upd_s {f : Nat → Int32} {k : Nat} {x : Int32} : upd f k x k = x := if_pos rfl
theorem upd_n {f : Nat → Int32} {k j : Nat} {x : Int32} (h : j ≠ k) : upd f k x j = f j := if_neg h
abbrev Mem : Type := Nat → Nat → Bool
def updM (M : Mem) (w b : Nat) (v : Bool) : Mem := fun w' b' => if w' = w ∧ b' = b then v else M w' b'
def FL : Type := Nat × (Nat → Nat) × (Nat → Nat) × (Nat → Nat) × (Nat → Nat) × (Nat → Nat)
def FL.n (F : FL) : Nat := F.1
def FL.kd (F : FL) : Nat → Nat := F.2.1
def FL.vw (F : FL) : Nat → Nat := F.2.2.1
def FL.vb (F : FL) : Nat → Nat := F.2.2.2.1
def FL.aw (F : FL) : Nat → Nat := F.2.2.2.2.1
def FL.ab (F : FL) : Nat → Nat := F.2.2.2.2.2
def FLok (W B : Nat) (F : FL) : Prop := F.n ≤ 4 ∧ ∀ f, f < F.n → F.kd f ≤ 13 ∧ F.vw f < W ∧ F.vb f < B ∧ (10 ≤ F.kd f → F.aw f < W ∧ F.ab f < B ∧ ¬ (F.aw f = F.vw f ∧ F.ab f = F.vb f))
def FM (B : Nat) (F : FL) (cnt : Int32) (kinds victims others : Nat → Int32) : Prop := cnt = nI F.n ∧ ∀ f, f < F.n → kinds f = nI (F.kd f) ∧ victims f = nI (B * F.vw f + F.vb f) ∧ others f = if 10 ≤ F.kd f then nI (B * F.aw f + F.ab f) else -1
def FX (F : FL) (cnt touched : Int32) (kinds vW vM oW oM : Nat → Int32) : Prop := cnt = nI F.n ∧ (∀ f, f < F.n → kinds f = nI (F.kd f) ∧ vW f = nI (F.vw f) ∧ vM f = nI (2 ^ F.vb f) ∧ oW f = nI (if 10 ≤ F.kd f then F.aw f else F.vw f) ∧ oM f = if 10 ≤ F.kd f then nI (2 ^ F.ab f) else 0)
  ∧ ∃ t, t < 2 ^ 16 ∧ touched = nI t ∧ ∀ w, w < 16 → (t.testBit w = true ↔ ∃ f, f < F.n ∧ (F.vw f = w ∨ (10 ≤ F.kd f ∧ F.aw f = w)))
def RC (W B : Nat) (cells : Nat → Int32) (M : Mem) : Prop := ∀ w b, w < W → b < B → cells (B * w + b) = b2 (M w b)
def RH (W B : Nat) (held : Nat → Int32) (M : Mem) : Prop := ∀ w, w < W → ∃ h, h < 2 ^ B ∧ held w = nI h ∧ ∀ b, b < B → h.testBit b = M w b
theorem ix_inj {B w b w' b' : Nat} (hb : b < B) (hb' : b' < B) : B * w + b = B * w' + b' ↔ w = w' ∧ b = b' := by
  constructor
  · intro h
    have h1 : (B * w + b) / B = w := by rw [Nat.mul_add_div (by omega), Nat.div_eq_of_lt hb]; rfl
    have h2 : (B * w' + b') / B = w' := by rw [Nat.mul_add_div (by omega), Nat.div_eq_of_lt hb']; rfl
    rw [h] at h1
    have : w = w' := by omega
    subst this
    exact ⟨rfl, by omega⟩
  · rintro ⟨rfl, rfl⟩; rfl
theorem ix_lt {W B w b : Nat} (hW : W ≤ 16) (hB : B ≤ 4) (hw : w < W) (hb : b < B) : B * w + b < 64 := by
  have : B * w ≤ B * 15 := Nat.mul_le_mul_left B (by omega)
  omega
theorem RC_upd {W B : Nat} {cells : Nat → Int32} {M : Mem} (h : RC W B cells M) {w b : Nat} (hb : b < B) (v : Bool) : RC W B (upd cells (B * w + b) (b2 v)) (updM M w b v) := by
  intro w' b' hw' hb'
  by_cases e : w' = w ∧ b' = b
  · obtain ⟨rfl, rfl⟩ := e
    rw [upd_s]; simp [updM]
  · rw [upd_n (fun q => e ((ix_inj hb' hb).mp q)), h w' b' hw' hb']; simp [updM, e]
theorem pow_le {b B : Nat} (h : b < B) (hB : B ≤ 4) : 2 ^ b < 2 ^ B ∧ 2 ^ B ≤ 16 := ⟨Nat.pow_lt_pow_right (by decide) h, Nat.pow_le_pow_right (by decide) hB⟩
theorem and_pow (x b : Nat) : x &&& 2 ^ b = if x.testBit b then 2 ^ b else 0 := by
  apply Nat.eq_of_testBit_eq
  intro i
  rw [Nat.testBit_and, Nat.testBit_two_pow]
  by_cases e : b = i
  · subst e; cases h : x.testBit b <;> simp [Nat.testBit_two_pow]
  · cases h : x.testBit b <;> simp [e, Nat.testBit_two_pow]
theorem RH_and {W B : Nat} {held : Nat → Int32} {M : Mem} (h : RH W B held M) {w b : Nat} (hw : w < W) (hb : b < B) (hB : B ≤ 4) : held w &&& nI (2 ^ b) = if M w b then nI (2 ^ b) else 0 := by
  obtain ⟨x, hx, e, ht⟩ := h w hw
  rw [e, nI_and, ← ht b hb, and_pow]
  cases x.testBit b <;> simp [nI_z]
theorem RH_set {W B : Nat} {held : Nat → Int32} {M : Mem} (h : RH W B held M) {w b : Nat} (x : Nat) (v : Bool) (hx : x < 2 ^ B) (hxb : ∀ c, c < B → x.testBit c = if c = b then v else M w c) : RH W B (upd held w (nI x)) (updM M w b v) := by
  intro w' hw'
  by_cases e : w' = w
  · subst e
    refine ⟨x, hx, upd_s, fun c hc => ?_⟩
    rw [hxb c hc]; simp [updM]
  · obtain ⟨y, hy, e1, e2⟩ := h w' hw'
    exact ⟨y, hy, by rw [upd_n e]; exact e1, fun c hc => by rw [e2 c hc]; simp [updM, e]⟩
theorem RH_flip {W B : Nat} {held : Nat → Int32} {M : Mem} (h : RH W B held M) {w b : Nat} (hw : w < W) (hb : b < B) : RH W B (upd held w (held w ^^^ nI (2 ^ b))) (updM M w b (!M w b)) := by
  obtain ⟨x, hx, e, ht⟩ := h w hw
  rw [e, nI_xor]
  refine RH_set h _ _ (Nat.xor_lt_two_pow hx (Nat.pow_lt_pow_right (by decide) hb)) (fun c hc => ?_)
  rw [Nat.testBit_xor, Nat.testBit_two_pow, ht c hc]
  by_cases e : c = b
  · subst e; simp
  · simp [e, show ¬ b = c from fun q => e q.symm]
theorem RH_on {W B : Nat} {held : Nat → Int32} {M : Mem} (h : RH W B held M) {w b : Nat} (hw : w < W) (hb : b < B) : RH W B (upd held w (held w ||| nI (2 ^ b))) (updM M w b true) := by
  obtain ⟨x, hx, e, ht⟩ := h w hw
  rw [e, nI_or]
  refine RH_set h _ _ (Nat.or_lt_two_pow hx (Nat.pow_lt_pow_right (by decide) hb)) (fun c hc => ?_)
  rw [Nat.testBit_or, Nat.testBit_two_pow, ht c hc]
  by_cases e : c = b
  · subst e; simp
  · simp [e, show ¬ b = c from fun q => e q.symm]
theorem RH_off {W B : Nat} {held : Nat → Int32} {M : Mem} (h : RH W B held M) {w b : Nat} (hw : w < W) (hb : b < B) (hB : B ≤ 4) : RH W B (upd held w (held w &&& (nI (2 ^ b) ^^^ (-1)))) (updM M w b false) := by
  obtain ⟨x, hx, e, ht⟩ := h w hw
  rw [e, m1_nI, nI_xor, nI_and]
  refine RH_set h _ _ (Nat.lt_of_le_of_lt Nat.and_le_left hx) (fun c hc => ?_)
  rw [Nat.testBit_and, Nat.testBit_xor, Nat.testBit_two_pow_sub_one, Nat.testBit_two_pow, ht c hc]
  by_cases e : c = b
  · subst e; simp; omega
  · simp [e, show ¬ b = c from fun q => e q.symm]; omega
