def pc (x : Nat) : Nat → Nat
  | 0 => 0
  | n + 1 => pc x n + (x.testBit n).toNat
def rv (x : Nat) : Nat → Nat
  | 0 => 0
  | n + 1 => 2 * rv x n + (x.testBit n).toNat
theorem pc_le (x : Nat) : ∀ n, pc x n ≤ n
  | 0 => Nat.le_refl _
  | n + 1 => by
    have := pc_le x n
    unfold pc
    cases x.testBit n <;> simp <;> omega
theorem rv_lt (x : Nat) : ∀ n, rv x n < 2 ^ n
  | 0 => Nat.one_pos
  | n + 1 => by
    have := rv_lt x n
    unfold rv
    rw [Nat.pow_succ]
    cases x.testBit n <;> simp <;> omega
theorem pc_mono {x y : Nat} : ∀ n, (∀ i, i < n → x.testBit i = true → y.testBit i = true) → pc x n ≤ pc y n
  | 0, _ => Nat.le_refl _
  | n + 1, h => by
    have h1 := pc_mono n (fun i hi => h i (by omega))
    have h2 := h n (by omega)
    unfold pc
    cases hx : x.testBit n <;> cases hy : y.testBit n <;> simp_all <;> omega
theorem pc_eq {x y : Nat} : ∀ n, (∀ i, i < n → x.testBit i = true → y.testBit i = true) → pc x n = pc y n → ∀ i, i < n → x.testBit i = y.testBit i
  | 0, _, _ => fun i hi => by omega
  | n + 1, h, e => by
    have h1 := pc_mono n (fun i hi => h i (by omega))
    have h2 := h n (by omega)
    unfold pc at e
    have e2 : pc x n = pc y n ∧ x.testBit n = y.testBit n := by
      cases hx : x.testBit n <;> cases hy : y.testBit n <;> simp_all <;> omega
    intro i hi
    by_cases q : i = n
    · rw [q]; exact e2.2
    · exact pc_eq n (fun i hi => h i (by omega)) e2.1 i (by omega)
theorem rv_eq {x y : Nat} : ∀ n, rv x n = rv y n → ∀ i, i < n → x.testBit i = y.testBit i
  | 0, _ => fun i hi => by omega
  | n + 1, e => by
    unfold rv at e
    have e2 : rv x n = rv y n ∧ x.testBit n = y.testBit n := by
      cases hx : x.testBit n <;> cases hy : y.testBit n <;> simp_all <;> omega
    intro i hi
    by_cases q : i = n
    · rw [q]; exact e2.2
    · exact rv_eq n e2.1 i (by omega)
theorem rv_ext {x y : Nat} : ∀ n, (∀ i, i < n → x.testBit i = y.testBit i) → rv x n = rv y n
  | 0, _ => rfl
  | n + 1, h => by
    unfold rv
    rw [rv_ext n (fun i hi => h i (by omega)), h n (by omega)]
theorem rv_first {x y i : Nat} (h : ∀ j, j < i → x.testBit j = y.testBit j) (hx : x.testBit i = true) (hy : y.testBit i = false) : ∀ n, i < n → rv y n < rv x n
  | 0, hn => by omega
  | n + 1, hn => by
    by_cases q : i = n
    · subst q
      unfold rv
      rw [rv_ext i h, hx, hy]
      simp
    · have := rv_first h hx hy n (by omega)
      unfold rv
      cases x.testBit n <;> cases y.testBit n <;> simp <;> omega
theorem set_ext {x y n : Nat} (hx : x < 2 ^ n) (hy : y < 2 ^ n) (h : ∀ i, i < n → x.testBit i = y.testBit i) : x = y := by
  apply Nat.eq_of_testBit_eq
  intro i
  by_cases hi : i < n
  · exact h i hi
  · rw [Nat.testBit_lt_two_pow (Nat.lt_of_lt_of_le hx (Nat.pow_le_pow_right (by decide) (by omega))), Nat.testBit_lt_two_pow (Nat.lt_of_lt_of_le hy (Nat.pow_le_pow_right (by decide) (by omega)))]
def key (S n : Nat) : Nat := (n * 32 + pc S 16) * 65536 + (65535 - rv S 16)
theorem key_lt {S S' n n' : Nat} : key S n < key S' n' ↔ n < n' ∨ (n = n' ∧ (pc S 16 < pc S' 16 ∨ (pc S 16 = pc S' 16 ∧ rv S' 16 < rv S 16))) := by
  unfold key
  have a1 := pc_le S 16
  have a2 := pc_le S' 16
  have a3 := rv_lt S 16
  have a4 := rv_lt S' 16
  omega
theorem key_eq {S S' n n' : Nat} (h : key S n = key S' n') : n = n' ∧ pc S 16 = pc S' 16 ∧ rv S 16 = rv S' 16 := by
  unfold key at h
  have a1 := pc_le S 16
  have a2 := pc_le S' 16
  have a3 := rv_lt S 16
  have a4 := rv_lt S' 16
  omega
def RRp (P : Nat → Nat → Prop) (RR : Nat → Nat) : Prop := ∀ C w, (RR C).testBit w = true ↔ ∃ b, P w b ∧ C.testBit b = false
def CCp (P : Nat → Nat → Prop) (CC : Nat → Nat) : Prop := ∀ S b, (CC S).testBit b = true ↔ ∃ w, P w b ∧ S.testBit w = false
def fe1 (RR : Nat → Nat) (r c C : Nat) : Prop := pc C 16 ≤ c ∧ pc (RR C) 16 ≤ r
def fe2 (CC : Nat → Nat) (r c S : Nat) : Prop := pc S 16 ≤ r ∧ pc (CC S) 16 ≤ c
def k1 (RR : Nat → Nat) (C : Nat) : Nat := key (RR C) (pc (RR C) 16 + pc C 16)
def k2 (CC : Nat → Nat) (S : Nat) : Nat := key S (pc S 16 + pc (CC S) 16)
theorem CR_sub {P : Nat → Nat → Prop} {RR CC : Nat → Nat} (hR : RRp P RR) (hC : CCp P CC) (C b : Nat) (h : (CC (RR C)).testBit b = true) : C.testBit b = true := by
  obtain ⟨w, h1, h2⟩ := (hC _ _).mp h
  cases h3 : C.testBit b
  · have := (hR C w).mpr ⟨b, h1, h3⟩
    rw [h2] at this; cases this
  · rfl
theorem RC_sub {P : Nat → Nat → Prop} {RR CC : Nat → Nat} (hR : RRp P RR) (hC : CCp P CC) (S w : Nat) (h : (RR (CC S)).testBit w = true) : S.testBit w = true := by
  obtain ⟨b, h1, h2⟩ := (hR _ _).mp h
  cases h3 : S.testBit w
  · have := (hC S b).mpr ⟨w, h1, h3⟩
    rw [h2] at this; cases this
  · rfl
theorem fe12 {P : Nat → Nat → Prop} {RR CC : Nat → Nat} (hR : RRp P RR) (hC : CCp P CC) {r c C : Nat} (h : fe1 RR r c C) : fe2 CC r c (RR C) ∧ k2 CC (RR C) ≤ k1 RR C := by
  have a := pc_mono 16 (fun i _ => CR_sub hR hC C i)
  refine ⟨⟨h.2, Nat.le_trans a h.1⟩, ?_⟩
  unfold k1 k2 key
  omega
theorem fe21 {P : Nat → Nat → Prop} {RR CC : Nat → Nat} (hR : RRp P RR) (hC : CCp P CC) {r c S : Nat} (h : fe2 CC r c S) : fe1 RR r c (CC S) ∧ k1 RR (CC S) ≤ k2 CC S := by
  have a := pc_mono 16 (fun i _ => RC_sub hR hC S i)
  refine ⟨⟨h.2, Nat.le_trans a h.1⟩, ?_⟩
  by_cases e : pc (RR (CC S)) 16 = pc S 16
  · have := rv_ext 16 (pc_eq 16 (fun i _ => RC_sub hR hC S i) e)
    unfold k1 k2 key
    rw [e, this]
    exact Nat.le_refl _
  · unfold k1 k2
    refine Nat.le_of_lt (key_lt.mpr (Or.inl ?_))
    omega
theorem plan_eq {P : Nat → Nat → Prop} {RR CC : Nat → Nat} (hR : RRp P RR) (hC : CCp P CC) {W B r c C S : Nat} (hW : W ≤ 16) (hB : B ≤ 4) (hRW : ∀ C, RR C < 2 ^ W) (hCB : ∀ S, CC S < 2 ^ B) (hCl : C < 2 ^ B) (hSl : S < 2 ^ W)
    (f1 : fe1 RR r c C) (m1 : ∀ C', C' < 2 ^ B → fe1 RR r c C' → k1 RR C ≤ k1 RR C') (f2 : fe2 CC r c S) (m2 : ∀ S', S' < 2 ^ W → fe2 CC r c S' → k2 CC S ≤ k2 CC S') : S = RR C ∧ CC S = C := by
  obtain ⟨a1, a2⟩ := fe12 hR hC f1
  obtain ⟨b1, b2⟩ := fe21 hR hC f2
  have a3 := m2 _ (hRW C) a1
  have b3 := m1 _ (hCB S) b1
  have e1 : k2 CC (RR C) = k1 RR C := by omega
  have e2 : k2 CC S = k2 CC (RR C) := by omega
  have q1 := key_eq e1
  have q2 := key_eq e2
  have hS : S = RR C := set_ext hSl (hRW C) (fun i hi => rv_eq 16 q2.2.2 i (by omega))
  refine ⟨hS, ?_⟩
  rw [hS]
  refine set_ext (hCB _) hCl (fun i hi => pc_eq 16 (fun i _ => CR_sub hR hC C i) ?_ i (by omega))
  omega
