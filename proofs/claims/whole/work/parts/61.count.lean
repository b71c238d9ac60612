def bcN (x : Nat) : Nat :=
  (fun a => (fun b => (fun c => (fun d => (fun e => e &&& 63) (d + d / 2 ^ 16)) (c + c / 2 ^ 8)) ((b + b / 2 ^ 4) &&& 252645135)) ((a &&& 858993459) + ((a / 2 ^ 2) &&& 858993459))) (x - ((x / 2 ^ 1) &&& 1431655765))
theorem bc_eq {x : Nat} (hx : x < 2 ^ 16) : f_JI_bitCount (nI x) = some (nI (bcN x)) := by
  unfold f_JI_bitCount bcN
  have i1 : x / 2 ^ 1 ≤ x := Nat.div_le_self _ _
  have i2 : (x / 2 ^ 1) &&& 1431655765 ≤ x / 2 ^ 1 := Nat.and_le_left
  have h1 : nI x - ((Int32.toUInt32 (nI x) >>> (Int32.toUInt32 1 &&& Int32.toUInt32 31)).toInt32 &&& 1431655765) = nI (x - ((x / 2 ^ 1) &&& 1431655765)) := by
    rw [pk_ushrN (by omega) 1 1 (by decide), show (1431655765 : Int32) = nI 1431655765 from rfl, nI_and, pk_sub (by omega)]
  rw [h1]
  have ha : x - ((x / 2 ^ 1) &&& 1431655765) ≤ x := Nat.sub_le _ _
  generalize x - ((x / 2 ^ 1) &&& 1431655765) = a at ha ⊢
  have h2 : (nI a &&& 858993459) + ((Int32.toUInt32 (nI a) >>> (Int32.toUInt32 2 &&& Int32.toUInt32 31)).toInt32 &&& 858993459) = nI ((a &&& 858993459) + ((a / 2 ^ 2) &&& 858993459)) := by
    rw [pk_ushrN (by omega) 2 2 (by decide), show (858993459 : Int32) = nI 858993459 from rfl, nI_and, nI_and, nI_add]
  rw [h2]
  have hb : (a &&& 858993459) + ((a / 2 ^ 2) &&& 858993459) ≤ a + a := Nat.add_le_add Nat.and_le_left (Nat.le_trans Nat.and_le_left (Nat.div_le_self _ _))
  dsimp only
  generalize (a &&& 858993459) + ((a / 2 ^ 2) &&& 858993459) = b at hb ⊢
  have i3 : b / 2 ^ 4 ≤ b := Nat.div_le_self _ _
  have h3 : (nI b + (Int32.toUInt32 (nI b) >>> (Int32.toUInt32 4 &&& Int32.toUInt32 31)).toInt32) &&& 252645135 = nI ((b + b / 2 ^ 4) &&& 252645135) := by
    rw [pk_ushrN (by omega) 4 4 (by decide), show (252645135 : Int32) = nI 252645135 from rfl, nI_add, nI_and]
  rw [h3]
  have hc : (b + b / 2 ^ 4) &&& 252645135 ≤ b + b / 2 ^ 4 := Nat.and_le_left
  generalize (b + b / 2 ^ 4) &&& 252645135 = c at hc ⊢
  have i4 : c / 2 ^ 8 ≤ c := Nat.div_le_self _ _
  have h4 : nI c + (Int32.toUInt32 (nI c) >>> (Int32.toUInt32 8 &&& Int32.toUInt32 31)).toInt32 = nI (c + c / 2 ^ 8) := by
    rw [pk_ushrN (by omega) 8 8 (by decide), nI_add]
  rw [h4]
  have hd : c + c / 2 ^ 8 ≤ c + c := by omega
  generalize c + c / 2 ^ 8 = d at hd ⊢
  have h5 : nI d + (Int32.toUInt32 (nI d) >>> (Int32.toUInt32 16 &&& Int32.toUInt32 31)).toInt32 = nI (d + d / 2 ^ 16) := by
    rw [pk_ushrN (by omega) 16 16 (by decide), nI_add]
  rw [h5, show (63 : Int32) = nI 63 from rfl, nI_and]
def chk (p : Nat → Nat → Bool) : Nat → Nat → Nat → Bool
  | 0, x, k => p x k
  | n + 1, x, k => chk p n (2 * x) k && chk p n (2 * x + 1) (k + 1)
theorem chk_all {p : Nat → Nat → Bool} : ∀ n x k, chk p n x k = true → ∀ y, y < 2 ^ n → p (x * 2 ^ n + y) (k + pc y n) = true
  | 0, x, k, h, y, hy => by
    have : y = 0 := by rw [Nat.pow_zero] at hy; omega
    subst this
    rw [Nat.pow_zero, Nat.mul_one]; exact h
  | n + 1, x, k, h, y, hy => by
    unfold chk at h
    rw [Bool.and_eq_true] at h
    by_cases hl : y < 2 ^ n
    · have h1 := chk_all n (2 * x) k h.1 y hl
      have e : pc y (n + 1) = pc y n := by
        show pc y n + (y.testBit n).toNat = pc y n
        rw [Nat.testBit_lt_two_pow hl]; rfl
      rw [e, show x * 2 ^ (n + 1) + y = 2 * x * 2 ^ n + y by rw [Nat.pow_succ]; congr 1; rw [Nat.mul_comm 2 x, Nat.mul_assoc, Nat.mul_comm 2]]
      exact h1
    · rw [Nat.pow_succ] at hy
      have h1 := chk_all n (2 * x + 1) (k + 1) h.2 (y - 2 ^ n) (by omega)
      have e2 : ∀ m, m ≤ n → pc (y - 2 ^ n) m = pc y m := by
        intro m
        induction m with
        | zero => intro _; rfl
        | succ m ih =>
          intro hm
          unfold pc
          rw [ih (by omega)]
          congr 1
          have : y.testBit m = (y - 2 ^ n).testBit m := by
            have e3 : y = 2 ^ n + (y - 2 ^ n) := by omega
            rw [e3, Nat.testBit_two_pow_add_gt (by omega)]
            congr 1
            omega
          rw [this]
      have e : pc y (n + 1) = pc y n + 1 := by
        show pc y n + (y.testBit n).toNat = _
        have : y.testBit n = true := by
          have e3 : y = 2 ^ n + (y - 2 ^ n) := by omega
          rw [e3, Nat.testBit_two_pow_add_eq, Nat.testBit_lt_two_pow (by omega)]; rfl
        rw [this]; rfl
      rw [e2 n (Nat.le_refl _)] at h1
      rw [e, show k + (pc y n + 1) = k + 1 + pc y n by omega]
      have e4 : x * 2 ^ (n + 1) + y = (2 * x + 1) * 2 ^ n + (y - 2 ^ n) := by
        rw [Nat.pow_succ, Nat.add_mul, Nat.one_mul, Nat.mul_comm 2 x, Nat.mul_assoc, Nat.mul_comm 2]
        omega
      rw [e4]; exact h1
set_option maxRecDepth 100000 in
theorem bc_all : chk (fun x k => Nat.beq (bcN x) k) 16 0 0 = true := by decide +kernel
theorem j_count {x : Nat} (hx : x < 2 ^ 16) : f_JI_bitCount (nI x) = some (nI (pc x 16)) := by
  have h := chk_all 16 0 0 bc_all x hx
  rw [Nat.zero_mul, Nat.zero_add, Nat.zero_add] at h
  rw [bc_eq hx, Nat.eq_of_beq_eq_true h]
