section PLN
variable {W B : Nat} {RR CC : Nat → Nat} {r c : Nat}
def MQp (RR : Nat → Nat) (r c N : Nat) (wb : Nat → Int32) (q : Int32 × Int32 × Int32 × Int32 × Int32 × (Nat → Int32)) : Prop :=
  q.2.1 = 1 ∧ ((q.1 = -1 ∧ q.2.2.2.1 = 0 ∧ q.2.2.2.2.1 = 0 ∧ ∀ j, j < N → ¬ fe1 RR r c j) ∨ ∃ j, j < N ∧ fe1 RR r c j ∧ q.1 = nI (pc (RR j) 16 + pc j 16) ∧ q.2.2.2.1 = nI (RR j) ∧ q.2.2.2.2.1 = nI j ∧ ∀ j', j' < N → fe1 RR r c j' → k1 RR j ≤ k1 RR j')
theorem m_make (hW : W ≤ 16) (hB : B ≤ 4) (hr : r ≤ 8) (hc : c ≤ 8) {wb : Nat → Int32} (hRW : ∀ C, RR C < 2 ^ W) (hO : ∀ C, f_RepairPlan_wordsWrongOutside W (nI W) wb (nI C) = some (nI (RR C))) :
    ∃ q, lp (g_RepairPlan_make_57 W 1 (nI W) (nI (2 ^ B)) wb (nI r) (nI c)) 100000 (0, 0, 0, 0) = some q ∧ MQp RR r c (2 ^ B) wb q := by
  have p1 := p16 hW
  have p2 := p4 hB
  refine lp_Q (I := fun i (s : Int32 × Int32 × Int32 × Int32) => s.2.2.2 = nI i ∧ ((s.1 = 0 ∧ s.2.1 = 0 ∧ s.2.2.1 = 0 ∧ ∀ j, j < i → ¬ fe1 RR r c j) ∨ ∃ j, j < i ∧ s.1 = 1 ∧ fe1 RR r c j ∧ s.2.1 = nI (RR j) ∧ s.2.2.1 = nI j ∧ ∀ j', j' < i → fe1 RR r c j' → k1 RR j ≤ k1 RR j')) (2 ^ B) (fun (x : Option (Int32 × Int32 × Int32 × Int32 × Int32 × (Nat → Int32))) => ∃ q, x = some q ∧ MQp RR r c (2 ^ B) wb q) ?_ ?_ 100000 0 _ (Nat.zero_le _) (by omega) ⟨rfl, Or.inl ⟨rfl, rfl, rfl, fun j h => by omega⟩⟩
  · rintro i ⟨s, bR, bC, x⟩ rec hi ⟨hx, hI⟩
    dsimp only at hx hI
    subst hx
    left
    have hRi : RR i < 2 ^ 16 := Nat.lt_of_lt_of_le (hRW i) p1
    have e1 := pc_le i 16
    have e2 := pc_le (RR i) 16
    have hni : ¬ 2 ^ B ≤ i := by omega
    have jc := j_count (show i < 2 ^ 16 by omega)
    have jr := j_count hRi
    have stay : (∀ j, j = i → ¬ fe1 RR r c j ∨ (s = 1 ∧ ∃ j0, j0 < i ∧ bR = nI (RR j0) ∧ bC = nI j0 ∧ k1 RR j0 ≤ k1 RR i)) → ((s = 0 ∧ bR = 0 ∧ bC = 0 ∧ ∀ j, j < i + 1 → ¬ fe1 RR r c j) ∨ ∃ j, j < i + 1 ∧ s = 1 ∧ fe1 RR r c j ∧ bR = nI (RR j) ∧ bC = nI j ∧ ∀ j', j' < i + 1 → fe1 RR r c j' → k1 RR j ≤ k1 RR j') := by
      intro h
      rcases hI with ⟨s0, b0, c0, hn⟩ | ⟨j, j1, s1, j2, j3, j4, j5⟩
      · left
        refine ⟨s0, b0, c0, fun j hj => ?_⟩
        by_cases q : j = i
        · rcases h j q with q1 | q1
          · exact q1
          · rw [s0] at q1; exact absurd q1.1 (by decide)
        · exact hn j (by omega)
      · right
        refine ⟨j, by omega, s1, j2, j3, j4, fun j' hj' hf => ?_⟩
        by_cases q : j' = i
        · rcases h j' q with q1 | ⟨_, j0, _, _, q2, q3⟩
          · exact absurd hf q1
          · have : j = j0 := (nI_eq (by omega) (by omega)).mp (j4.symm.trans q2)
            rw [this, q]; exact q3
        · exact j5 j' (by omega) hf
    unfold g_RepairPlan_make_57
    dsimp only
    rw [if_neg (fun q => hni ((nI_leI (by omega) (by omega)).mp q)), hO, Option.bind_some, jc, Option.bind_some]
    by_cases f1 : c < pc i 16
    · rw [if_pos ((nI_ltI (by omega) (by omega)).mpr f1), nI_1]
      exact ⟨(s, bR, bC, nI (i + 1)), ⟨rfl, stay (fun j q => Or.inl (fun f => by rw [q] at f; have := f.1; omega))⟩, rfl⟩
    · rw [if_neg (fun q => f1 ((nI_ltI (by omega) (by omega)).mp q)), jr, Option.bind_some]
      by_cases f2 : r < pc (RR i) 16
      · rw [if_pos ((nI_ltI (by omega) (by omega)).mpr f2), nI_1]
        exact ⟨(s, bR, bC, nI (i + 1)), ⟨rfl, stay (fun j q => Or.inl (fun f => by rw [q] at f; have := f.2; omega))⟩, rfl⟩
      · rw [if_neg (fun q => f2 ((nI_ltI (by omega) (by omega)).mp q)), nI_1]
        have hf : fe1 RR r c i := ⟨by omega, by omega⟩
        rcases id hI with ⟨s0, b0, c0, hn⟩ | ⟨j, j1, s1, j2, j3, j4, j5⟩
        · subst s0 b0 c0
          rw [show f_RepairPlan_isBetter 0 0 0 (nI (RR i)) (nI i) = some 1 from rfl, Option.bind_some, if_neg nz1]
          refine ⟨(1, nI (RR i), nI i, nI (i + 1)), ⟨rfl, Or.inr ⟨i, by omega, rfl, hf, rfl, rfl, fun j' hj' hf' => ?_⟩⟩, rfl⟩
          by_cases q : j' = i
          · rw [q]; exact Nat.le_refl _
          · exact absurd hf' (hn j' (by omega))
        · subst s1 j3 j4
          rw [m_better hRi (by omega) (Nat.lt_of_lt_of_le (hRW j) p1) (by omega), Option.bind_some]
          have ek1 : key (RR i) (pc (RR i) 16 + pc i 16) = k1 RR i := rfl
          have ek2 : key (RR j) (pc (RR j) 16 + pc j 16) = k1 RR j := rfl
          rw [ek1, ek2]
          by_cases hlt : k1 RR i < k1 RR j
          · rw [decide_eq_true hlt, if_neg nzt]
            refine ⟨(1, nI (RR i), nI i, nI (i + 1)), ⟨rfl, Or.inr ⟨i, by omega, rfl, hf, rfl, rfl, fun j' hj' hf' => ?_⟩⟩, rfl⟩
            by_cases q : j' = i
            · rw [q]; exact Nat.le_refl _
            · have := j5 j' (by omega) hf'; omega
          · rw [decide_eq_false hlt, if_pos (show b2 false = 0 from rfl)]
            exact ⟨(1, nI (RR j), nI j, nI (i + 1)), ⟨rfl, stay (fun _ _ => Or.inr ⟨rfl, j, j1, rfl, rfl, by omega⟩)⟩, rfl⟩
  · rintro ⟨s, bR, bC, x⟩ rec ⟨hx, hI⟩
    dsimp only at hx hI
    subst hx
    unfold g_RepairPlan_make_57
    dsimp only
    rw [if_pos ((nI_leI (by omega) (by omega)).mpr (Nat.le_refl _))]
    rcases hI with ⟨s0, b0, c0, hn⟩ | ⟨j, j1, s1, j2, j3, j4, j5⟩
    · subst s0 b0 c0
      rw [if_pos rfl]
      exact ⟨_, rfl, rfl, Or.inl ⟨rfl, rfl, rfl, hn⟩⟩
    · subst s1 j3 j4
      rw [if_neg nz1, m_spares (Nat.lt_of_lt_of_le (hRW j) p1) (by omega), Option.bind_some]
      exact ⟨_, rfl, rfl, Or.inr ⟨j, j1, j2, rfl, rfl, rfl, j5⟩⟩
theorem r_weigh {v : Bool} {n x : Nat} {x6 x7 : Int32} (hx : x < 2 ^ 16) (hn : n ≤ 40) (h6 : x6 = -1 ∨ ∃ j m, j < 2 ^ 16 ∧ m ≤ 40 ∧ x6 = nI j ∧ x7 = nI m) (rec : (Int32 × Int32 × Int32) → Option (Int32 × Int32 × Int32 × Int32 × Int32)) :
    ((v = true ∧ (∀ j m, j < 2 ^ 16 → m ≤ 40 → x6 = nI j → x7 = nI m → key x n < key j m)) ∧ f_RF_repair_199 (b2 v) (nI n) x6 x7 (nI x) (nI (pc x 16)) rec = rec (nI x, nI n, nI (x + 1)))
    ∨ (¬ (v = true ∧ (∀ j m, j < 2 ^ 16 → m ≤ 40 → x6 = nI j → x7 = nI m → key x n < key j m)) ∧ f_RF_repair_199 (b2 v) (nI n) x6 x7 (nI x) (nI (pc x 16)) rec = rec (x6, x7, nI (x + 1))) := by
  have a1 := pc_le x 16
  have e250 : f_RF_repair_250 (nI n) (b2 v) x6 x7 (nI x) rec = if v = true then rec (nI x, nI n, nI (x + 1)) else rec (x6, x7, nI (x + 1)) := by
    unfold f_RF_repair_250 f_RF_repair_255
    rw [nI_1]
    cases v <;> rfl
  have e254 : f_RF_repair_254 (nI n) (b2 v) x6 x7 (nI x) rec = rec (x6, x7, nI (x + 1)) := by
    unfold f_RF_repair_254 f_RF_repair_255
    rw [nI_1]
    cases v <;> rfl
  unfold f_RF_repair_199
  rw [e250, e254]
  rcases h6 with h6 | ⟨j, m, hj, hm, rfl, rfl⟩
  · subst h6
    rw [if_pos (show (-1 : Int32) < 0 by decide)]
    by_cases hv : v = true
    · left
      exact ⟨⟨hv, fun j m hj _ q _ => absurd q.symm (ne_m1 (by omega))⟩, if_pos hv⟩
    · right
      exact ⟨fun q => hv q.1, if_neg hv⟩
  · have a2 := pc_le j 16
    have hall : (∀ j' m', j' < 2 ^ 16 → m' ≤ 40 → nI j = nI j' → nI m = nI m' → key x n < key j' m') ↔ key x n < key j m := by
      constructor
      · intro h; exact h j m hj hm rfl rfl
      · intro h j' m' hj' hm' q1 q2
        have e1 : j = j' := (nI_eq (by omega) (by omega)).mp q1
        have e2 : m = m' := (nI_eq (by omega) (by omega)).mp q2
        rw [← e1, ← e2]; exact h
    have hk := @key_lt x j n m
    have fin : ∀ (y : Option (Int32 × Int32 × Int32 × Int32 × Int32)), ((n < m ∨ (n = m ∧ (pc x 16 < pc j 16 ∨ (pc x 16 = pc j 16 ∧ rv j 16 < rv x 16)))) ∧ y = (if v = true then rec (nI x, nI n, nI (x + 1)) else rec (nI j, nI m, nI (x + 1)))) ∨ (¬ (n < m ∨ (n = m ∧ (pc x 16 < pc j 16 ∨ (pc x 16 = pc j 16 ∧ rv j 16 < rv x 16)))) ∧ y = rec (nI j, nI m, nI (x + 1))) →
        ((v = true ∧ (∀ j' m', j' < 2 ^ 16 → m' ≤ 40 → nI j = nI j' → nI m = nI m' → key x n < key j' m')) ∧ y = rec (nI x, nI n, nI (x + 1))) ∨ (¬ (v = true ∧ (∀ j' m', j' < 2 ^ 16 → m' ≤ 40 → nI j = nI j' → nI m = nI m' → key x n < key j' m')) ∧ y = rec (nI j, nI m, nI (x + 1))) := by
      intro y h
      rw [hall]
      rw [← hk] at h
      rcases h with ⟨h1, h2⟩ | ⟨h1, h2⟩
      · by_cases hv : v = true
        · rw [if_pos hv] at h2
          exact Or.inl ⟨⟨hv, h1⟩, h2⟩
        · rw [if_neg hv] at h2
          exact Or.inr ⟨fun q => hv q.1, h2⟩
      · exact Or.inr ⟨fun q => h1 q.2, h2⟩
    apply fin
    rw [if_neg (nI_pos (by omega)), r_ones (by omega), Option.bind_some, Option.bind_some, r_before (by omega) (by omega), Option.bind_some]
    by_cases c1 : n < m
    · rw [if_pos ((nI_ltI (by omega) (by omega)).mpr c1)]
      exact Or.inl ⟨Or.inl c1, rfl⟩
    · rw [if_neg (fun q => c1 ((nI_ltI (by omega) (by omega)).mp q))]
      by_cases c2 : n = m
      · rw [if_pos ((nI_eq (by omega) (by omega)).mpr c2)]
        by_cases c3 : pc x 16 < pc j 16
        · rw [if_pos ((nI_ltI (by omega) (by omega)).mpr c3)]
          exact Or.inl ⟨Or.inr ⟨c2, Or.inl c3⟩, rfl⟩
        · rw [if_neg (fun q => c3 ((nI_ltI (by omega) (by omega)).mp q))]
          by_cases c4 : pc x 16 = pc j 16
          · rw [if_pos ((nI_eq (by omega) (by omega)).mpr c4)]
            by_cases c5 : rv j 16 < rv x 16
            · rw [decide_eq_true c5, if_neg nzt]
              exact Or.inl ⟨Or.inr ⟨c2, Or.inr ⟨c4, c5⟩⟩, rfl⟩
            · rw [decide_eq_false c5, if_pos (show b2 false = 0 from rfl)]
              exact Or.inr ⟨by omega, rfl⟩
          · rw [if_neg (fun q => c4 ((nI_eq (by omega) (by omega)).mp q))]
            exact Or.inr ⟨by omega, rfl⟩
      · rw [if_neg (fun q => c2 ((nI_eq (by omega) (by omega)).mp q))]
        exact Or.inr ⟨by omega, rfl⟩
def RQ (CC : Nat → Nat) (r c N : Nat) (q : Int32 × Int32 × Int32 × Int32 × Int32) : Prop :=
  q.2.1 = 0 ∧ q.2.2.2.2 = 1 ∧ ((q.1 = -1 ∧ q.2.2.1 = 0 ∧ q.2.2.2.1 = 0 ∧ ∀ j, j < N → ¬ fe2 CC r c j) ∨ ∃ j, j < N ∧ fe2 CC r c j ∧ q.1 = nI (pc j 16 + pc (CC j) 16) ∧ q.2.2.1 = nI j ∧ q.2.2.2.1 = nI (CC j) ∧ ∀ j', j' < N → fe2 CC r c j' → k2 CC j ≤ k2 CC j')
theorem r_make (hW : W ≤ 16) (hB : B ≤ 4) (hr : r ≤ 8) (hc : c ≤ 8) {mc : Int32} {mf : Nat → Int32} (hCB : ∀ S, CC S < 2 ^ B) (hO : ∀ S, S < 2 ^ 31 → f_RF_columnsFor 1200 mc mf (nI S) = some (nI (CC S))) :
    ∃ q, lp (g_RF_repair_133 1200 0 (nI W) mc 0 0 1 mf (nI r) (nI c)) 100000 ((-1), 99, 0) = some q ∧ RQ CC r c (2 ^ W) q := by
  have p1 := p16 hW
  have p2 := p4 hB
  have esh : (1 : Int32) <<< (nI W &&& 31) = nI (2 ^ W) := shl_bit _ (by omega)
  refine lp_Q (I := fun i (s : Int32 × Int32 × Int32) => s.2.2 = nI i ∧ ((s.1 = -1 ∧ ∀ j, j < i → ¬ fe2 CC r c j) ∨ ∃ j, j < i ∧ fe2 CC r c j ∧ s.1 = nI j ∧ s.2.1 = nI (pc j 16 + pc (CC j) 16) ∧ ∀ j', j' < i → fe2 CC r c j' → k2 CC j ≤ k2 CC j')) (2 ^ W) (fun (x : Option (Int32 × Int32 × Int32 × Int32 × Int32)) => ∃ q, x = some q ∧ RQ CC r c (2 ^ W) q) ?_ ?_ 100000 0 _ (Nat.zero_le _) (by omega) ⟨rfl, Or.inl ⟨rfl, fun j h => by omega⟩⟩
  · rintro i ⟨b, m, x⟩ rec hi ⟨hx, hI⟩
    dsimp only at hx hI
    subst hx
    left
    have e1 := pc_le i 16
    have e2 := pc_le (CC i) 16
    have hni : ¬ 2 ^ W ≤ i := by omega
    have hb : b = -1 ∨ ∃ j m', j < 2 ^ 16 ∧ m' ≤ 40 ∧ b = nI j ∧ m = nI m' := by
      rcases hI with ⟨q, _⟩ | ⟨j, j1, _, j3, j4, _⟩
      · exact Or.inl q
      · have := pc_le j 16
        have := pc_le (CC j) 16
        exact Or.inr ⟨j, _, by omega, by omega, j3, j4⟩
    have stay : (fe2 CC r c i → ∃ j0, j0 < i ∧ b = nI j0 ∧ k2 CC j0 ≤ k2 CC i) → ((b = -1 ∧ ∀ j, j < i + 1 → ¬ fe2 CC r c j) ∨ ∃ j, j < i + 1 ∧ fe2 CC r c j ∧ b = nI j ∧ m = nI (pc j 16 + pc (CC j) 16) ∧ ∀ j', j' < i + 1 → fe2 CC r c j' → k2 CC j ≤ k2 CC j') := by
      intro h
      rcases hI with ⟨b0, hn⟩ | ⟨j, j1, j2, j3, j4, j5⟩
      · left
        refine ⟨b0, fun j hj hf => ?_⟩
        by_cases q : j = i
        · rw [q] at hf
          obtain ⟨j0, q1, q2, _⟩ := h hf
          rw [b0] at q2
          exact absurd q2.symm (ne_m1 (by omega))
        · exact hn j (by omega) hf
      · right
        refine ⟨j, by omega, j2, j3, j4, fun j' hj' hf => ?_⟩
        by_cases q : j' = i
        · rw [q] at hf ⊢
          obtain ⟨j0, q1, q2, q3⟩ := h hf
          have : j = j0 := (nI_eq (by omega) (by omega)).mp (j3.symm.trans q2)
          rw [this]; exact q3
        · exact j5 j' (by omega) hf
    unfold g_RF_repair_133
    dsimp only
    rw [esh, if_neg (fun q => hni ((nI_leI (by omega) (by omega)).mp q)), r_ones (by omega), Option.bind_some]
    unfold f_RF_repair_167 f_RF_repair_198
    by_cases f1 : r < pc i 16
    · rw [if_pos ((nI_ltI (by omega) (by omega)).mpr f1), show (0 : Int32) = nI 0 from rfl, r_ones (by decide), Option.bind_some, if_pos ((nI_ltI (by omega) (by omega)).mpr f1), nI_add]
      have z0 : pc 0 16 = 0 := by decide
      rcases r_weigh (v := false) (n := pc i 16 + pc 0 16) (x := i) (by omega) (by omega) hb rec with ⟨q, _⟩ | ⟨_, q⟩
      · cases q.1
      · rw [show b2 false = nI 0 from rfl] at q
        rw [q]
        exact ⟨(b, m, nI (i + 1)), ⟨rfl, stay (fun f => absurd f.1 (by omega))⟩, rfl⟩
    · rw [if_neg (fun q => f1 ((nI_ltI (by omega) (by omega)).mp q)), hO i (by omega), Option.bind_some, r_ones (by have := hCB i; omega), Option.bind_some, if_neg (fun q => f1 ((nI_ltI (by omega) (by omega)).mp q)), Option.bind_some, nI_add]
      by_cases f2 : c < pc (CC i) 16
      · rw [if_pos ((nI_ltI (by omega) (by omega)).mpr f2)]
        rcases r_weigh (v := false) (n := pc i 16 + pc (CC i) 16) (x := i) (by omega) (by omega) hb rec with ⟨q, _⟩ | ⟨_, q⟩
        · cases q.1
        · rw [show b2 false = 0 from rfl] at q
          rw [q]
          exact ⟨(b, m, nI (i + 1)), ⟨rfl, stay (fun f => absurd f.2 (by omega))⟩, rfl⟩
      · rw [if_neg (fun q => f2 ((nI_ltI (by omega) (by omega)).mp q))]
        have hf : fe2 CC r c i := ⟨by omega, by omega⟩
        rcases r_weigh (v := true) (n := pc i 16 + pc (CC i) 16) (x := i) (by omega) (by omega) hb rec with ⟨ht, hw⟩ | ⟨ht, hw⟩
        · rw [show b2 true = 1 from rfl] at hw
          rw [hw]
          refine ⟨(nI i, nI (pc i 16 + pc (CC i) 16), nI (i + 1)), ⟨rfl, Or.inr ⟨i, by omega, hf, rfl, rfl, fun j' hj' hf' => ?_⟩⟩, rfl⟩
          by_cases q : j' = i
          · rw [q]; exact Nat.le_refl _
          · rcases hI with ⟨b0, hn⟩ | ⟨j, j1, j2, j3, j4, j5⟩
            · exact absurd hf' (hn j' (by omega))
            · have a3 := pc_le j 16
              have a4 := pc_le (CC j) 16
              have k3 : k2 CC i < k2 CC j := ht.2 j _ (by omega) (by omega) j3 j4
              have := j5 j' (by omega) hf'
              omega
        · rw [show b2 true = 1 from rfl] at hw
          rw [hw]
          refine ⟨(b, m, nI (i + 1)), ⟨rfl, stay (fun _ => ?_)⟩, rfl⟩
          rcases hI with ⟨b0, hn⟩ | ⟨j, j1, j2, j3, j4, j5⟩
          · exfalso
            apply ht
            refine ⟨rfl, fun j m' hj _ q _ => ?_⟩
            rw [b0] at q
            exact absurd q.symm (ne_m1 (by omega))
          · refine ⟨j, j1, j3, ?_⟩
            by_cases q : k2 CC j ≤ k2 CC i
            · exact q
            · exfalso
              apply ht
              refine ⟨rfl, fun j' m' hj' hm' q1 q2 => ?_⟩
              have a3 := pc_le j 16
              have a4 := pc_le (CC j) 16
              have e3 : j = j' := (nI_eq (by omega) (by omega)).mp (j3.symm.trans q1)
              have e4 : pc j 16 + pc (CC j) 16 = m' := (nI_eq (by omega) (by omega)).mp (j4.symm.trans q2)
              rw [← e3, ← e4]
              show k2 CC i < k2 CC j
              omega
  · rintro ⟨b, m, x⟩ rec ⟨hx, hI⟩
    dsimp only at hx hI
    subst hx
    unfold g_RF_repair_133
    dsimp only
    rw [esh, if_pos ((nI_leI (by omega) (by omega)).mpr (Nat.le_refl _))]
    rcases hI with ⟨b0, hn⟩ | ⟨j, j1, j2, j3, j4, j5⟩
    · subst b0
      exact ⟨_, rfl, rfl, rfl, Or.inl ⟨rfl, rfl, rfl, hn⟩⟩
    · subst j3 j4
      rw [if_pos (nI_pos' (by omega)), hO j (by omega), Option.bind_some]
      exact ⟨_, rfl, rfl, rfl, Or.inr ⟨j, j1, j2, rfl, rfl, rfl, j5⟩⟩
end PLN
