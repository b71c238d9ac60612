def blankB (c : Nat) : Bool := decide (c = 9) || decide (c = 10) || decide (c = 13) || decide (c = 32)
abbrev AS : Type := Nat × Nat × Nat × MA
def updN (f : Nat → Nat) (k v : Nat) : Nat → Nat := fun i => if i = k then v else f i
theorem updN_s {f : Nat → Nat} {k v : Nat} : updN f k v k = v := if_pos rfl
theorem updN_n {f : Nat → Nat} {k v j : Nat} (h : j ≠ k) : updN f k v j = f j := if_neg h
def addEl (a : MA) (s : Nat) : MA := (a.1 + 1, updN a.2.1 a.1 s, updN a.2.2.1 a.1 0, a.2.2.2)
def addOp (a : MA) (o : Nat) : MA := (a.1, a.2.1, updN a.2.2.1 (a.1 - 1) (a.2.2.1 (a.1 - 1) + 1), fun e k => if e = a.1 - 1 ∧ k = a.2.2.1 (a.1 - 1) then o else a.2.2.2 e k)
def stepS (s : AS) (c : Nat) : Option AS :=
  if s.1 ≤ 1 then
    (if s.1 = 1 ∧ c = 59 then some (0, s.2.1, s.2.2.1, s.2.2.2)
     else if 16 ≤ s.2.2.2.1 then none
     else if c = 100 then some (1, s.2.1, s.2.2.1, addEl s.2.2.2 2)
     else if c = 94 ∨ c = 118 ∨ c = 42 then some (2, if c = 118 then 1 else 0, s.2.2.1, addEl s.2.2.2 (if c = 118 then 1 else 0))
     else none)
  else if s.1 = 2 then (if c = 40 then some (3, s.2.1, s.2.2.1, s.2.2.2) else none)
  else if s.1 = 3 then (if (c = 119 ∨ c = 114) ∧ s.2.2.2.2.2.1 (s.2.2.2.1 - 1) < 8 then some (4, s.2.1, if c = 114 then 2 else 0, s.2.2.2) else none)
  else if s.1 = 4 then (if c = 48 ∨ c = 49 then some (5, s.2.1, s.2.2.1, addOp s.2.2.2 (s.2.2.1 + (c - 48))) else none)
  else (if c = 44 then some (3, s.2.1, s.2.2.1, s.2.2.2) else if c = 41 then some (1, s.2.1, s.2.2.1, s.2.2.2) else none)
def scanF (t : Nat → Nat) (n : Nat) : Nat → AS → Nat ⊕ MA
  | 0, s => if s.1 = 1 then Sum.inr s.2.2.2 else Sum.inl n
  | k + 1, s => if blankB (t (n - (k + 1))) = true then scanF t n k s else match stepS s (t (n - (k + 1))) with
    | none => Sum.inl (n - (k + 1))
    | some s' => scanF t n k s'
theorem scan_step {t : Nat → Nat} {n i : Nat} {s : AS} (h : i < n) : scanF t n (n - i) s = if blankB (t i) = true then scanF t n (n - (i + 1)) s else match stepS s (t i) with
    | none => Sum.inl i
    | some s' => scanF t n (n - (i + 1)) s' := by
  obtain ⟨r, hr⟩ : ∃ r, n - i = r + 1 := ⟨n - i - 1, by omega⟩
  rw [hr, show n - (i + 1) = r by omega]
  show (if blankB (t (n - (r + 1))) = true then scanF t n r s else match stepS s (t (n - (r + 1))) with
    | none => Sum.inl (n - (r + 1))
    | some s' => scanF t n r s') = _
  rw [show n - (r + 1) = i by omega]
theorem scan_end {t : Nat → Nat} {n : Nat} {s : AS} : scanF t n (n - n) s = if s.1 = 1 then Sum.inr s.2.2.2 else Sum.inl n := by rw [Nat.sub_self]; rfl
def okS (s : AS) : Prop := s.1 ≤ 5 ∧ s.2.1 ≤ 1 ∧ (s.2.2.1 = 0 ∨ s.2.2.1 = 2) ∧ s.2.2.2.1 ≤ 16 ∧ (∀ e, e < s.2.2.2.1 → s.2.2.2.2.1 e ≤ 2 ∧ s.2.2.2.2.2.1 e ≤ 8 ∧ (∀ k, k < s.2.2.2.2.2.1 e → s.2.2.2.2.2.2 e k < 4) ∧ (s.2.2.2.2.1 e ≠ 2 → (e + 1 < s.2.2.2.1 ∨ s.1 ≤ 1) → 0 < s.2.2.2.2.2.1 e))
  ∧ (2 ≤ s.1 → 0 < s.2.2.2.1 ∧ s.2.2.2.2.1 (s.2.2.2.1 - 1) = s.2.1 ∧ (s.1 = 4 → s.2.2.2.2.2.1 (s.2.2.2.1 - 1) < 8) ∧ (s.1 = 5 → 0 < s.2.2.2.2.2.1 (s.2.2.2.1 - 1)))
theorem okS_MA {s : AS} (h : okS s) (h1 : s.1 = 1) : MAok s.2.2.2 := by
  obtain ⟨_, _, _, h4, h5, _⟩ := h
  refine ⟨h4, fun e he => ?_⟩
  obtain ⟨a1, a2, a3, a4⟩ := h5 e he
  exact ⟨a1, fun q => a4 q (Or.inr (by omega)), a2, a3⟩
theorem ok_el {s : AS} (h : okS s) (h1 : s.1 ≤ 1) (h16 : ¬ 16 ≤ s.2.2.2.1) {st d so : Nat} (hst : (st = 1 ∧ so = 2) ∨ (st = 2 ∧ d = so ∧ so ≤ 1)) (hd : d ≤ 1) : okS (st, d, s.2.2.1, addEl s.2.2.2 so) := by
  obtain ⟨_, _, h3, h4, h5, _⟩ := h
  refine ⟨by show st ≤ 5; omega, hd, h3, by show s.2.2.2.1 + 1 ≤ 16; omega, fun e he => ?_, fun h2 => ?_⟩
  · have he' : e < s.2.2.2.1 + 1 := he
    show updN s.2.2.2.2.1 s.2.2.2.1 so e ≤ 2 ∧ updN s.2.2.2.2.2.1 s.2.2.2.1 0 e ≤ 8 ∧ (∀ k, k < updN s.2.2.2.2.2.1 s.2.2.2.1 0 e → s.2.2.2.2.2.2 e k < 4) ∧ (updN s.2.2.2.2.1 s.2.2.2.1 so e ≠ 2 → (e + 1 < s.2.2.2.1 + 1 ∨ st ≤ 1) → 0 < updN s.2.2.2.2.2.1 s.2.2.2.1 0 e)
    by_cases q : e = s.2.2.2.1
    · rw [q, updN_s, updN_s]
      exact ⟨by omega, by omega, fun k hk => by omega, fun q1 q2 => by omega⟩
    · rw [updN_n q, updN_n q]
      obtain ⟨a1, a2, a3, a4⟩ := h5 e (by omega)
      exact ⟨a1, a2, a3, fun q1 q2 => a4 q1 (Or.inr h1)⟩
  · have h2' : 2 ≤ st := h2
    refine ⟨by show 0 < s.2.2.2.1 + 1; omega, ?_, fun q => ?_, fun q => ?_⟩
    · show updN s.2.2.2.2.1 s.2.2.2.1 so (s.2.2.2.1 + 1 - 1) = d
      rw [Nat.add_sub_cancel, updN_s]; omega
    · have : st = 4 := q
      omega
    · have : st = 5 := q
      omega
theorem ok_step {s s' : AS} {c : Nat} (h : okS s) (hs : stepS s c = some s') : okS s' := by
  obtain ⟨h1, h2, h3, h4, h5, h6⟩ := id h
  unfold stepS at hs
  split at hs
  · rename_i q1
    split at hs
    · cases hs
      refine ⟨by show 0 ≤ 5; omega, h2, h3, h4, fun e he => ?_, fun q => absurd (show 2 ≤ 0 from q) (by omega)⟩
      obtain ⟨a1, a2, a3, a4⟩ := h5 e he
      exact ⟨a1, a2, a3, fun b1 _ => a4 b1 (Or.inr q1)⟩
    · split at hs
      · cases hs
      · rename_i q2
        split at hs
        · cases hs
          exact ok_el h q1 q2 (Or.inl ⟨rfl, rfl⟩) h2
        · split at hs
          · cases hs
            have : (if c = 118 then 1 else 0) ≤ 1 := by split <;> omega
            exact ok_el h q1 q2 (Or.inr ⟨rfl, rfl, this⟩) this
          · cases hs
  · rename_i q1
    have q2 : 2 ≤ s.1 := by omega
    obtain ⟨b1, b2, b3, b4⟩ := h6 q2
    have keep : ∀ st, 2 ≤ st → st ≤ 5 → (st = 4 → s.2.2.2.2.2.1 (s.2.2.2.1 - 1) < 8) → (st = 5 → 0 < s.2.2.2.2.2.1 (s.2.2.2.1 - 1)) → ∀ o, (o = 0 ∨ o = 2) → okS (st, s.2.1, o, s.2.2.2) := by
      intro st s2 s5 k4 k5 o ho
      refine ⟨s5, h2, ho, h4, fun e he => ?_, fun _ => ⟨b1, b2, k4, k5⟩⟩
      obtain ⟨a1, a2, a3, a4⟩ := h5 e he
      refine ⟨a1, a2, a3, fun c1 c2 => a4 c1 ?_⟩
      rcases c2 with c2 | c2
      · exact Or.inl c2
      · exact absurd (show st ≤ 1 from c2) (by omega)
    split at hs
    · split at hs
      · cases hs
        exact keep 3 (by omega) (by omega) (fun q => by omega) (fun q => by omega) _ h3
      · cases hs
    · split at hs
      · split at hs
        · rename_i q3
          cases hs
          exact keep 4 (by omega) (by omega) (fun _ => q3.2) (fun q => by omega) _ (by split <;> omega)
        · cases hs
      · split at hs
        · rename_i q4
          split at hs
          · rename_i q5
            cases hs
            have c8 := b3 q4
            refine ⟨by show 5 ≤ 5; omega, h2, h3, h4, fun e he => ?_, fun _ => ⟨b1, b2, fun q => absurd (show 5 = 4 from q) (by omega), fun _ => ?_⟩⟩
            · obtain ⟨a1, a2, a3, a4⟩ := h5 e he
              show s.2.2.2.2.1 e ≤ 2 ∧ updN s.2.2.2.2.2.1 (s.2.2.2.1 - 1) (s.2.2.2.2.2.1 (s.2.2.2.1 - 1) + 1) e ≤ 8 ∧ (∀ k, k < updN s.2.2.2.2.2.1 (s.2.2.2.1 - 1) (s.2.2.2.2.2.1 (s.2.2.2.1 - 1) + 1) e → (if e = s.2.2.2.1 - 1 ∧ k = s.2.2.2.2.2.1 (s.2.2.2.1 - 1) then s.2.2.1 + (c - 48) else s.2.2.2.2.2.2 e k) < 4) ∧ _
              by_cases q : e = s.2.2.2.1 - 1
              · subst q
                rw [updN_s]
                refine ⟨a1, by omega, fun k hk => ?_, fun _ _ => ?_⟩
                · by_cases r : k = s.2.2.2.2.2.1 (s.2.2.2.1 - 1)
                  · rw [if_pos ⟨rfl, r⟩]; omega
                  · rw [if_neg (fun x => r x.2)]; exact a3 k (by omega)
                · show 0 < updN s.2.2.2.2.2.1 (s.2.2.2.1 - 1) (s.2.2.2.2.2.1 (s.2.2.2.1 - 1) + 1) (s.2.2.2.1 - 1)
                  rw [updN_s]; omega
              · rw [updN_n q]
                refine ⟨a1, a2, fun k hk => ?_, fun c1 c2 => ?_⟩
                · rw [if_neg (fun x => q x.1)]; exact a3 k hk
                · show 0 < updN s.2.2.2.2.2.1 (s.2.2.2.1 - 1) (s.2.2.2.2.2.1 (s.2.2.2.1 - 1) + 1) e
                  rw [updN_n q]
                  refine a4 c1 ?_
                  rcases c2 with c2 | c2
                  · exact Or.inl c2
                  · exact absurd (show 5 ≤ 1 from c2) (by omega)
            · show 0 < updN s.2.2.2.2.2.1 (s.2.2.2.1 - 1) (s.2.2.2.2.2.1 (s.2.2.2.1 - 1) + 1) (s.2.2.2.1 - 1)
              rw [updN_s]; omega
          · cases hs
        · rename_i n2 n3 n4
          have q5 : s.1 = 5 := by omega
          split at hs
          · cases hs
            exact keep 3 (by omega) (by omega) (fun q => by omega) (fun q => by omega) _ h3
          · split at hs
            · cases hs
              refine ⟨by show 1 ≤ 5; omega, h2, h3, h4, fun e he => ?_, fun q => absurd (show 2 ≤ 1 from q) (by omega)⟩
              obtain ⟨a1, a2, a3, a4⟩ := h5 e he
              refine ⟨a1, a2, a3, fun c1 _ => ?_⟩
              by_cases q : e = s.2.2.2.1 - 1
              · rw [q]; exact b4 q5
              · have he' : e < s.2.2.2.1 := he
                exact a4 c1 (Or.inl (by omega))
            · cases hs
