theorem scan_le {t : Nat → Nat} {n : Nat} : ∀ k s p, scanF t n k s = Sum.inl p → p ≤ n
  | 0, s, p, h => by
    unfold scanF at h
    split at h
    · cases h
    · cases h; exact Nat.le_refl _
  | k + 1, s, p, h => by
    unfold scanF at h
    split at h
    · exact scan_le k s p h
    · split at h
      · cases h; exact Nat.sub_le _ _
      · exact scan_le k _ p h
theorem L_read {xl : Int32} {xu : Nat → Int32} {ml : Int32} {mt : Nat → Int32} (h : tapeI xl xu ml mt) {xe xr : Int32} {xf xrows : Nat → Int32} {me : Int32} {ms mc mo : Nat → Int32} (h2 : marchI xe xr xf xrows me ms mc mo) {fr rows ns nc no : Nat → Int32} {dir op : Int32} :
    ∃ q1 q2, f_MT_read 17 400 128 xl fr dir op xu rows = some q1 ∧ f_RF_read 16 16 16 16 128 128 400 me ml ns ms nc mc no mo mt = some q2 ∧ q1.1 = q2.1 ∧ q1.2.2.2.1 = 0 ∧ q2.2.2.2.1 = 0
      ∧ ((q1.2.2.2.2.2.2.2.2.2 = 0 ∧ marchI q1.2.1 q1.2.2.1 q1.2.2.2.2.1 q1.2.2.2.2.2.2.2.2.1 q2.2.2.1 q2.2.2.2.2.2.2.1 q2.2.2.2.2.2.2.2.2.1 q2.2.2.2.2.2.2.2.2.2.2)
        ∨ (¬ q1.2.2.2.2.2.2.2.2.2 = 0 ∧ marchI xe xr xf xrows q2.2.2.1 q2.2.2.2.2.2.2.1 q2.2.2.2.2.2.2.2.2.1 q2.2.2.2.2.2.2.2.2.2.2)) := by
  obtain ⟨n, t, hn, ht, rfl, rfl, hu⟩ := h
  obtain ⟨q, e1, e2⟩ := m_place (fr := fr) (rows := rows) (dir := dir) (op := op) hn ht (fun i hi => (hu i hi).1)
  obtain ⟨q', e3, e4⟩ := r_read (el := me) (so := ms) (co := mc) (op := mo) (ns := ns) (nc := nc) (no := no) hn ht (fun i hi => (hu i hi).2)
  unfold f_MT_read f_Tape_clear
  rw [e1, e3, Option.bind_some, Option.bind_some]
  unfold MRq at e2
  unfold RRq at e4
  cases hs : scanF t n n s0 with
  | inl p =>
    rw [hs] at e2 e4
    dsimp only at e2 e4
    have hp := scan_le _ _ _ hs
    rw [if_neg (show ¬ q.1 = -1 by rw [e2]; exact ne_m1 (by omega))]
    refine ⟨_, q', rfl, rfl, ?_, rfl, e4.1, Or.inr ⟨Nat.one_ne_zero, ?_⟩⟩
    · rw [e4.2.1, e2]
    · rw [e4.2.2.1, e4.2.2.2.1, e4.2.2.2.2.1, e4.2.2.2.2.2]; exact h2
  | inr a =>
    rw [hs] at e2 e4
    dsimp only at e2 e4
    rw [if_pos e2.1]
    refine ⟨_, q', rfl, rfl, ?_, rfl, e4.1, Or.inl ⟨rfl, a, e2.2.1, e2.2.2, e4.2.2⟩⟩
    rw [e4.2.1]; exact e2.2.2.1
theorem tapeI_0 {xu mt : Nat → Int32} : tapeI 0 xu 0 mt := ⟨0, fun _ => 0, by decide, fun i hi => by omega, rfl, rfl, fun i hi => by omega⟩
def portI (xp mp : Int32) : Prop := ∃ p, (1 ≤ p ∧ p ≤ 2) ∧ xp = nI p ∧ mp = nI p
def grI (xg mg : Int32) : Prop := ∃ g, g ≤ 3 ∧ xg = nI g ∧ mg = nI g
