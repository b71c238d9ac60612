def szA (a : MA) (e : Nat) : Nat := if a.2.1 e = 2 then 1 else a.2.2.1 e
theorem fr_s (a : MA) (e : Nat) : frA a (e + 1) = frA a e + szA a e := rfl
theorem fr_congr {a b : MA} : ∀ n, (∀ e, e < n → a.2.1 e = b.2.1 e ∧ a.2.2.1 e = b.2.2.1 e) → frA a n = frA b n
  | 0, _ => rfl
  | n + 1, h => by
    rw [fr_s, fr_s, fr_congr n (fun e he => h e (by omega))]
    unfold szA
    rw [(h n (by omega)).1, (h n (by omega)).2]
theorem fr_mono {a : MA} {d : Nat} : ∀ e, d ≤ e → frA a d ≤ frA a e
  | 0, h => by rw [show d = 0 by omega]; exact Nat.le_refl _
  | e + 1, h => by
    by_cases q : d = e + 1
    · rw [q]; exact Nat.le_refl _
    · rw [fr_s]
      exact Nat.le_trans (fr_mono e (by omega)) (Nat.le_add_right _ _)
theorem fr_le8 {a : MA} (h : ∀ e, e < a.1 → a.2.2.1 e ≤ 8) : ∀ e, e ≤ a.1 → frA a e ≤ 8 * e
  | 0, _ => Nat.le_refl _
  | e + 1, h1 => by
    have h2 := fr_le8 h e (by omega)
    have h3 := h e (by omega)
    rw [fr_s]
    unfold szA
    split <;> omega
theorem fr_lt {a : MA} {e k : Nat} (he : e < a.1) (hk : k < szA a e) : frA a e + k < frA a a.1 := by
  have h1 := fr_mono (a := a) (d := e + 1) a.1 (by omega)
  rw [fr_s] at h1
  omega
def XR (a : MA) (cl : Bool) (el rc : Int32) (fr rows : Nat → Int32) : Prop := el = nI a.1 ∧ rc = nI (frA a a.1) ∧ (∀ e, e ≤ a.1 → fr e = nI (frA a e)) ∧ ∀ e, e < a.1 → (a.2.1 e = 2 → rows (frA a e) = nI 24) ∧ (a.2.1 e ≠ 2 → ∀ k, k < a.2.2.1 e → rows (frA a e + k) = nI (rowA (a.2.1 e) (a.2.2.2 e k) (decide (k + 1 = a.2.2.1 e) && (decide (e + 1 < a.1) || cl))))
theorem XR_AX {a : MA} {el rc : Int32} {fr rows : Nat → Int32} (h : XR a true el rc fr rows) : AX a el rc fr rows := by
  refine ⟨h.1, h.2.1, h.2.2.1, fun e he => ⟨(h.2.2.2 e he).1, fun q k hk => ?_⟩⟩
  rw [(h.2.2.2 e he).2 q k hk]
  simp
theorem el_old {a : MA} {s e : Nat} (h : e ≠ a.1) : (addEl a s).2.1 e = a.2.1 e ∧ (addEl a s).2.2.1 e = a.2.2.1 e := ⟨updN_n h, updN_n h⟩
theorem fr_el {a : MA} {s e : Nat} (h : e ≤ a.1) : frA (addEl a s) e = frA a e := fr_congr e (fun d hd => el_old (by omega))
theorem XR_el {a : MA} {s : Nat} {el rc : Int32} {fr rows : Nat → Int32} (h : XR a true el rc fr rows) (hs : s ≠ 2) : XR (addEl a s) false (nI (a.1 + 1)) rc (upd fr (a.1 + 1) rc) rows := by
  obtain ⟨h1, h2, h3, h4⟩ := h
  have e1 : frA (addEl a s) (a.1 + 1) = frA a a.1 := by
    rw [fr_s, fr_el (Nat.le_refl _)]
    unfold szA
    show frA a a.1 + (if updN a.2.1 a.1 s a.1 = 2 then 1 else updN a.2.2.1 a.1 0 a.1) = _
    rw [updN_s, updN_s, if_neg hs]; omega
  refine ⟨rfl, by rw [show (addEl a s).1 = a.1 + 1 from rfl, e1]; exact h2, fun e he => ?_, fun e he => ?_⟩
  · have he' : e ≤ a.1 + 1 := he
    by_cases q : e = a.1 + 1
    · rw [q, upd_s, e1]; exact h2
    · rw [upd_n q, fr_el (by omega)]; exact h3 e (by omega)
  · have he' : e < a.1 + 1 := he
    by_cases q : e = a.1
    · subst q
      show (updN a.2.1 a.1 s a.1 = 2 → _) ∧ (_ → ∀ k, k < updN a.2.2.1 a.1 0 a.1 → _)
      rw [updN_s, updN_s]
      exact ⟨fun r => absurd r hs, fun _ k hk => by omega⟩
    · rw [(el_old q).1, (el_old q).2, fr_el (by omega)]
      obtain ⟨a1, a2⟩ := h4 e (by omega)
      refine ⟨a1, fun r k hk => ?_⟩
      rw [a2 r k hk]
      have : decide (e + 1 < (addEl a s).1) = true := decide_eq_true (show e + 1 < a.1 + 1 by omega)
      rw [this]
      simp [addEl]
theorem XR_pause {a : MA} {el rc : Int32} {fr rows : Nat → Int32} {x : Int32} (h : XR a true el rc fr rows) : XR (addEl a 2) true (nI (a.1 + 1)) (nI (frA a a.1 + 1)) (upd (upd fr (a.1 + 1) x) (a.1 + 1) (nI (frA a a.1 + 1))) (upd (upd rows (frA a a.1) 16) (frA a a.1) (nI 24)) := by
  obtain ⟨h1, h2, h3, h4⟩ := h
  have e1 : frA (addEl a 2) (a.1 + 1) = frA a a.1 + 1 := by
    rw [fr_s, fr_el (Nat.le_refl _)]
    unfold szA
    show frA a a.1 + (if updN a.2.1 a.1 2 a.1 = 2 then 1 else updN a.2.2.1 a.1 0 a.1) = _
    rw [updN_s, if_pos rfl]
  refine ⟨rfl, by rw [show (addEl a 2).1 = a.1 + 1 from rfl, e1], fun e he => ?_, fun e he => ?_⟩
  · have he' : e ≤ a.1 + 1 := he
    by_cases q : e = a.1 + 1
    · rw [q, upd_s, e1]
    · rw [upd_n q, upd_n q, fr_el (by omega)]; exact h3 e (by omega)
  · have he' : e < a.1 + 1 := he
    by_cases q : e = a.1
    · subst q
      rw [fr_el (Nat.le_refl _)]
      refine ⟨fun _ => upd_s, fun r => absurd updN_s r⟩
    · rw [(el_old q).1, (el_old q).2, fr_el (by omega)]
      obtain ⟨a1, a2⟩ := h4 e (by omega)
      refine ⟨fun r => ?_, fun r k hk => ?_⟩
      · have := fr_lt (a := a) (e := e) (k := 0) (by omega) (by unfold szA; rw [if_pos r]; omega)
        rw [upd_n (by omega), upd_n (by omega)]; exact a1 r
      · have := fr_lt (a := a) (e := e) (k := k) (by omega) (by unfold szA; rw [if_neg r]; exact hk)
        rw [upd_n (by omega), upd_n (by omega), a2 r k hk]
        simp [addEl]
theorem op_old {a : MA} {o e : Nat} (h : e ≠ a.1 - 1) : (addOp a o).2.1 e = a.2.1 e ∧ (addOp a o).2.2.1 e = a.2.2.1 e ∧ ∀ k, (addOp a o).2.2.2 e k = a.2.2.2 e k := ⟨rfl, updN_n h, fun k => if_neg (fun q => h q.1)⟩
theorem fr_op {a : MA} {o e : Nat} (h : e ≤ a.1 - 1) : frA (addOp a o) e = frA a e := fr_congr e (fun d hd => ⟨rfl, (op_old (show d ≠ a.1 - 1 by omega)).2.1⟩)
theorem fr_op1 {a : MA} {o : Nat} (h0 : 0 < a.1) (hs : a.2.1 (a.1 - 1) ≠ 2) : frA (addOp a o) a.1 = frA a a.1 + 1 := by
  have e1 : a.1 = a.1 - 1 + 1 := by omega
  rw [e1, fr_s, fr_s]
  rw [fr_op (Nat.le_refl _)]
  unfold szA
  show frA a (a.1 - 1) + (if a.2.1 (a.1 - 1) = 2 then 1 else updN a.2.2.1 (a.1 - 1) (a.2.2.1 (a.1 - 1) + 1) (a.1 - 1)) = _
  rw [if_neg hs, if_neg hs, updN_s]; omega
theorem XR_op {a : MA} {o : Nat} {el rc : Int32} {fr rows : Nat → Int32} (h : XR a false el rc fr rows) (h0 : 0 < a.1) (hs : a.2.1 (a.1 - 1) ≠ 2) : XR (addOp a o) false el (nI (frA a a.1 + 1)) (upd fr a.1 (nI (frA a a.1 + 1))) (upd rows (frA a a.1) (nI (rowA (a.2.1 (a.1 - 1)) o false))) := by
  obtain ⟨h1, h2, h3, h4⟩ := h
  have e1 := fr_op1 (o := o) h0 hs
  refine ⟨h1, by show _ = nI (frA (addOp a o) a.1); rw [e1], fun e he => ?_, fun e he => ?_⟩
  · have he' : e ≤ a.1 := he
    by_cases q : e = a.1
    · rw [q, upd_s, e1]
    · rw [upd_n q, fr_op (by omega)]; exact h3 e he'
  · have he' : e < a.1 := he
    have ef : frA (addOp a o) e = frA a e := fr_op (by omega)
    rw [ef]
    obtain ⟨a1, a2⟩ := h4 e he'
    by_cases q : e = a.1 - 1
    · refine ⟨fun r => absurd (by rw [← q]; exact r) hs, fun r k hk => ?_⟩
      have hk' : k < a.2.2.1 e + 1 := by
        have : k < updN a.2.2.1 (a.1 - 1) (a.2.2.1 (a.1 - 1) + 1) e := hk
        rw [q, updN_s] at this
        rw [q]; exact this
      have ef2 : frA a a.1 = frA a e + a.2.2.1 e := by
        have e2 : a.1 = e + 1 := by omega
        rw [e2, fr_s]
        unfold szA
        rw [if_neg (by rw [q]; exact hs)]
      have hd : (decide (e + 1 < (addOp a o).1) || false) = false := by
        rw [Bool.or_false]; exact decide_eq_false (show ¬ e + 1 < a.1 by omega)
      rw [hd, Bool.and_false]
      by_cases r2 : k = a.2.2.1 e
      · rw [r2, ← ef2, upd_s]
        congr 1
        show rowA (a.2.1 (a.1 - 1)) o false = rowA (a.2.1 e) (if e = a.1 - 1 ∧ a.2.2.1 e = a.2.2.1 (a.1 - 1) then o else a.2.2.2 e (a.2.2.1 e)) false
        rw [if_pos ⟨q, by rw [q]⟩, q]
      · rw [upd_n (by omega), a2 (by rw [q]; exact hs) k (by omega)]
        have hd2 : (decide (e + 1 < a.1) || false) = false := by
          rw [Bool.or_false]; exact decide_eq_false (by omega)
        rw [hd2, Bool.and_false]
        congr 1
        show rowA (a.2.1 e) (a.2.2.2 e k) false = rowA (a.2.1 e) (if e = a.1 - 1 ∧ k = a.2.2.1 (a.1 - 1) then o else a.2.2.2 e k) false
        rw [if_neg (fun x => r2 (by rw [q]; exact x.2))]
    · obtain ⟨o1, o2, o3⟩ := op_old (a := a) (o := o) q
      rw [o1, o2]
      refine ⟨fun r => ?_, fun r k hk => ?_⟩
      · have := fr_lt (a := a) (e := e) (k := 0) he' (by unfold szA; rw [if_pos r]; omega)
        rw [upd_n (by omega)]; exact a1 r
      · have := fr_lt (a := a) (e := e) (k := k) he' (by unfold szA; rw [if_neg r]; exact hk)
        rw [upd_n (by omega), a2 r k hk, o3 k]
        rfl
theorem row_last : ∀ s, s < 2 → ∀ o, o < 4 → (nI (rowA s o false) ||| 8) = nI (rowA s o true) := by decide +kernel
theorem XR_close {a : MA} {el rc : Int32} {fr rows : Nat → Int32} (h : XR a false el rc fr rows) (h0 : 0 < a.1) (hs : a.2.1 (a.1 - 1) < 2) (hc : 0 < a.2.2.1 (a.1 - 1)) (ho : ∀ k, k < a.2.2.1 (a.1 - 1) → a.2.2.2 (a.1 - 1) k < 4) : XR a true el rc fr (upd rows (frA a a.1 - 1) (rows (frA a a.1 - 1) ||| 8)) := by
  obtain ⟨h1, h2, h3, h4⟩ := h
  have ef2 : frA a a.1 = frA a (a.1 - 1) + a.2.2.1 (a.1 - 1) := by
    have e2 : a.1 = a.1 - 1 + 1 := by omega
    rw [e2, fr_s, show a.1 - 1 + 1 - 1 = a.1 - 1 by omega]
    unfold szA
    rw [if_neg (by omega)]
  refine ⟨h1, h2, h3, fun e he => ?_⟩
  obtain ⟨a1, a2⟩ := h4 e he
  by_cases q : e = a.1 - 1
  · subst q
    refine ⟨fun r => by omega, fun r k hk => ?_⟩
    have hd2 : (decide (a.1 - 1 + 1 < a.1) || false) = false := by
      rw [Bool.or_false]; exact decide_eq_false (by omega)
    have b2 := a2 r k hk
    rw [hd2, Bool.and_false] at b2
    rw [Bool.or_true, Bool.and_true]
    by_cases l : k + 1 = a.2.2.1 (a.1 - 1)
    · rw [show frA a (a.1 - 1) + k = frA a a.1 - 1 by omega] at b2 ⊢
      rw [upd_s, b2, row_last _ hs _ (ho k hk), decide_eq_true l]
    · rw [upd_n (by omega), b2, decide_eq_false l]
  · refine ⟨fun r => ?_, fun r k hk => ?_⟩
    · have := fr_mono (a := a) (d := e + 1) (a.1 - 1) (by omega)
      rw [fr_s] at this
      unfold szA at this
      rw [if_pos r] at this
      rw [upd_n (by omega)]; exact a1 r
    · have := fr_mono (a := a) (d := e + 1) (a.1 - 1) (by omega)
      rw [fr_s] at this
      unfold szA at this
      rw [if_neg r] at this
      rw [upd_n (by omega), a2 r k hk]
      have : decide (e + 1 < a.1) = true := decide_eq_true (by omega)
      rw [this]; rfl
def XS (s : AS) (el rc : Int32) (fr : Nat → Int32) (state dir op : Int32) (rows : Nat → Int32) : Prop := XR s.2.2.2 (decide (s.1 ≤ 1)) el rc fr rows ∧ state = nI s.1 ∧ (2 ≤ s.1 → dir = nI s.2.1) ∧ (s.1 = 4 → op = nI s.2.2.1)
theorem dir_row : ∀ d, d < 2 → ∀ o, o < 2 → ∀ v, v < 2 → ((nI d ||| nI (2 * o)) ||| nI (4 * v)) = nI (rowA d (2 * o + v) false) := by decide +kernel
set_option maxHeartbeats 4000000 in
theorem m_takes {s : AS} (hok : okS s) {c : Nat} (hc : c < 256) {el rc state dir op : Int32} {fr rows : Nat → Int32} (h : XS s el rc fr state dir op rows) :
    ∃ q, f_TextReader_takes 17 128 state dir op el rc fr rows (nI c) = some q ∧ match stepS s c with
      | none => q.1 = 0
      | some s' => q.1 = 1 ∧ XS s' q.2.2.2.2.1 q.2.2.2.2.2.1 q.2.2.2.2.2.2.1 q.2.1 q.2.2.1 q.2.2.2.1 q.2.2.2.2.2.2.2 := by
  obtain ⟨o1, o2, o3, o4, o5, o6⟩ := id hok
  obtain ⟨hR, rfl, hd, ho⟩ := h
  have hel := hR.1
  have hrc := hR.2.1
  subst hel hrc
  have f8 := fr_le8 (fun e he => (o5 e he).2.1) s.2.2.2.1 (Nat.le_refl _)
  have ib1 : isB 1 = true := by decide
  have ib0 : isB 0 = true := by decide
  have elem : s.1 ≤ 1 → ¬ (s.1 = 1 ∧ c = 59) → ∃ q, f_TextReader_takesElement 17 128 (nI s.2.2.2.1) (nI (frA s.2.2.2 s.2.2.2.1)) fr (nI s.1) dir rows (nI c) = some q ∧ isB q.1 = true ∧ match stepS s c with
      | none => q.1 = 0
      | some s' => q.1 = 1 ∧ XS s' q.2.1 q.2.2.1 q.2.2.2.1 q.2.2.2.2.1 q.2.2.2.2.2.1 op q.2.2.2.2.2.2 := by
    intro h1 h59
    have hR1 : XR s.2.2.2 true (nI s.2.2.2.1) (nI (frA s.2.2.2 s.2.2.2.1)) fr rows := by
      rw [decide_eq_true h1] at hR; exact hR
    unfold stepS
    rw [if_pos h1, if_neg h59]
    unfold f_TextReader_takesElement f_TextReader_takesElement_56 f_March_beginElement f_March_hasRoomForElement
    by_cases h16 : 16 ≤ s.2.2.2.1
    · rw [if_pos h16]
      refine ⟨(0, nI s.2.2.2.1, nI (frA s.2.2.2 s.2.2.2.1), fr, nI s.1, dir, rows), ?_, ib0, rfl⟩
      simp +decide (disch := first | omega | decide) only [↓reduceIte, Option.bind_some, nI_clamp, inB_nI, inB_z, cl_z, nI_eqL, nI_leL, nI_ltL, nI_geL, nI_gtL, nI_leI, nI_ltI, nI_eq, nI_1, nI_addL, nI_add, h16]
    · rw [if_neg h16]
      by_cases c100 : c = 100
      · rw [if_pos c100]
        refine ⟨(1, nI (s.2.2.2.1 + 1), nI (frA s.2.2.2 s.2.2.2.1 + 1), upd (upd fr (s.2.2.2.1 + 1) (nI (frA s.2.2.2 s.2.2.2.1))) (s.2.2.2.1 + 1) (nI (frA s.2.2.2 s.2.2.2.1 + 1)), nI 1, dir, upd (upd rows (frA s.2.2.2 s.2.2.2.1) 16) (frA s.2.2.2 s.2.2.2.1) (nI 24)), ?_, ib1, rfl, ?_⟩
        · unfold f_March_addRow f_March_hasRoomForOperation f_March_endElement
          have e1 : nI (s.2.2.2.1 + 1) - 1 = nI s.2.2.2.1 := nI_pred _
          have e2 : nI (frA s.2.2.2 s.2.2.2.1 + 1) - 1 = nI (frA s.2.2.2 s.2.2.2.1) := nI_pred _
          have e3 : upd fr (s.2.2.2.1 + 1) (nI (frA s.2.2.2 s.2.2.2.1)) s.2.2.2.1 = nI (frA s.2.2.2 s.2.2.2.1) := by rw [upd_n (by omega)]; exact hR1.2.2.1 _ (Nat.le_refl _)
          have e4 : nI (frA s.2.2.2 s.2.2.2.1) - nI (frA s.2.2.2 s.2.2.2.1) = nI 0 := by rw [pk_sub (Nat.le_refl _), Nat.sub_self]
          have e5 : (16 : Int32) ||| 8 = nI 24 := by decide
          have c100 := eq_true c100
          (have o_0 : ¬ s.2.2.2.1 + 1 ≤ 0 := (by omega); have o_1 : ¬ frA s.2.2.2 s.2.2.2.1 + 1 ≤ 0 := (by omega); simp +decide (disch := first | omega | decide) only [↓reduceIte, Option.bind_some, nI_clamp, inB_nI, inB_z, cl_z, nI_eqL, nI_leL, nI_ltL, nI_geL, nI_gtL, nI_leI, nI_ltI, nI_eq, nI_1, nI_addL, nI_add, h16, c100, o_0, o_1, e1, e2, e3, e4, upd_s, e5])
          rfl
        · refine ⟨?_, rfl, fun q => absurd (show 2 ≤ 1 from q) (by omega), fun q => absurd (show 1 = 4 from q) (by omega)⟩
          exact XR_pause hR1
      · rw [if_neg c100]
        by_cases cel : c = 94 ∨ c = 118 ∨ c = 42
        · rw [if_pos cel]
          have hso : (if c = 118 then 1 else 0) ≠ 2 := by split <;> omega
          refine ⟨(1, nI (s.2.2.2.1 + 1), nI (frA s.2.2.2 s.2.2.2.1), upd fr (s.2.2.2.1 + 1) (nI (frA s.2.2.2 s.2.2.2.1)), nI 2, nI (if c = 118 then 1 else 0), rows), ?_, ib1, rfl, ?_, rfl, fun _ => rfl, fun q => absurd (show 2 = 4 from q) (by omega)⟩
          · by_cases c118 : c = 118
            · rw [if_pos c118]
              have c94 : ¬ c = 94 := by omega
              have c118 := eq_true c118
              simp +decide (disch := first | omega | decide) only [↓reduceIte, Option.bind_some, nI_clamp, inB_nI, inB_z, cl_z, nI_eqL, nI_leL, nI_ltL, nI_geL, nI_gtL, nI_leI, nI_ltI, nI_eq, nI_1, nI_addL, nI_add, h16, c100, c94, c118]
              rfl
            · rw [if_neg c118]
              by_cases c94 : c = 94
              · have c94 := eq_true c94
                simp +decide (disch := first | omega | decide) only [↓reduceIte, Option.bind_some, nI_clamp, inB_nI, inB_z, cl_z, nI_eqL, nI_leL, nI_ltL, nI_geL, nI_gtL, nI_leI, nI_ltI, nI_eq, nI_1, nI_addL, nI_add, h16, c100, c94, c118]
                rfl
              · have c42 : (c = 42) = True := eq_true (by omega)
                simp +decide (disch := first | omega | decide) only [↓reduceIte, Option.bind_some, nI_clamp, inB_nI, inB_z, cl_z, nI_eqL, nI_leL, nI_ltL, nI_geL, nI_gtL, nI_leI, nI_ltI, nI_eq, nI_1, nI_addL, nI_add, h16, c100, c94, c118, c42]
                rfl
          · exact XR_el hR1 hso
        · rw [if_neg cel]
          refine ⟨(0, nI s.2.2.2.1, nI (frA s.2.2.2 s.2.2.2.1), fr, nI s.1, dir, rows), ?_, ib0, rfl⟩
          (have o_0 : ¬ c = 94 := (by omega); have o_1 : ¬ c = 118 := (by omega); have o_2 : ¬ c = 42 := (by omega); simp +decide (disch := first | omega | decide) only [↓reduceIte, Option.bind_some, nI_clamp, inB_nI, inB_z, cl_z, nI_eqL, nI_leL, nI_ltL, nI_geL, nI_gtL, nI_leI, nI_ltI, nI_eq, nI_1, nI_addL, nI_add, h16, c100, o_0, o_1, o_2])
  unfold f_TextReader_takes
  by_cases s0 : s.1 = 0
  · obtain ⟨q, e1, e2, e3⟩ := elem (by omega) (by omega)
    rw [if_pos (show nI s.1 = 0 by rw [s0]; rfl), e1, Option.bind_some, if_pos e2]
    exact ⟨_, rfl, e3⟩
  · rw [if_neg (nI_ne0 (by omega) (by omega))]
    by_cases s1 : s.1 = 1
    · rw [if_pos (show nI s.1 = 1 by rw [s1]; rfl)]
      by_cases c59 : c = 59
      · rw [if_pos ((nI_eqL (by omega) (by decide)).mpr c59)]
        refine ⟨_, rfl, ?_⟩
        unfold stepS
        rw [if_pos (show s.1 ≤ 1 by omega), if_pos ⟨s1, c59⟩]
        refine ⟨rfl, ?_, rfl, fun q => absurd (show 2 ≤ 0 from q) (by omega), fun q => absurd (show 0 = 4 from q) (by omega)⟩
        rw [decide_eq_true (show s.1 ≤ 1 by omega)] at hR
        exact hR
      · obtain ⟨q, e1, e2, e3⟩ := elem (by omega) (fun q => c59 q.2)
        rw [if_neg (fun q => c59 ((nI_eqL (by omega) (by decide)).mp q)), e1, Option.bind_some, if_pos e2]
        exact ⟨_, rfl, e3⟩
    · rw [if_neg (fun q => s1 ((nI_eqL (by omega) (by decide)).mp q))]
      have h2 : 2 ≤ s.1 := by omega
      obtain ⟨b1, b2, b3, b4⟩ := o6 h2
      have hR0 : XR s.2.2.2 false (nI s.2.2.2.1) (nI (frA s.2.2.2 s.2.2.2.1)) fr rows := by
        rw [decide_eq_false (show ¬ s.1 ≤ 1 by omega)] at hR; exact hR
      have hd' := hd h2
      subst hd'
      have hlast : frA s.2.2.2 s.2.2.2.1 = frA s.2.2.2 (s.2.2.2.1 - 1) + s.2.2.2.2.2.1 (s.2.2.2.1 - 1) := by
        have e2 : s.2.2.2.1 = s.2.2.2.1 - 1 + 1 := by omega
        have := fr_s s.2.2.2 (s.2.2.2.1 - 1)
        rw [← e2] at this
        rw [this]
        unfold szA
        rw [if_neg (by omega)]
      have efr := hR0.2.2.1 (s.2.2.2.1 - 1) (by omega)
      have e1 : nI s.2.2.2.1 - 1 = nI (s.2.2.2.1 - 1) := pk_sub (b := 1) (by omega)
      have e4 : nI (frA s.2.2.2 s.2.2.2.1) - nI (frA s.2.2.2 (s.2.2.2.1 - 1)) = nI (s.2.2.2.2.2.1 (s.2.2.2.1 - 1)) := by rw [pk_sub (by omega)]; congr 1; omega
      have hcl := (o5 (s.2.2.2.1 - 1) (by omega)).2.1
      have hlt := fr_le8 (fun e he => (o5 e he).2.1) (s.2.2.2.1 - 1) (by omega)
      have room : f_March_hasRoomForOperation 17 (nI s.2.2.2.1) (nI (frA s.2.2.2 s.2.2.2.1)) fr = some (if s.2.2.2.2.2.1 (s.2.2.2.1 - 1) < 8 then 1 else 0) := by
        unfold f_March_hasRoomForOperation
        by_cases r : s.2.2.2.2.2.1 (s.2.2.2.1 - 1) < 8
        · rw [if_pos r]
          (have o_0 : ¬ s.2.2.2.1 ≤ 0 := (by omega); have o_1 : ¬ 8 ≤ s.2.2.2.2.2.1 (s.2.2.2.1 - 1) := (by omega); simp +decide (disch := first | omega | decide) only [↓reduceIte, Option.bind_some, nI_clamp, inB_nI, inB_z, cl_z, nI_eqL, nI_leL, nI_ltL, nI_geL, nI_gtL, nI_leI, nI_ltI, nI_eq, nI_1, nI_addL, nI_add, o_0, e1, efr, e4, o_1])
        · rw [if_neg r]
          (have o_0 : ¬ s.2.2.2.1 ≤ 0 := (by omega); have o_1 : 8 ≤ s.2.2.2.2.2.1 (s.2.2.2.1 - 1) := (by omega); simp +decide (disch := first | omega | decide) only [↓reduceIte, Option.bind_some, nI_clamp, inB_nI, inB_z, cl_z, nI_eqL, nI_leL, nI_ltL, nI_geL, nI_gtL, nI_leI, nI_ltI, nI_eq, nI_1, nI_addL, nI_add, o_0, e1, efr, e4, o_1])
      unfold stepS
      rw [if_neg (show ¬ s.1 ≤ 1 by omega)]
      by_cases s2 : s.1 = 2
      · rw [if_pos (show nI s.1 = 2 by rw [s2]; rfl), if_pos s2]
        by_cases c40 : c = 40
        · rw [if_pos ((nI_eqL (by omega) (by decide)).mpr c40), if_pos c40]
          exact ⟨_, rfl, rfl, hR0, rfl, fun _ => rfl, fun q => absurd (show 3 = 4 from q) (by omega)⟩
        · rw [if_neg (fun q => c40 ((nI_eqL (by omega) (by decide)).mp q)), if_neg c40]
          exact ⟨_, rfl, rfl⟩
      · rw [if_neg (fun q => s2 ((nI_eqL (by omega) (by decide)).mp q)), if_neg s2]
        by_cases s3 : s.1 = 3
        · rw [if_pos (show nI s.1 = 3 by rw [s3]; rfl), if_pos s3]
          unfold f_TextReader_takesOperation f_TextReader_takesOperation_12
          rw [room, Option.bind_some]
          by_cases r : s.2.2.2.2.2.1 (s.2.2.2.1 - 1) < 8
          · rw [if_pos r, if_neg nz1]
            by_cases c114 : c = 114
            · rw [if_pos (show (c = 119 ∨ c = 114) ∧ s.2.2.2.2.2.1 (s.2.2.2.1 - 1) < 8 from ⟨Or.inr c114, r⟩), if_pos c114, if_neg (show ¬ nI c = 119 by rw [c114]; decide), if_pos (show nI c = 114 by rw [c114]; rfl), if_pos (show nI c = 114 by rw [c114]; rfl)]
              exact ⟨_, rfl, rfl, hR0, rfl, fun _ => rfl, fun _ => rfl⟩
            · by_cases c119 : c = 119
              · rw [if_pos (show (c = 119 ∨ c = 114) ∧ s.2.2.2.2.2.1 (s.2.2.2.1 - 1) < 8 from ⟨Or.inl c119, r⟩), if_neg c114, if_pos (show nI c = 119 by rw [c119]; rfl), if_neg (show ¬ nI c = 114 by rw [c119]; decide)]
                exact ⟨_, rfl, rfl, hR0, rfl, fun _ => rfl, fun _ => rfl⟩
              · rw [if_neg (show ¬ ((c = 119 ∨ c = 114) ∧ s.2.2.2.2.2.1 (s.2.2.2.1 - 1) < 8) by omega), if_neg (fun q => c119 ((nI_eqL (by omega) (by decide)).mp q)), if_neg (fun q => c114 ((nI_eqL (by omega) (by decide)).mp q))]
                exact ⟨_, rfl, rfl⟩
          · rw [if_neg r, if_pos (show (0 : Int32) = 0 from rfl), if_neg (show ¬ ((c = 119 ∨ c = 114) ∧ s.2.2.2.2.2.1 (s.2.2.2.1 - 1) < 8) from fun q => r q.2)]
            by_cases c119 : nI c = 119
            · rw [if_pos c119]; exact ⟨_, rfl, rfl⟩
            · rw [if_neg c119]
              by_cases c114 : nI c = 114
              · rw [if_pos c114]; exact ⟨_, rfl, rfl⟩
              · rw [if_neg c114]; exact ⟨_, rfl, rfl⟩
        · rw [if_neg (fun q => s3 ((nI_eqL (by omega) (by decide)).mp q)), if_neg s3]
          by_cases s4 : s.1 = 4
          · rw [if_pos (show nI s.1 = 4 by rw [s4]; rfl), if_pos s4]
            have c8 := b3 s4
            have eo := ho s4
            subst eo
            rw [if_pos c8] at room
            unfold f_TextReader_takesValue f_TextReader_takesValue_14 f_TextReader_takesValue_25 f_March_addRow
            rw [room, Option.bind_some, if_neg nz1, nI_clamp (by omega), inB_nI (by omega) (by decide), if_pos rfl, inB_nI (by omega) (by decide), if_pos rfl, nI_1, nI_clamp (by omega)]
            obtain ⟨oo, hoo, eoo⟩ : ∃ oo, oo < 2 ∧ s.2.2.1 = 2 * oo := by
              rcases o3 with q | q
              · exact ⟨0, by omega, by omega⟩
              · exact ⟨1, by omega, by omega⟩
            have hrow : ∀ v, v < 2 → ((nI s.2.1 ||| nI s.2.2.1) ||| nI (4 * v)) = nI (rowA (s.2.2.2.2.1 (s.2.2.2.1 - 1)) (s.2.2.1 + v) false) := by
              intro v hv
              rw [b2, eoo]; exact dir_row s.2.1 (by omega) oo hoo v hv
            by_cases c49 : c = 49
            · have := hrow 1 (by omega)
              rw [if_pos (Or.inr c49), if_neg (show ¬ nI c = 48 by rw [c49]; decide), if_pos (show nI c = 49 by rw [c49]; rfl), if_pos (show nI c = 49 by rw [c49]; rfl), show (4 : Int32) = nI (4 * 1) from rfl, this, c49]
              exact ⟨_, rfl, rfl, XR_op hR0 b1 (by omega), rfl, fun _ => rfl, fun q => absurd (show 5 = 4 from q) (by omega)⟩
            · by_cases c48 : c = 48
              · have := hrow 0 (by omega)
                rw [if_pos (Or.inl c48), if_pos (show nI c = 48 by rw [c48]; rfl), if_neg (show ¬ nI c = 49 by rw [c48]; decide), show (0 : Int32) = nI (4 * 0) from rfl, this, c48]
                exact ⟨_, rfl, rfl, XR_op hR0 b1 (by omega), rfl, fun _ => rfl, fun q => absurd (show 5 = 4 from q) (by omega)⟩
              · rw [if_neg (show ¬ (c = 48 ∨ c = 49) by omega), if_neg (fun q => c48 ((nI_eqL (by omega) (by decide)).mp q)), if_neg (fun q => c49 ((nI_eqL (by omega) (by decide)).mp q))]
                exact ⟨_, rfl, rfl⟩
          · rw [if_neg (fun q => s4 ((nI_eqL (by omega) (by decide)).mp q)), if_neg s4]
            have s5 : s.1 = 5 := by omega
            have c0 := b4 s5
            unfold f_TextReader_takesBehindOperation f_March_endElement
            by_cases c44 : c = 44
            · rw [if_pos c44, if_pos (show nI c = 44 by rw [c44]; rfl)]
              exact ⟨_, rfl, rfl, hR0, rfl, fun _ => rfl, fun q => absurd (show 3 = 4 from q) (by omega)⟩
            · rw [if_neg c44, if_neg (fun q => c44 ((nI_eqL (by omega) (by decide)).mp q))]
              by_cases c41 : c = 41
              · rw [if_pos c41, if_pos (show nI c = 41 by rw [c41]; rfl)]
                have hx := XR_close hR0 b1 (by omega) c0 (o5 (s.2.2.2.1 - 1) (by omega)).2.2.1
                have e6 : nI (frA s.2.2.2 s.2.2.2.1) - 1 = nI (frA s.2.2.2 s.2.2.2.1 - 1) := pk_sub (b := 1) (by omega)
                rw [if_neg (nI_nle (by omega) (by omega)), e6, inB_nI (by omega) (by decide), if_pos rfl, if_pos rfl, nI_clamp (by omega)]
                exact ⟨_, rfl, rfl, hx, rfl, fun q => absurd (show 2 ≤ 1 from q) (by omega), fun q => absurd (show 1 = 4 from q) (by omega)⟩
              · rw [if_neg c41, if_neg (fun q => c41 ((nI_eqL (by omega) (by decide)).mp q))]
                exact ⟨_, rfl, rfl⟩
def MRq (r : Nat ⊕ MA) (q : Int32 × Int32 × Int32 × (Nat → Int32) × Int32 × Int32 × Int32 × (Nat → Int32)) : Prop := match r with
  | Sum.inl p => q.1 = nI p
  | Sum.inr a => q.1 = -1 ∧ MAok a ∧ AX a q.2.1 q.2.2.1 q.2.2.2.1 q.2.2.2.2.2.2.2
def a0 : MA := (0, fun _ => 0, fun _ => 0, fun _ _ => 0)
def s0 : AS := (0, 0, 0, a0)
theorem ok_0 : okS s0 := ⟨by decide, by decide, Or.inl rfl, by decide, fun e he => absurd he (Nat.not_lt_zero e), fun q => absurd (show 2 ≤ 0 from q) (by omega)⟩
theorem m_blank {c : Nat} (hc : c < 256) : f_TextReader_isBlank (nI c) = some (b2 (blankB c)) := by
  unfold f_TextReader_isBlank blankB
  by_cases h1 : c = 9
  · subst h1; rfl
  · by_cases h2 : c = 10
    · subst h2; rfl
    · by_cases h3 : c = 13
      · subst h3; rfl
      · by_cases h4 : c = 32
        · subst h4; rfl
        · simp +decide (disch := first | omega | decide) only [↓reduceIte, Option.bind_some, nI_clamp, inB_nI, inB_z, cl_z, nI_eqL, nI_leL, nI_ltL, nI_geL, nI_gtL, nI_leI, nI_ltI, nI_eq, nI_1, nI_addL, nI_add, h1, h2, h3, h4]
set_option maxHeartbeats 4000000 in
theorem m_place {n : Nat} {t : Nat → Nat} (hn : n ≤ 400) (ht : ∀ i, i < n → t i < 256) {xu : Nat → Int32} (hu : ∀ i, i < n → xu i &&& 255 = nI (t i)) {fr rows : Nat → Int32} {dir op : Int32} :
    ∃ q, f_TextReader_placeOfFault 17 400 128 fr dir op (nI n) xu rows = some q ∧ MRq (scanF t n n s0) q := by
  unfold f_TextReader_placeOfFault f_March_clear
  rw [if_pos (show inB 0 17 = true by decide), Option.bind_some]
  refine lp_Q (I := fun i (s : Int32 × Int32 × (Nat → Int32) × Int32 × Int32 × Int32 × (Nat → Int32) × Int32) => s.2.2.2.2.2.2.2 = nI i ∧ ∃ a : AS, okS a ∧ scanF t n (n - i) a = scanF t n n s0 ∧ XS a s.1 s.2.1 s.2.2.1 s.2.2.2.1 s.2.2.2.2.1 s.2.2.2.2.2.1 s.2.2.2.2.2.2.1) n (fun (r : Option (Int32 × Int32 × Int32 × (Nat → Int32) × Int32 × Int32 × Int32 × (Nat → Int32))) => ∃ q, r = some q ∧ MRq (scanF t n n s0) q) ?_ ?_ 100000 0 (0, 0, upd fr (Int32.toNatClampNeg 0) 0, 0, dir, op, rows, 0) (Nat.zero_le _) (by omega) ⟨rfl, s0, ok_0, rfl, ⟨rfl, rfl, fun e he => ?_, fun e he => absurd he (Nat.not_lt_zero e)⟩, rfl, fun q => absurd (show 2 ≤ 0 from q) (by omega), fun q => absurd (show 0 = 4 from q) (by omega)⟩
  · rintro i ⟨el, rc, f1, st, d1, p1, r1, x⟩ rec hi ⟨hx, a, ha, hsc, hX⟩
    dsimp only at hx hX
    subst hx
    have hti := ht i hi
    have hui := hu i hi
    rw [scan_step hi] at hsc
    have hni : ¬ n ≤ i := by omega
    unfold g_TextReader_placeOfFault_11
    dsimp only
    rw [if_neg (fun q => hni ((nI_leI (by omega) (by omega)).mp q)), inB_nI (by omega) (by decide), if_pos rfl, nI_clamp (by omega), hui, m_blank hti, Option.bind_some, nI_1]
    cases hb : blankB (t i)
    · rw [hb, if_neg (by decide)] at hsc
      rw [if_pos (show b2 false = 0 from rfl)]
      obtain ⟨q, e1, e2⟩ := m_takes ha hti hX
      rw [e1, Option.bind_some]
      cases hs : stepS a (t i) with
      | none =>
        rw [hs] at hsc e2
        right
        dsimp only at e2 hsc
        rw [if_pos e2, ← hsc]
        exact ⟨_, rfl, rfl⟩
      | some a' =>
        rw [hs] at hsc e2
        left
        dsimp only at e2 hsc
        rw [if_neg (by rw [e2.1]; decide)]
        exact ⟨_, ⟨rfl, a', ok_step ha hs, hsc, e2.2⟩, rfl⟩
    · rw [hb, if_pos rfl] at hsc
      rw [if_neg nzt]
      left
      exact ⟨(el, rc, f1, st, d1, p1, r1, nI (i + 1)), ⟨rfl, a, ha, hsc, hX⟩, rfl⟩
  · rintro ⟨el, rc, f1, st, d1, p1, r1, x⟩ rec ⟨hx, a, ha, hsc, hX⟩
    dsimp only at hx hX
    subst hx
    rw [scan_end] at hsc
    have est := hX.2.1
    subst est
    have a5 := ha.1
    unfold g_TextReader_placeOfFault_11
    dsimp only
    rw [if_pos ((nI_leI (by omega) (by omega)).mpr (Nat.le_refl _)), ← hsc]
    by_cases h1 : a.1 = 1
    · rw [if_pos (show nI a.1 = 1 by rw [h1]; rfl), if_pos h1]
      have hR := hX.1
      rw [decide_eq_true (show a.1 ≤ 1 by omega)] at hR
      exact ⟨_, rfl, rfl, okS_MA ha h1, XR_AX hR⟩
    · rw [if_neg (fun q => h1 ((nI_eqL (by omega) (by decide)).mp q)), if_neg h1]
      exact ⟨_, rfl, rfl⟩
  · have he' : e ≤ 0 := he
    rw [show e = 0 by omega]
    rfl
