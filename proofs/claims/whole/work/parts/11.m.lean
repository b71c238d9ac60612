def g_TextReader_placeOfFault_11 (n_a2_firstRows : Nat) (n_a1_units : Nat) (n_a2_rows : Nat) (a1_length : Int32) (a1_units_a : Nat → Int32) (rec11 : (Int32 × Int32 × (Nat → Int32) × Int32 × Int32 × Int32 × (Nat → Int32) × Int32) → Option (Int32 × Int32 × Int32 × (Nat → Int32) × Int32 × Int32 × Int32 × (Nat → Int32))) (st : (Int32 × Int32 × (Nat → Int32) × Int32 × Int32 × Int32 × (Nat → Int32) × Int32)) : Option (Int32 × Int32 × Int32 × (Nat → Int32) × Int32 × Int32 × Int32 × (Nat → Int32)) :=
  (if a1_length ≤ st.2.2.2.2.2.2.2 then
    (if st.2.2.2.1 = 1 then
      some ((-1), st.1, st.2.1, st.2.2.1, st.2.2.2.1, st.2.2.2.2.1, st.2.2.2.2.2.1, st.2.2.2.2.2.2.1)
    else
      some (a1_length, st.1, st.2.1, st.2.2.1, st.2.2.2.1, st.2.2.2.2.1, st.2.2.2.2.2.1, st.2.2.2.2.2.2.1))
  else
    (if inB st.2.2.2.2.2.2.2 n_a1_units = true then
    (Option.bind (f_TextReader_isBlank ((a1_units_a (Int32.toNatClampNeg st.2.2.2.2.2.2.2)) &&& 255)) fun q33_2 =>
    (if q33_2 = 0 then
      (Option.bind (f_TextReader_takes n_a2_firstRows n_a2_rows st.2.2.2.1 st.2.2.2.2.1 st.2.2.2.2.2.1 st.1 st.2.1 st.2.2.1 st.2.2.2.2.2.2.1 ((a1_units_a (Int32.toNatClampNeg st.2.2.2.2.2.2.2)) &&& 255)) fun q43_3 =>
      (if q43_3.1 = 0 then
        some (st.2.2.2.2.2.2.2, q43_3.2.2.2.2.1, q43_3.2.2.2.2.2.1, q43_3.2.2.2.2.2.2.1, q43_3.2.1, q43_3.2.2.1, q43_3.2.2.2.1, q43_3.2.2.2.2.2.2.2)
      else
        (rec11 (q43_3.2.2.2.2.1, q43_3.2.2.2.2.2.1, q43_3.2.2.2.2.2.2.1, q43_3.2.1, q43_3.2.2.1, q43_3.2.2.2.1, q43_3.2.2.2.2.2.2.2, (st.2.2.2.2.2.2.2 + 1)))))
    else
      (rec11 (st.1, st.2.1, st.2.2.1, st.2.2.2.1, st.2.2.2.2.1, st.2.2.2.2.2.1, st.2.2.2.2.2.2.1, (st.2.2.2.2.2.2.2 + 1)))))
    else none))
def f_TextReader_placeOfFault (n_a2_firstRows : Nat) (n_a1_units : Nat) (n_a2_rows : Nat) (a2_firstRows_a : Nat → Int32) (t_direction : Int32) (t_operation : Int32) (a1_length : Int32) (a1_units_a : Nat → Int32) (a2_rows_a : Nat → Int32) : Option (Int32 × Int32 × Int32 × (Nat → Int32) × Int32 × Int32 × Int32 × (Nat → Int32)) :=
  (Option.bind (f_March_clear n_a2_firstRows a2_firstRows_a) fun q1_1 =>
  (lp (g_TextReader_placeOfFault_11 n_a2_firstRows n_a1_units n_a2_rows a1_length a1_units_a) 100000 (q1_1.1, q1_1.2.1, q1_1.2.2, 0, t_direction, t_operation, a2_rows_a, 0)))
def post_TextReader_placeOfFault (h_t h_a1 h_a2 h_a2_firstRows h_a1_units h_a2_rows : Nat) (n_a2_firstRows : Nat) (n_a1_units : Nat) (n_a2_rows : Nat) (a1_length : Int32) (a1_units_a : Nat → Int32) (cI cB cJ : ClassId) (res : Int32 × Int32 × Int32 × (Nat → Int32) × Int32 × Int32 × Int32 × (Nat → Int32)) : Option Value → va_W → Prop := fun o ws' => o = some (.int res.1) ∧ ws' = [(h_a2, .inr (4, [.ref h_a2_rows, .ref h_a2_firstRows, .int res.2.1, .int res.2.2.1])), (h_a2_firstRows, .inl (cI, n_a2_firstRows, .inl res.2.2.2.1)), (h_t, .inr (9, [.int res.2.2.2.2.1, .int res.2.2.2.2.2.1, .int res.2.2.2.2.2.2.1])), (h_a1, .inr (7, [.ref h_a1_units, .int a1_length])), (h_a1_units, .inl (cB, n_a1_units, .inl a1_units_a)), (h_a2_rows, .inl (cI, n_a2_rows, .inl res.2.2.2.2.2.2.2))]
abbrev rm_TextReader_placeOfFault : Room := { frames := 4, cells := 0, slots := 0, locals := 86 }
set_option maxHeartbeats 4000000 in
set_option maxRecDepth 100000 in
theorem kb_TextReader_placeOfFault_11 {p : Program} {l : Launch} {e : Env} {s : State} {m : MethodId} {args : Array Value} {below : List Frame} {meth : Method} {c : Code} {D : va_G} {cI cB cJ : ClassId} {A : Nat → Prop} (C0 : CX p s m args meth c D [(cI, .int), (cB, .byte), (cJ, .long)] R_TextReader b_TextReader_placeOfFault 5 (some .int) "placeOfFault") (hA : ∀ q, s.heap.size ≤ q → A q) {h_t h_a1 h_a2 h_a2_firstRows h_a1_units h_a2_rows : Nat} {res : Int32 × Int32 × Int32 × (Nat → Int32) × Int32 × Int32 × Int32 × (Nat → Int32)} {rec11 : (Int32 × Int32 × (Nat → Int32) × Int32 × Int32 × Int32 × (Nat → Int32) × Int32) → Option (Int32 × Int32 × Int32 × (Nat → Int32) × Int32 × Int32 × Int32 × (Nat → Int32))} {n_a2_firstRows : Nat} {n_a1_units : Nat} {n_a2_rows : Nat} {a2_elements : Int32} {a2_rowCount : Int32} {a2_firstRows_a : Nat → Int32} {t_state : Int32} {t_direction : Int32} {t_operation : Int32} {a1_length : Int32} {a1_units_a : Nat → Int32} {a2_rows_a : Nat → Int32} {x3 : Int32}
    (hrec11 : ∀ (st : (Int32 × Int32 × (Nat → Int32) × Int32 × Int32 × Int32 × (Nat → Int32) × Int32)), rec11 st = some res → ∀  (H : Heap) (locs : List Loc) (ls : Array Slot), va_P D classes [(h_a2, .inr (4, [.ref h_a2_rows, .ref h_a2_firstRows, .int st.1, .int st.2.1])), (h_a2_firstRows, .inl (cI, n_a2_firstRows, .inl st.2.2.1)), (h_t, .inr (9, [.int st.2.2.2.1, .int st.2.2.2.2.1, .int st.2.2.2.2.2.1])), (h_a1, .inr (7, [.ref h_a1_units, .int a1_length])), (h_a1_units, .inl (cB, n_a1_units, .inl a1_units_a)), (h_a2_rows, .inl (cI, n_a2_rows, .inl st.2.2.2.2.2.2.1))] H → va_D A [(h_a2, .inr (4, [.ref h_a2_rows, .ref h_a2_firstRows, .int st.1, .int st.2.1])), (h_a2_firstRows, .inl (cI, n_a2_firstRows, .inl st.2.2.1)), (h_t, .inr (9, [.int st.2.2.2.1, .int st.2.2.2.2.1, .int st.2.2.2.2.2.1])), (h_a1, .inr (7, [.ref h_a1_units, .int a1_length])), (h_a1_units, .inl (cB, n_a1_units, .inl a1_units_a)), (h_a2_rows, .inl (cI, n_a2_rows, .inl st.2.2.2.2.2.2.1))] → va_S A s.heap H locs → lv_has ls 5 [(0, .ref h_t), (1, .ref h_a1), (2, .ref h_a2), (3, .int st.2.2.2.2.2.2.2)] → W p l e rm_TextReader_placeOfFault s m args below meth c H locs 0 0 (MQ below (QW D (post_TextReader_placeOfFault h_t h_a1 h_a2 h_a2_firstRows h_a1_units h_a2_rows n_a2_firstRows n_a1_units n_a2_rows a1_length a1_units_a cI cB cJ res) A) args s 0 0 A) (F0 m 11 ls []))
    (hf : g_TextReader_placeOfFault_11 n_a2_firstRows n_a1_units n_a2_rows a1_length a1_units_a rec11 (a2_elements, a2_rowCount, a2_firstRows_a, t_state, t_direction, t_operation, a2_rows_a, x3) = some res) {H : Heap} {locs : List Loc} {ls : Array Slot} (hP : va_P D classes [(h_a2, .inr (4, [.ref h_a2_rows, .ref h_a2_firstRows, .int a2_elements, .int a2_rowCount])), (h_a2_firstRows, .inl (cI, n_a2_firstRows, .inl a2_firstRows_a)), (h_t, .inr (9, [.int t_state, .int t_direction, .int t_operation])), (h_a1, .inr (7, [.ref h_a1_units, .int a1_length])), (h_a1_units, .inl (cB, n_a1_units, .inl a1_units_a)), (h_a2_rows, .inl (cI, n_a2_rows, .inl a2_rows_a))] H) (hD : va_D A [(h_a2, .inr (4, [.ref h_a2_rows, .ref h_a2_firstRows, .int a2_elements, .int a2_rowCount])), (h_a2_firstRows, .inl (cI, n_a2_firstRows, .inl a2_firstRows_a)), (h_t, .inr (9, [.int t_state, .int t_direction, .int t_operation])), (h_a1, .inr (7, [.ref h_a1_units, .int a1_length])), (h_a1_units, .inl (cB, n_a1_units, .inl a1_units_a)), (h_a2_rows, .inl (cI, n_a2_rows, .inl a2_rows_a))]) (hS : va_S A s.heap H locs) (hl : lv_has ls 5 [(0, .ref h_t), (1, .ref h_a1), (2, .ref h_a2), (3, .int x3)]) : W p l e rm_TextReader_placeOfFault s m args below meth c H locs 0 0 (MQ below (QW D (post_TextReader_placeOfFault h_t h_a1 h_a2 h_a2_firstRows h_a1_units h_a2_rows n_a2_firstRows n_a1_units n_a2_rows a1_length a1_units_a cI cB cJ res) A) args s 0 0 A) (F0 m 11 ls []) := by
  obtain ⟨hx, hb, hml, hr, hlocks, hts, hown, hK, hin⟩ := id C0
  have hf : (((
  (if a1_length ≤ x3 then
    (if t_state = 1 then
      some ((-1), a2_elements, a2_rowCount, a2_firstRows_a, t_state, t_direction, t_operation, a2_rows_a)
    else
      some (a1_length, a2_elements, a2_rowCount, a2_firstRows_a, t_state, t_direction, t_operation, a2_rows_a))
  else
    (if inB x3 n_a1_units = true then
    (Option.bind (f_TextReader_isBlank ((a1_units_a (Int32.toNatClampNeg x3)) &&& 255)) fun q33_2 =>
    (if q33_2 = 0 then
      (Option.bind (f_TextReader_takes n_a2_firstRows n_a2_rows t_state t_direction t_operation a2_elements a2_rowCount a2_firstRows_a a2_rows_a ((a1_units_a (Int32.toNatClampNeg x3)) &&& 255)) fun q43_3 =>
      (if q43_3.1 = 0 then
        some (x3, q43_3.2.2.2.2.1, q43_3.2.2.2.2.2.1, q43_3.2.2.2.2.2.2.1, q43_3.2.1, q43_3.2.2.1, q43_3.2.2.2.1, q43_3.2.2.2.2.2.2.2)
      else
        (rec11 (q43_3.2.2.2.2.1, q43_3.2.2.2.2.2.1, q43_3.2.2.2.2.2.2.1, q43_3.2.1, q43_3.2.2.1, q43_3.2.2.2.1, q43_3.2.2.2.2.2.2.2, (x3 + 1)))))
    else
      (rec11 (a2_elements, a2_rowCount, a2_firstRows_a, t_state, t_direction, t_operation, a2_rows_a, (x3 + 1)))))
    else none)))) : Option (Int32 × Int32 × Int32 × (Nat → Int32) × Int32 × Int32 × Int32 × (Nat → Int32))) = some res := hf
  refine lv_iload_n hx hb d_TextReader_placeOfFault_11 rfl (lv_at hl 3 rfl) ?_
  refine lv_aload_n hx hb d_TextReader_placeOfFault_12 rfl (lv_at hl 1 rfl) ?_
  refine va_get (D := D) (ci := 7) (v := .int a1_length) (C := R_Tape) (T := F_Tape) (N := 2) hx hb hts i_Tape hown hK.1 hP 3 rfl rfl 1 (by decide) (hts _ w_165) (fun _ h9 => h9) rfl d_TextReader_placeOfFault_13 ?_
  refine lv_icmp_ge (tgt := 57) hx hb d_TextReader_placeOfFault_16 (by decide) (fun cc16 => ?_) (fun cc16 => ?_)
  · have hf := ifT cc16 hf
    refine lv_aload_n hx hb d_TextReader_placeOfFault_57 rfl (lv_at hl 0 rfl) ?_
    refine va_get (D := D) (ci := 9) (v := .int t_state) (C := R_TextReader) (T := F_TextReader) (N := 3) hx hb hts i_TextReader hown hK.1 hP 2 rfl rfl 0 (by decide) (hts _ w_134) (fun _ h9 => h9) rfl d_TextReader_placeOfFault_58 ?_
    refine lv_iconst (v := 1) hx hb d_TextReader_placeOfFault_61 (by decide) ?_
    refine lv_icmp_ne (tgt := 69) hx hb d_TextReader_placeOfFault_62 (by decide) (fun cc62 => ?_) (fun cc62 => ?_)
    · have hf := ifF cc62 hf
      refine lv_aload_n hx hb d_TextReader_placeOfFault_69 rfl (lv_at hl 1 rfl) ?_
      refine va_get (D := D) (ci := 7) (v := .int a1_length) (C := R_Tape) (T := F_Tape) (N := 2) hx hb hts i_Tape hown hK.1 hP 3 rfl rfl 1 (by decide) (hts _ w_165) (fun _ h9 => h9) rfl d_TextReader_placeOfFault_70 ?_
      obtain rfl := Option.some.inj hf
      exact ret_i hx hb hr hlocks hP hD hS ⟨rfl, rfl⟩ d_TextReader_placeOfFault_73
    · have hf := ifT cc62 hf
      refine lv_iconst (v := (-1)) hx hb d_TextReader_placeOfFault_65 (by decide) ?_
      refine lv_goto (tgt := 73) hx hb d_TextReader_placeOfFault_66 (by decide) ?_
      obtain rfl := Option.some.inj hf
      exact ret_i hx hb hr hlocks hP hD hS ⟨rfl, rfl⟩ d_TextReader_placeOfFault_73
  · have hf := ifF cc16 hf
    refine lv_aload_n hx hb d_TextReader_placeOfFault_19 rfl (lv_at hl 1 rfl) ?_
    refine va_get (D := D) (ci := 7) (v := .ref h_a1_units) (C := R_Tape) (T := F_Tape) (N := 2) hx hb hts i_Tape hown hK.1 hP 3 rfl rfl 0 (by decide) (hts _ w_166) (fun _ h9 => h9) rfl d_TextReader_placeOfFault_20 ?_
    refine lv_iload_n hx hb d_TextReader_placeOfFault_23 rfl (lv_at hl 3 rfl) ?_
    obtain ⟨hin1, hf⟩ := ifG hf
    refine va_bald hx hb hK.1 hP 4 1 rfl rfl (inB_in hin1) d_TextReader_placeOfFault_24 ?_
    refine lv_sipush (v := 255) hx hb d_TextReader_placeOfFault_25 (by decide) ?_
    refine lv_iand hx hb d_TextReader_placeOfFault_28 ?_
    refine lv_istore (lv' := [(4, .int ((a1_units_a (Int32.toNatClampNeg x3)) &&& 255)), (0, .ref h_t), (1, .ref h_a1), (2, .ref h_a2), (3, .int x3)]) hx hb d_TextReader_placeOfFault_29 hl (by decide) rfl (fun ls hl => ?_)
    refine lv_iload hx hb d_TextReader_placeOfFault_31 (lv_at hl 0 rfl) ?_
    obtain ⟨q33_2, hc, hf⟩ := bindS hf
    refine mcS (n := 1) (As := [.int ((a1_units_a (Int32.toNatClampNeg x3)) &&& 255)]) (rest := []) (wr := [(h_a2, .inr (4, [.ref h_a2_rows, .ref h_a2_firstRows, .int a2_elements, .int a2_rowCount])), (h_a2_firstRows, .inl (cI, n_a2_firstRows, .inl a2_firstRows_a)), (h_t, .inr (9, [.int t_state, .int t_direction, .int t_operation])), (h_a1, .inr (7, [.ref h_a1_units, .int a1_length])), (h_a1_units, .inl (cB, n_a1_units, .inl a1_units_a)), (h_a2_rows, .inl (cI, n_a2_rows, .inl a2_rows_a))]) hx hb hml hown hts hK (c_TextReader_isBlank (l := l) (D := D) (cI := cI) (cB := cB) (cJ := cJ) (a1 := ((a1_units_a (Int32.toNatClampNeg x3)) &&& 255)) (sz := H.size) (res := q33_2) (hf := hc)) w_167 w_168 w_82 w_169 (by decide +kernel) rfl rfl ⟨Nat.le_of_ble_eq_true rfl, Nat.le_of_ble_eq_true rfl⟩ hP hD hS hA [] [0, 1, 2, 3, 4, 5] rfl rfl (by decide) (by decide) (by decide) hl.1 rfl rfl (lv_room (Nat.le_of_ble_eq_true rfl)) d_TextReader_placeOfFault_33 ⟨Nat.le_of_ble_eq_true rfl, Nat.le_of_ble_eq_true rfl⟩ (fun o ws' H locs hp hP hD hS => ?_)
    obtain ⟨rfl, rfl⟩ := hp
    have hP : va_P D classes [(h_a2, .inr (4, [.ref h_a2_rows, .ref h_a2_firstRows, .int a2_elements, .int a2_rowCount])), (h_a2_firstRows, .inl (cI, n_a2_firstRows, .inl a2_firstRows_a)), (h_t, .inr (9, [.int t_state, .int t_direction, .int t_operation])), (h_a1, .inr (7, [.ref h_a1_units, .int a1_length])), (h_a1_units, .inl (cB, n_a1_units, .inl a1_units_a)), (h_a2_rows, .inl (cI, n_a2_rows, .inl a2_rows_a))] H := hP.sub [0, 1, 2, 3, 4, 5] rfl
    have hD : va_D A [(h_a2, .inr (4, [.ref h_a2_rows, .ref h_a2_firstRows, .int a2_elements, .int a2_rowCount])), (h_a2_firstRows, .inl (cI, n_a2_firstRows, .inl a2_firstRows_a)), (h_t, .inr (9, [.int t_state, .int t_direction, .int t_operation])), (h_a1, .inr (7, [.ref h_a1_units, .int a1_length])), (h_a1_units, .inl (cB, n_a1_units, .inl a1_units_a)), (h_a2_rows, .inl (cI, n_a2_rows, .inl a2_rows_a))] := hD.sub [0, 1, 2, 3, 4, 5] (by decide) rfl
    refine lv_if_ne (tgt := 51) hx hb d_TextReader_placeOfFault_36 (by decide) (fun cc36 => ?_) (fun cc36 => ?_)
    · have hf := ifF cc36 hf
      refine lv_iinc (v := (x3 + 1)) (lv' := [(3, .int (x3 + 1)), (4, .int ((a1_units_a (Int32.toNatClampNeg x3)) &&& 255)), (0, .ref h_t), (1, .ref h_a1), (2, .ref h_a2)]) hx hb d_TextReader_placeOfFault_51 hl (k := 4) rfl rfl (by decide) rfl (fun ls hl => ?_)
      refine lv_goto (tgt := 11) hx hb d_TextReader_placeOfFault_54 (by decide) ?_
      exact hrec11 (a2_elements, a2_rowCount, a2_firstRows_a, t_state, t_direction, t_operation, a2_rows_a, (x3 + 1)) hf  H locs ls hP hD hS (lv_sub hl [2, 3, 4, 0] rfl)
    · have hf := ifT cc36 hf
      refine lv_aload_n hx hb d_TextReader_placeOfFault_39 rfl (lv_at hl 1 rfl) ?_
      refine lv_iload hx hb d_TextReader_placeOfFault_40 (lv_at hl 0 rfl) ?_
      refine lv_aload_n hx hb d_TextReader_placeOfFault_42 rfl (lv_at hl 3 rfl) ?_
      obtain ⟨q43_3, hc, hf⟩ := bindS hf
      refine mcV (n := 2) (As := [.int ((a1_units_a (Int32.toNatClampNeg x3)) &&& 255), .ref h_a2]) (rest := []) (wr := [(h_a1, .inr (7, [.ref h_a1_units, .int a1_length])), (h_a1_units, .inl (cB, n_a1_units, .inl a1_units_a))]) hx hb hml hown hts hK (c_TextReader_takes (l := l) (D := D) (cI := cI) (cB := cB) (cJ := cJ) (h_t := h_t) (h_a2 := h_a2) (h_a2_firstRows := h_a2_firstRows) (h_a2_rows := h_a2_rows) (n_a2_firstRows := n_a2_firstRows) (n_a2_rows := n_a2_rows) (t_state := t_state) (t_direction := t_direction) (t_operation := t_operation) (a2_elements := a2_elements) (a2_rowCount := a2_rowCount) (a2_firstRows_a := a2_firstRows_a) (a2_rows_a := a2_rows_a) (a1 := ((a1_units_a (Int32.toNatClampNeg x3)) &&& 255)) (sz := H.size) (res := q43_3) (hf := hc)) w_170 w_171 w_172 w_82 w_173 (by decide +kernel) rfl rfl ⟨Nat.le_of_ble_eq_true rfl, Nat.le_of_ble_eq_true rfl⟩ hP hD hS hA [2, 0, 1, 5] [3, 4] rfl rfl (by decide) (by decide) (by decide) (ci := 9) 0 rfl rfl hl.1 rfl rfl (lv_room (Nat.le_of_ble_eq_true rfl)) d_TextReader_placeOfFault_43 ⟨Nat.le_of_ble_eq_true rfl, Nat.le_of_ble_eq_true rfl⟩ (fun o ws' H locs hp hP hD hS => ?_)
      obtain ⟨rfl, rfl⟩ := hp
      have hP : va_P D classes [(h_a2, .inr (4, [.ref h_a2_rows, .ref h_a2_firstRows, .int q43_3.2.2.2.2.1, .int q43_3.2.2.2.2.2.1])), (h_a2_firstRows, .inl (cI, n_a2_firstRows, .inl q43_3.2.2.2.2.2.2.1)), (h_t, .inr (9, [.int q43_3.2.1, .int q43_3.2.2.1, .int q43_3.2.2.2.1])), (h_a1, .inr (7, [.ref h_a1_units, .int a1_length])), (h_a1_units, .inl (cB, n_a1_units, .inl a1_units_a)), (h_a2_rows, .inl (cI, n_a2_rows, .inl q43_3.2.2.2.2.2.2.2))] H := hP.sub [3, 4, 2, 0, 1, 5] rfl
      have hD : va_D A [(h_a2, .inr (4, [.ref h_a2_rows, .ref h_a2_firstRows, .int q43_3.2.2.2.2.1, .int q43_3.2.2.2.2.2.1])), (h_a2_firstRows, .inl (cI, n_a2_firstRows, .inl q43_3.2.2.2.2.2.2.1)), (h_t, .inr (9, [.int q43_3.2.1, .int q43_3.2.2.1, .int q43_3.2.2.2.1])), (h_a1, .inr (7, [.ref h_a1_units, .int a1_length])), (h_a1_units, .inl (cB, n_a1_units, .inl a1_units_a)), (h_a2_rows, .inl (cI, n_a2_rows, .inl q43_3.2.2.2.2.2.2.2))] := hD.sub [3, 4, 2, 0, 1, 5] (by decide) rfl
      refine lv_if_ne (tgt := 51) hx hb d_TextReader_placeOfFault_46 (by decide) (fun cc46 => ?_) (fun cc46 => ?_)
      · have hf := ifF cc46 hf
        refine lv_iinc (v := (x3 + 1)) (lv' := [(3, .int (x3 + 1)), (4, .int ((a1_units_a (Int32.toNatClampNeg x3)) &&& 255)), (0, .ref h_t), (1, .ref h_a1), (2, .ref h_a2)]) hx hb d_TextReader_placeOfFault_51 hl (k := 4) rfl rfl (by decide) rfl (fun ls hl => ?_)
        refine lv_goto (tgt := 11) hx hb d_TextReader_placeOfFault_54 (by decide) ?_
        exact hrec11 (q43_3.2.2.2.2.1, q43_3.2.2.2.2.2.1, q43_3.2.2.2.2.2.2.1, q43_3.2.1, q43_3.2.2.1, q43_3.2.2.2.1, q43_3.2.2.2.2.2.2.2, (x3 + 1)) hf  H locs ls hP hD hS (lv_sub hl [2, 3, 4, 0] rfl)
      · have hf := ifT cc46 hf
        refine lv_iload_n hx hb d_TextReader_placeOfFault_49 rfl (lv_at hl 4 rfl) ?_
        obtain rfl := Option.some.inj hf
        exact ret_i hx hb hr hlocks hP hD hS ⟨rfl, rfl⟩ d_TextReader_placeOfFault_50
set_option maxHeartbeats 4000000 in
set_option maxRecDepth 100000 in
theorem k_TextReader_placeOfFault_11 {p : Program} {l : Launch} {e : Env} {s : State} {m : MethodId} {args : Array Value} {below : List Frame} {meth : Method} {c : Code} {D : va_G} {cI cB cJ : ClassId} {A : Nat → Prop} (C0 : CX p s m args meth c D [(cI, .int), (cB, .byte), (cJ, .long)] R_TextReader b_TextReader_placeOfFault 5 (some .int) "placeOfFault") (hA : ∀ q, s.heap.size ≤ q → A q) {h_t h_a1 h_a2 h_a2_firstRows h_a1_units h_a2_rows : Nat} {res : Int32 × Int32 × Int32 × (Nat → Int32) × Int32 × Int32 × Int32 × (Nat → Int32)} {n_a2_firstRows : Nat} {n_a1_units : Nat} {n_a2_rows : Nat} {a1_length : Int32} {a1_units_a : Nat → Int32}
    : ∀ (n : Nat) (st : (Int32 × Int32 × (Nat → Int32) × Int32 × Int32 × Int32 × (Nat → Int32) × Int32)), lp (g_TextReader_placeOfFault_11 n_a2_firstRows n_a1_units n_a2_rows a1_length a1_units_a) n st = some res → ∀  (H : Heap) (locs : List Loc) (ls : Array Slot), va_P D classes [(h_a2, .inr (4, [.ref h_a2_rows, .ref h_a2_firstRows, .int st.1, .int st.2.1])), (h_a2_firstRows, .inl (cI, n_a2_firstRows, .inl st.2.2.1)), (h_t, .inr (9, [.int st.2.2.2.1, .int st.2.2.2.2.1, .int st.2.2.2.2.2.1])), (h_a1, .inr (7, [.ref h_a1_units, .int a1_length])), (h_a1_units, .inl (cB, n_a1_units, .inl a1_units_a)), (h_a2_rows, .inl (cI, n_a2_rows, .inl st.2.2.2.2.2.2.1))] H → va_D A [(h_a2, .inr (4, [.ref h_a2_rows, .ref h_a2_firstRows, .int st.1, .int st.2.1])), (h_a2_firstRows, .inl (cI, n_a2_firstRows, .inl st.2.2.1)), (h_t, .inr (9, [.int st.2.2.2.1, .int st.2.2.2.2.1, .int st.2.2.2.2.2.1])), (h_a1, .inr (7, [.ref h_a1_units, .int a1_length])), (h_a1_units, .inl (cB, n_a1_units, .inl a1_units_a)), (h_a2_rows, .inl (cI, n_a2_rows, .inl st.2.2.2.2.2.2.1))] → va_S A s.heap H locs → lv_has ls 5 [(0, .ref h_t), (1, .ref h_a1), (2, .ref h_a2), (3, .int st.2.2.2.2.2.2.2)] → W p l e rm_TextReader_placeOfFault s m args below meth c H locs 0 0 (MQ below (QW D (post_TextReader_placeOfFault h_t h_a1 h_a2 h_a2_firstRows h_a1_units h_a2_rows n_a2_firstRows n_a1_units n_a2_rows a1_length a1_units_a cI cB cJ res) A) args s 0 0 A) (F0 m 11 ls []) := by
  intro n
  induction n with
  | zero => intro st hf; exact absurd hf (by simp [lp])
  | succ n ih =>
    intro st hf  H locs ls hP hD hS hl
    exact kb_TextReader_placeOfFault_11 C0 hA (rec11 := lp (g_TextReader_placeOfFault_11 n_a2_firstRows n_a1_units n_a2_rows a1_length a1_units_a) n) (a2_elements := st.1) (a2_rowCount := st.2.1) (a2_firstRows_a := st.2.2.1) (t_state := st.2.2.2.1) (t_direction := st.2.2.2.2.1) (t_operation := st.2.2.2.2.2.1) (a2_rows_a := st.2.2.2.2.2.2.1) (x3 := st.2.2.2.2.2.2.2)  (fun st hf  H locs ls hP hD hS hl => ih st hf  H locs ls hP hD hS hl) hf hP hD hS hl
set_option maxHeartbeats 4000000 in
set_option maxRecDepth 100000 in
theorem c_TextReader_placeOfFault (l : Launch) (D : va_G) (cI cB cJ : ClassId) (h_t h_a1 h_a2 h_a2_firstRows h_a1_units h_a2_rows : Nat)  (n_a2_firstRows : Nat) (n_a1_units : Nat) (n_a2_rows : Nat) (a2_elements : Int32) (a2_rowCount : Int32) (a2_firstRows_a : Nat → Int32) (t_state : Int32) (t_direction : Int32) (t_operation : Int32) (a1_length : Int32) (a1_units_a : Nat → Int32) (a2_rows_a : Nat → Int32) (sz : Nat) (res : Int32 × Int32 × Int32 × (Nat → Int32) × Int32 × Int32 × Int32 × (Nat → Int32)) (hf : f_TextReader_placeOfFault n_a2_firstRows n_a1_units n_a2_rows a2_firstRows_a t_direction t_operation a1_length a1_units_a a2_rows_a = some res) : Met l y_TextReader_placeOfFault (.code y_TextReader_placeOfFault b_TextReader_placeOfFault 5 (some .int) :: TB) rm_TextReader_placeOfFault (PcW D [(cI, .int), (cB, .byte), (cJ, .long)] [.ref h_t, .ref h_a1, .ref h_a2] [(h_a2, .inr (4, [.ref h_a2_rows, .ref h_a2_firstRows, .int a2_elements, .int a2_rowCount])), (h_a2_firstRows, .inl (cI, n_a2_firstRows, .inl a2_firstRows_a)), (h_t, .inr (9, [.int t_state, .int t_direction, .int t_operation])), (h_a1, .inr (7, [.ref h_a1_units, .int a1_length])), (h_a1_units, .inl (cB, n_a1_units, .inl a1_units_a)), (h_a2_rows, .inl (cI, n_a2_rows, .inl a2_rows_a))] sz) (QW D (post_TextReader_placeOfFault h_t h_a1 h_a2 h_a2_firstRows h_a1_units h_a2_rows n_a2_firstRows n_a1_units n_a2_rows a1_length a1_units_a cI cB cJ res) (va_A [(h_a2, .inr (4, [.ref h_a2_rows, .ref h_a2_firstRows, .int a2_elements, .int a2_rowCount])), (h_a2_firstRows, .inl (cI, n_a2_firstRows, .inl a2_firstRows_a)), (h_t, .inr (9, [.int t_state, .int t_direction, .int t_operation])), (h_a1, .inr (7, [.ref h_a1_units, .int a1_length])), (h_a1_units, .inl (cB, n_a1_units, .inl a1_units_a)), (h_a2_rows, .inl (cI, n_a2_rows, .inl a2_rows_a))] sz)) 0 0 (va_A [(h_a2, .inr (4, [.ref h_a2_rows, .ref h_a2_firstRows, .int a2_elements, .int a2_rowCount])), (h_a2_firstRows, .inl (cI, n_a2_firstRows, .inl a2_firstRows_a)), (h_t, .inr (9, [.int t_state, .int t_direction, .int t_operation])), (h_a1, .inr (7, [.ref h_a1_units, .int a1_length])), (h_a1_units, .inl (cB, n_a1_units, .inl a1_units_a)), (h_a2_rows, .inl (cI, n_a2_rows, .inl a2_rows_a))] sz) := by
  refine entW ⟨by decide +kernel, rfl⟩ fun p e s m below meth c C0 hP hD hsz ls hl => ?_
  subst hsz
  generalize hAe : va_A [(h_a2, .inr (4, [.ref h_a2_rows, .ref h_a2_firstRows, .int a2_elements, .int a2_rowCount])), (h_a2_firstRows, .inl (cI, n_a2_firstRows, .inl a2_firstRows_a)), (h_t, .inr (9, [.int t_state, .int t_direction, .int t_operation])), (h_a1, .inr (7, [.ref h_a1_units, .int a1_length])), (h_a1_units, .inl (cB, n_a1_units, .inl a1_units_a)), (h_a2_rows, .inl (cI, n_a2_rows, .inl a2_rows_a))] s.heap.size = A at hD ⊢
  have hA : ∀ q : Nat, s.heap.size ≤ q → A q := fun q h => by rw [← hAe]; exact Or.inr h
  clear hAe
  have hS : va_S A s.heap s.heap [] := va_S.rf
  have hl : lv_has ls 5 [(0, .ref h_t), (1, .ref h_a1), (2, .ref h_a2)] := hl
  obtain ⟨hx, hb, hml, hr, hlocks, hts, hown, hK, hin⟩ := id C0
  have hf : (((
  (Option.bind (f_March_clear n_a2_firstRows a2_firstRows_a) fun q1_1 =>
  (lp (g_TextReader_placeOfFault_11 n_a2_firstRows n_a1_units n_a2_rows a1_length a1_units_a) 100000 (q1_1.1, q1_1.2.1, q1_1.2.2, 0, t_direction, t_operation, a2_rows_a, 0))))) : Option (Int32 × Int32 × Int32 × (Nat → Int32) × Int32 × Int32 × Int32 × (Nat → Int32))) = some res := hf
  obtain ⟨H, hH⟩ : ∃ H, H = s.heap := ⟨_, rfl⟩
  obtain ⟨locs, hlo⟩ : ∃ x : List Loc, x = [] := ⟨_, rfl⟩
  rw [← hlo] at hS ⊢
  have hP : va_P D classes [(h_a2, .inr (4, [.ref h_a2_rows, .ref h_a2_firstRows, .int a2_elements, .int a2_rowCount])), (h_a2_firstRows, .inl (cI, n_a2_firstRows, .inl a2_firstRows_a)), (h_t, .inr (9, [.int t_state, .int t_direction, .int t_operation])), (h_a1, .inr (7, [.ref h_a1_units, .int a1_length])), (h_a1_units, .inl (cB, n_a1_units, .inl a1_units_a)), (h_a2_rows, .inl (cI, n_a2_rows, .inl a2_rows_a))] H := by rw [hH]; exact hP
  have hS : va_S A s.heap H locs := by rw [hH]; exact hS
  show W p l e rm_TextReader_placeOfFault s m _ below meth c s.heap locs 0 0 (MQ below (QW D (post_TextReader_placeOfFault h_t h_a1 h_a2 h_a2_firstRows h_a1_units h_a2_rows n_a2_firstRows n_a1_units n_a2_rows a1_length a1_units_a cI cB cJ res) A) _ s 0 0 A) (F0 m 0 ls [])
  refine wheap hH ?_
  clear hH hlo
  refine lv_aload_n hx hb d_TextReader_placeOfFault_0 rfl (lv_at hl 2 rfl) ?_
  obtain ⟨q1_1, hc, hf⟩ := bindS hf
  refine mcV (n := 0) (As := []) (rest := []) (wr := [(h_t, .inr (9, [.int t_state, .int t_direction, .int t_operation])), (h_a1, .inr (7, [.ref h_a1_units, .int a1_length])), (h_a1_units, .inl (cB, n_a1_units, .inl a1_units_a)), (h_a2_rows, .inl (cI, n_a2_rows, .inl a2_rows_a))]) hx hb hml hown hts hK (c_March_clear (l := l) (D := D) (cI := cI) (cB := cB) (cJ := cJ) (h_t := h_a2) (h_t_firstRows := h_a2_firstRows) (v_t_rows := (.ref h_a2_rows)) (n_t_firstRows := n_a2_firstRows) (t_elements := a2_elements) (t_rowCount := a2_rowCount) (t_firstRows_a := a2_firstRows_a) (sz := H.size) (res := q1_1) (hf := hc)) w_161 w_162 w_163 w_107 w_164 (by decide +kernel) rfl rfl ⟨Nat.le_of_ble_eq_true rfl, Nat.le_of_ble_eq_true rfl⟩ hP hD hS hA [0, 1] [2, 3, 4, 5] rfl rfl (by decide) (by decide) (by decide) (ci := 4) 0 rfl rfl hl.1 rfl rfl (lv_room (Nat.le_of_ble_eq_true rfl)) d_TextReader_placeOfFault_1 ⟨Nat.le_of_ble_eq_true rfl, Nat.le_of_ble_eq_true rfl⟩ (fun o ws' H locs hp hP hD hS => ?_)
  obtain ⟨rfl, rfl⟩ := hp
  have hP : va_P D classes [(h_a2, .inr (4, [.ref h_a2_rows, .ref h_a2_firstRows, .int q1_1.1, .int q1_1.2.1])), (h_a2_firstRows, .inl (cI, n_a2_firstRows, .inl q1_1.2.2)), (h_t, .inr (9, [.int t_state, .int t_direction, .int t_operation])), (h_a1, .inr (7, [.ref h_a1_units, .int a1_length])), (h_a1_units, .inl (cB, n_a1_units, .inl a1_units_a)), (h_a2_rows, .inl (cI, n_a2_rows, .inl a2_rows_a))] H := hP.sub [4, 5, 0, 1, 2, 3] rfl
  have hD : va_D A [(h_a2, .inr (4, [.ref h_a2_rows, .ref h_a2_firstRows, .int q1_1.1, .int q1_1.2.1])), (h_a2_firstRows, .inl (cI, n_a2_firstRows, .inl q1_1.2.2)), (h_t, .inr (9, [.int t_state, .int t_direction, .int t_operation])), (h_a1, .inr (7, [.ref h_a1_units, .int a1_length])), (h_a1_units, .inl (cB, n_a1_units, .inl a1_units_a)), (h_a2_rows, .inl (cI, n_a2_rows, .inl a2_rows_a))] := hD.sub [4, 5, 0, 1, 2, 3] (by decide) rfl
  refine lv_aload_n hx hb d_TextReader_placeOfFault_4 rfl (lv_at hl 0 rfl) ?_
  refine lv_iconst (v := 0) hx hb d_TextReader_placeOfFault_5 (by decide) ?_
  refine va_put (D := D) (ci := 9) (v := .int 0) (ty := .int) (C := R_TextReader) (T := F_TextReader) (N := 3) hx hb hts i_TextReader t_TextReader t_TextReader_ok n_TextReader hown hK.1 hP hD hS 2 rfl rfl 0 (by decide) (hts _ w_134) (fun _ h9 => h9) rfl (t_TextReader_ok 0 (by decide)) rfl rfl (Nat.le_of_ble_eq_true rfl) d_TextReader_placeOfFault_6 (fun H locs hP hD hS => ?_)
  have hP : va_P D classes [(h_a2, .inr (4, [.ref h_a2_rows, .ref h_a2_firstRows, .int q1_1.1, .int q1_1.2.1])), (h_a2_firstRows, .inl (cI, n_a2_firstRows, .inl q1_1.2.2)), (h_t, .inr (9, [.int 0, .int t_direction, .int t_operation])), (h_a1, .inr (7, [.ref h_a1_units, .int a1_length])), (h_a1_units, .inl (cB, n_a1_units, .inl a1_units_a)), (h_a2_rows, .inl (cI, n_a2_rows, .inl a2_rows_a))] H := hP
  have hD : va_D A [(h_a2, .inr (4, [.ref h_a2_rows, .ref h_a2_firstRows, .int q1_1.1, .int q1_1.2.1])), (h_a2_firstRows, .inl (cI, n_a2_firstRows, .inl q1_1.2.2)), (h_t, .inr (9, [.int 0, .int t_direction, .int t_operation])), (h_a1, .inr (7, [.ref h_a1_units, .int a1_length])), (h_a1_units, .inl (cB, n_a1_units, .inl a1_units_a)), (h_a2_rows, .inl (cI, n_a2_rows, .inl a2_rows_a))] := hD
  refine lv_iconst (v := 0) hx hb d_TextReader_placeOfFault_9 (by decide) ?_
  refine lv_istore_n (lv' := [(3, .int 0), (0, .ref h_t), (1, .ref h_a1), (2, .ref h_a2)]) hx hb d_TextReader_placeOfFault_10 rfl hl (by decide) rfl (fun ls hl => ?_)
  exact k_TextReader_placeOfFault_11 (s := s) C0 hA _ (q1_1.1, q1_1.2.1, q1_1.2.2, 0, t_direction, t_operation, a2_rows_a, 0) hf  H locs ls hP hD hS (lv_sub hl [1, 2, 3, 0] rfl)
def f_Tape_clear  : Option (Int32) :=
  some 0
def post_Tape_clear (h_t : Nat) (v_t_units : Value) (cI cB cJ : ClassId) (res : Int32) : Option Value → va_W → Prop := fun o ws' => o = none ∧ ws' = [(h_t, .inr (7, [v_t_units, .int res]))]
abbrev rm_Tape_clear : Room := { frames := 0, cells := 0, slots := 0, locals := 0 }
set_option maxHeartbeats 4000000 in
set_option maxRecDepth 100000 in
theorem c_Tape_clear (l : Launch) (D : va_G) (cI cB cJ : ClassId) (h_t : Nat) (v_t_units : Value) (t_length : Int32) (sz : Nat) (res : Int32) (hf : f_Tape_clear = some res) : Met l y_Tape_clear (.code y_Tape_clear b_Tape_clear 1 none :: TB) rm_Tape_clear (PcW D [(cI, .int), (cB, .byte), (cJ, .long)] [.ref h_t] [(h_t, .inr (7, [v_t_units, .int t_length]))] sz) (QW D (post_Tape_clear h_t v_t_units cI cB cJ res) (va_A [(h_t, .inr (7, [v_t_units, .int t_length]))] sz)) 0 0 (va_A [(h_t, .inr (7, [v_t_units, .int t_length]))] sz) := by
  refine entW ⟨by decide +kernel, rfl⟩ fun p e s m below meth c C0 hP hD hsz ls hl => ?_
  subst hsz
  generalize hAe : va_A [(h_t, .inr (7, [v_t_units, .int t_length]))] s.heap.size = A at hD ⊢
  have hA : ∀ q : Nat, s.heap.size ≤ q → A q := fun q h => by rw [← hAe]; exact Or.inr h
  clear hAe
  have hS : va_S A s.heap s.heap [] := va_S.rf
  have hl : lv_has ls 1 [(0, .ref h_t)] := hl
  obtain ⟨hx, hb, hml, hr, hlocks, hts, hown, hK, hin⟩ := id C0
  have hf : (((
  some 0)) : Option (Int32)) = some res := hf
  obtain ⟨H, hH⟩ : ∃ H, H = s.heap := ⟨_, rfl⟩
  obtain ⟨locs, hlo⟩ : ∃ x : List Loc, x = [] := ⟨_, rfl⟩
  rw [← hlo] at hS ⊢
  have hP : va_P D classes [(h_t, .inr (7, [v_t_units, .int t_length]))] H := by rw [hH]; exact hP
  have hS : va_S A s.heap H locs := by rw [hH]; exact hS
  show W p l e rm_Tape_clear s m _ below meth c s.heap locs 0 0 (MQ below (QW D (post_Tape_clear h_t v_t_units cI cB cJ res) A) _ s 0 0 A) (F0 m 0 ls [])
  refine wheap hH ?_
  clear hH hlo
  refine lv_aload_n hx hb d_Tape_clear_0 rfl (lv_at hl 0 rfl) ?_
  refine lv_iconst (v := 0) hx hb d_Tape_clear_1 (by decide) ?_
  refine va_put (D := D) (ci := 7) (v := .int 0) (ty := .int) (C := R_Tape) (T := F_Tape) (N := 2) hx hb hts i_Tape t_Tape t_Tape_ok n_Tape hown hK.1 hP hD hS 0 rfl rfl 1 (by decide) (hts _ w_113) (fun _ h9 => h9) rfl (t_Tape_ok 1 (by decide)) rfl rfl (Nat.le_of_ble_eq_true rfl) d_Tape_clear_2 (fun H locs hP hD hS => ?_)
  have hP : va_P D classes [(h_t, .inr (7, [v_t_units, .int 0]))] H := hP
  have hD : va_D A [(h_t, .inr (7, [v_t_units, .int 0]))] := hD
  obtain rfl := Option.some.inj hf
  exact ret_v hx hb hr hlocks hP hD hS ⟨rfl, rfl⟩ d_Tape_clear_5
def f_MT_read (n_t_draft_firstRows : Nat) (n_t_tape_units : Nat) (n_t_draft_rows : Nat) (t_tape_length : Int32) (t_draft_firstRows_a : Nat → Int32) (t_reader_direction : Int32) (t_reader_operation : Int32) (t_tape_units_a : Nat → Int32) (t_draft_rows_a : Nat → Int32) : Option (Int32 × Int32 × Int32 × Int32 × (Nat → Int32) × Int32 × Int32 × Int32 × (Nat → Int32) × Nat) :=
  (Option.bind (f_TextReader_placeOfFault n_t_draft_firstRows n_t_tape_units n_t_draft_rows t_draft_firstRows_a t_reader_direction t_reader_operation t_tape_length t_tape_units_a t_draft_rows_a) fun q12_1 =>
  (Option.bind f_Tape_clear fun q20_2 =>
  (if q12_1.1 = (-1) then
    some (q12_1.2.1, q12_1.2.1, q12_1.2.2.1, q20_2, q12_1.2.2.2.1, q12_1.2.2.2.2.1, q12_1.2.2.2.2.2.1, q12_1.2.2.2.2.2.2.1, q12_1.2.2.2.2.2.2.2, 0)
  else
    some (((-1) - q12_1.1), q12_1.2.1, q12_1.2.2.1, q20_2, q12_1.2.2.2.1, q12_1.2.2.2.2.1, q12_1.2.2.2.2.2.1, q12_1.2.2.2.2.2.2.1, q12_1.2.2.2.2.2.2.2, 1))))
def post_MT_read (h_t h_t_reader h_t_tape h_t_draft h_t_draft_firstRows h_t_tape_units h_t_draft_rows h_t_march : Nat) (v_t_words v_t_cells v_t_faults v_t_single v_t_tester v_t_plan : Value) (n_t_draft_firstRows : Nat) (n_t_tape_units : Nat) (n_t_draft_rows : Nat) (t_tape_units_a : Nat → Int32) (cI cB cJ : ClassId) (res : Int32 × Int32 × Int32 × Int32 × (Nat → Int32) × Int32 × Int32 × Int32 × (Nat → Int32) × Nat) : Option Value → va_W → Prop := fun o ws' => (res.2.2.2.2.2.2.2.2.2 = 0 ∧ o = some (.int res.1) ∧ ws' = [(h_t, .inr (0, [v_t_words, v_t_cells, .ref h_t_tape, .ref h_t_reader, v_t_faults, v_t_single, v_t_tester, v_t_plan, .ref h_t_draft, .ref h_t_march])), (h_t_draft, .inr (4, [.ref h_t_draft_rows, .ref h_t_draft_firstRows, .int res.2.1, .int res.2.2.1])), (h_t_tape, .inr (7, [.ref h_t_tape_units, .int res.2.2.2.1])), (h_t_draft_firstRows, .inl (cI, n_t_draft_firstRows, .inl res.2.2.2.2.1)), (h_t_reader, .inr (9, [.int res.2.2.2.2.2.1, .int res.2.2.2.2.2.2.1, .int res.2.2.2.2.2.2.2.1])), (h_t_tape_units, .inl (cB, n_t_tape_units, .inl t_tape_units_a)), (h_t_draft_rows, .inl (cI, n_t_draft_rows, .inl res.2.2.2.2.2.2.2.2.1))]) ∨ (res.2.2.2.2.2.2.2.2.2 = 1 ∧ o = some (.int res.1) ∧ ws' = [(h_t, .inr (0, [v_t_words, v_t_cells, .ref h_t_tape, .ref h_t_reader, v_t_faults, v_t_single, v_t_tester, v_t_plan, .ref h_t_march, .ref h_t_draft])), (h_t_draft, .inr (4, [.ref h_t_draft_rows, .ref h_t_draft_firstRows, .int res.2.1, .int res.2.2.1])), (h_t_tape, .inr (7, [.ref h_t_tape_units, .int res.2.2.2.1])), (h_t_draft_firstRows, .inl (cI, n_t_draft_firstRows, .inl res.2.2.2.2.1)), (h_t_reader, .inr (9, [.int res.2.2.2.2.2.1, .int res.2.2.2.2.2.2.1, .int res.2.2.2.2.2.2.2.1])), (h_t_tape_units, .inl (cB, n_t_tape_units, .inl t_tape_units_a)), (h_t_draft_rows, .inl (cI, n_t_draft_rows, .inl res.2.2.2.2.2.2.2.2.1))])
abbrev rm_MT_read : Room := { frames := 5, cells := 0, slots := 0, locals := 110 }
set_option maxHeartbeats 4000000 in
set_option maxRecDepth 100000 in
theorem c_MT_read (l : Launch) (D : va_G) (cI cB cJ : ClassId) (h_t h_t_reader h_t_tape h_t_draft h_t_draft_firstRows h_t_tape_units h_t_draft_rows h_t_march : Nat) (v_t_words v_t_cells v_t_faults v_t_single v_t_tester v_t_plan : Value) (n_t_draft_firstRows : Nat) (n_t_tape_units : Nat) (n_t_draft_rows : Nat) (t_draft_elements : Int32) (t_draft_rowCount : Int32) (t_tape_length : Int32) (t_draft_firstRows_a : Nat → Int32) (t_reader_state : Int32) (t_reader_direction : Int32) (t_reader_operation : Int32) (t_tape_units_a : Nat → Int32) (t_draft_rows_a : Nat → Int32) (sz : Nat) (res : Int32 × Int32 × Int32 × Int32 × (Nat → Int32) × Int32 × Int32 × Int32 × (Nat → Int32) × Nat) (hf : f_MT_read n_t_draft_firstRows n_t_tape_units n_t_draft_rows t_tape_length t_draft_firstRows_a t_reader_direction t_reader_operation t_tape_units_a t_draft_rows_a = some res) : Met l y_MT_read (.code y_MT_read b_MT_read 3 (some .int) :: TB) rm_MT_read (PcW D [(cI, .int), (cB, .byte), (cJ, .long)] [.ref h_t] [(h_t, .inr (0, [v_t_words, v_t_cells, .ref h_t_tape, .ref h_t_reader, v_t_faults, v_t_single, v_t_tester, v_t_plan, .ref h_t_march, .ref h_t_draft])), (h_t_draft, .inr (4, [.ref h_t_draft_rows, .ref h_t_draft_firstRows, .int t_draft_elements, .int t_draft_rowCount])), (h_t_tape, .inr (7, [.ref h_t_tape_units, .int t_tape_length])), (h_t_draft_firstRows, .inl (cI, n_t_draft_firstRows, .inl t_draft_firstRows_a)), (h_t_reader, .inr (9, [.int t_reader_state, .int t_reader_direction, .int t_reader_operation])), (h_t_tape_units, .inl (cB, n_t_tape_units, .inl t_tape_units_a)), (h_t_draft_rows, .inl (cI, n_t_draft_rows, .inl t_draft_rows_a))] sz) (QW D (post_MT_read h_t h_t_reader h_t_tape h_t_draft h_t_draft_firstRows h_t_tape_units h_t_draft_rows h_t_march v_t_words v_t_cells v_t_faults v_t_single v_t_tester v_t_plan n_t_draft_firstRows n_t_tape_units n_t_draft_rows t_tape_units_a cI cB cJ res) (va_A [(h_t, .inr (0, [v_t_words, v_t_cells, .ref h_t_tape, .ref h_t_reader, v_t_faults, v_t_single, v_t_tester, v_t_plan, .ref h_t_march, .ref h_t_draft])), (h_t_draft, .inr (4, [.ref h_t_draft_rows, .ref h_t_draft_firstRows, .int t_draft_elements, .int t_draft_rowCount])), (h_t_tape, .inr (7, [.ref h_t_tape_units, .int t_tape_length])), (h_t_draft_firstRows, .inl (cI, n_t_draft_firstRows, .inl t_draft_firstRows_a)), (h_t_reader, .inr (9, [.int t_reader_state, .int t_reader_direction, .int t_reader_operation])), (h_t_tape_units, .inl (cB, n_t_tape_units, .inl t_tape_units_a)), (h_t_draft_rows, .inl (cI, n_t_draft_rows, .inl t_draft_rows_a))] sz)) 0 0 (va_A [(h_t, .inr (0, [v_t_words, v_t_cells, .ref h_t_tape, .ref h_t_reader, v_t_faults, v_t_single, v_t_tester, v_t_plan, .ref h_t_march, .ref h_t_draft])), (h_t_draft, .inr (4, [.ref h_t_draft_rows, .ref h_t_draft_firstRows, .int t_draft_elements, .int t_draft_rowCount])), (h_t_tape, .inr (7, [.ref h_t_tape_units, .int t_tape_length])), (h_t_draft_firstRows, .inl (cI, n_t_draft_firstRows, .inl t_draft_firstRows_a)), (h_t_reader, .inr (9, [.int t_reader_state, .int t_reader_direction, .int t_reader_operation])), (h_t_tape_units, .inl (cB, n_t_tape_units, .inl t_tape_units_a)), (h_t_draft_rows, .inl (cI, n_t_draft_rows, .inl t_draft_rows_a))] sz) := by
  refine entW ⟨by decide +kernel, rfl⟩ fun p e s m below meth c C0 hP hD hsz ls hl => ?_
  subst hsz
  generalize hAe : va_A [(h_t, .inr (0, [v_t_words, v_t_cells, .ref h_t_tape, .ref h_t_reader, v_t_faults, v_t_single, v_t_tester, v_t_plan, .ref h_t_march, .ref h_t_draft])), (h_t_draft, .inr (4, [.ref h_t_draft_rows, .ref h_t_draft_firstRows, .int t_draft_elements, .int t_draft_rowCount])), (h_t_tape, .inr (7, [.ref h_t_tape_units, .int t_tape_length])), (h_t_draft_firstRows, .inl (cI, n_t_draft_firstRows, .inl t_draft_firstRows_a)), (h_t_reader, .inr (9, [.int t_reader_state, .int t_reader_direction, .int t_reader_operation])), (h_t_tape_units, .inl (cB, n_t_tape_units, .inl t_tape_units_a)), (h_t_draft_rows, .inl (cI, n_t_draft_rows, .inl t_draft_rows_a))] s.heap.size = A at hD ⊢
  have hA : ∀ q : Nat, s.heap.size ≤ q → A q := fun q h => by rw [← hAe]; exact Or.inr h
  clear hAe
  have hS : va_S A s.heap s.heap [] := va_S.rf
  have hl : lv_has ls 3 [(0, .ref h_t)] := hl
  obtain ⟨hx, hb, hml, hr, hlocks, hts, hown, hK, hin⟩ := id C0
  have hf : (((
  (Option.bind (f_TextReader_placeOfFault n_t_draft_firstRows n_t_tape_units n_t_draft_rows t_draft_firstRows_a t_reader_direction t_reader_operation t_tape_length t_tape_units_a t_draft_rows_a) fun q12_1 =>
  (Option.bind f_Tape_clear fun q20_2 =>
  (if q12_1.1 = (-1) then
    some (q12_1.2.1, q12_1.2.1, q12_1.2.2.1, q20_2, q12_1.2.2.2.1, q12_1.2.2.2.2.1, q12_1.2.2.2.2.2.1, q12_1.2.2.2.2.2.2.1, q12_1.2.2.2.2.2.2.2, 0)
  else
    some (((-1) - q12_1.1), q12_1.2.1, q12_1.2.2.1, q20_2, q12_1.2.2.2.1, q12_1.2.2.2.2.1, q12_1.2.2.2.2.2.1, q12_1.2.2.2.2.2.2.1, q12_1.2.2.2.2.2.2.2, 1)))))) : Option (Int32 × Int32 × Int32 × Int32 × (Nat → Int32) × Int32 × Int32 × Int32 × (Nat → Int32) × Nat)) = some res := hf
  obtain ⟨H, hH⟩ : ∃ H, H = s.heap := ⟨_, rfl⟩
  obtain ⟨locs, hlo⟩ : ∃ x : List Loc, x = [] := ⟨_, rfl⟩
  rw [← hlo] at hS ⊢
  have hP : va_P D classes [(h_t, .inr (0, [v_t_words, v_t_cells, .ref h_t_tape, .ref h_t_reader, v_t_faults, v_t_single, v_t_tester, v_t_plan, .ref h_t_march, .ref h_t_draft])), (h_t_draft, .inr (4, [.ref h_t_draft_rows, .ref h_t_draft_firstRows, .int t_draft_elements, .int t_draft_rowCount])), (h_t_tape, .inr (7, [.ref h_t_tape_units, .int t_tape_length])), (h_t_draft_firstRows, .inl (cI, n_t_draft_firstRows, .inl t_draft_firstRows_a)), (h_t_reader, .inr (9, [.int t_reader_state, .int t_reader_direction, .int t_reader_operation])), (h_t_tape_units, .inl (cB, n_t_tape_units, .inl t_tape_units_a)), (h_t_draft_rows, .inl (cI, n_t_draft_rows, .inl t_draft_rows_a))] H := by rw [hH]; exact hP
  have hS : va_S A s.heap H locs := by rw [hH]; exact hS
  show W p l e rm_MT_read s m _ below meth c s.heap locs 0 0 (MQ below (QW D (post_MT_read h_t h_t_reader h_t_tape h_t_draft h_t_draft_firstRows h_t_tape_units h_t_draft_rows h_t_march v_t_words v_t_cells v_t_faults v_t_single v_t_tester v_t_plan n_t_draft_firstRows n_t_tape_units n_t_draft_rows t_tape_units_a cI cB cJ res) A) _ s 0 0 A) (F0 m 0 ls [])
  refine wheap hH ?_
  clear hH hlo
  refine lv_aload_n hx hb d_MT_read_0 rfl (lv_at hl 0 rfl) ?_
  refine va_get (D := D) (ci := 0) (v := .ref h_t_reader) (C := R_MT) (T := F_MT) (N := 10) hx hb hts i_MT hown hK.1 hP 0 rfl rfl 3 (by decide) (hts _ w_86) (fun _ h9 => h9) rfl d_MT_read_1 ?_
  refine lv_aload_n hx hb d_MT_read_4 rfl (lv_at hl 0 rfl) ?_
  refine va_get (D := D) (ci := 0) (v := .ref h_t_tape) (C := R_MT) (T := F_MT) (N := 10) hx hb hts i_MT hown hK.1 hP 0 rfl rfl 2 (by decide) (hts _ w_79) (fun _ h9 => h9) rfl d_MT_read_5 ?_
  refine lv_aload_n hx hb d_MT_read_8 rfl (lv_at hl 0 rfl) ?_
  refine va_get (D := D) (ci := 0) (v := .ref h_t_draft) (C := R_MT) (T := F_MT) (N := 10) hx hb hts i_MT hown hK.1 hP 0 rfl rfl 9 (by decide) (hts _ w_112) (fun _ h9 => h9) rfl d_MT_read_9 ?_
  obtain ⟨q12_1, hc, hf⟩ := bindS hf
  refine mcV (n := 2) (As := [.ref h_t_tape, .ref h_t_draft]) (rest := []) (wr := [(h_t, .inr (0, [v_t_words, v_t_cells, .ref h_t_tape, .ref h_t_reader, v_t_faults, v_t_single, v_t_tester, v_t_plan, .ref h_t_march, .ref h_t_draft]))]) hx hb hml hown hts hK (c_TextReader_placeOfFault (l := l) (D := D) (cI := cI) (cB := cB) (cJ := cJ) (h_t := h_t_reader) (h_a1 := h_t_tape) (h_a2 := h_t_draft) (h_a2_firstRows := h_t_draft_firstRows) (h_a1_units := h_t_tape_units) (h_a2_rows := h_t_draft_rows) (n_a2_firstRows := n_t_draft_firstRows) (n_a1_units := n_t_tape_units) (n_a2_rows := n_t_draft_rows) (a2_elements := t_draft_elements) (a2_rowCount := t_draft_rowCount) (a2_firstRows_a := t_draft_firstRows_a) (t_state := t_reader_state) (t_direction := t_reader_direction) (t_operation := t_reader_operation) (a1_length := t_tape_length) (a1_units_a := t_tape_units_a) (a2_rows_a := t_draft_rows_a) (sz := H.size) (res := q12_1) (hf := hc)) w_174 w_175 w_176 w_82 w_177 (by decide +kernel) rfl rfl ⟨Nat.le_of_ble_eq_true rfl, Nat.le_of_ble_eq_true rfl⟩ hP hD hS hA [1, 3, 4, 2, 5, 6] [0] rfl rfl (by decide) (by decide) (by decide) (ci := 9) 2 rfl rfl hl.1 rfl rfl (lv_room (Nat.le_of_ble_eq_true rfl)) d_MT_read_12 ⟨Nat.le_of_ble_eq_true rfl, Nat.le_of_ble_eq_true rfl⟩ (fun o ws' H locs hp hP hD hS => ?_)
  obtain ⟨rfl, rfl⟩ := hp
  have hP : va_P D classes [(h_t, .inr (0, [v_t_words, v_t_cells, .ref h_t_tape, .ref h_t_reader, v_t_faults, v_t_single, v_t_tester, v_t_plan, .ref h_t_march, .ref h_t_draft])), (h_t_draft, .inr (4, [.ref h_t_draft_rows, .ref h_t_draft_firstRows, .int q12_1.2.1, .int q12_1.2.2.1])), (h_t_tape, .inr (7, [.ref h_t_tape_units, .int t_tape_length])), (h_t_draft_firstRows, .inl (cI, n_t_draft_firstRows, .inl q12_1.2.2.2.1)), (h_t_reader, .inr (9, [.int q12_1.2.2.2.2.1, .int q12_1.2.2.2.2.2.1, .int q12_1.2.2.2.2.2.2.1])), (h_t_tape_units, .inl (cB, n_t_tape_units, .inl t_tape_units_a)), (h_t_draft_rows, .inl (cI, n_t_draft_rows, .inl q12_1.2.2.2.2.2.2.2))] H := hP.sub [0, 1, 4, 2, 3, 5, 6] rfl
  have hD : va_D A [(h_t, .inr (0, [v_t_words, v_t_cells, .ref h_t_tape, .ref h_t_reader, v_t_faults, v_t_single, v_t_tester, v_t_plan, .ref h_t_march, .ref h_t_draft])), (h_t_draft, .inr (4, [.ref h_t_draft_rows, .ref h_t_draft_firstRows, .int q12_1.2.1, .int q12_1.2.2.1])), (h_t_tape, .inr (7, [.ref h_t_tape_units, .int t_tape_length])), (h_t_draft_firstRows, .inl (cI, n_t_draft_firstRows, .inl q12_1.2.2.2.1)), (h_t_reader, .inr (9, [.int q12_1.2.2.2.2.1, .int q12_1.2.2.2.2.2.1, .int q12_1.2.2.2.2.2.2.1])), (h_t_tape_units, .inl (cB, n_t_tape_units, .inl t_tape_units_a)), (h_t_draft_rows, .inl (cI, n_t_draft_rows, .inl q12_1.2.2.2.2.2.2.2))] := hD.sub [0, 1, 4, 2, 3, 5, 6] (by decide) rfl
  refine lv_istore_n (lv' := [(1, .int q12_1.1), (0, .ref h_t)]) hx hb d_MT_read_15 rfl hl (by decide) rfl (fun ls hl => ?_)
  refine lv_aload_n hx hb d_MT_read_16 rfl (lv_at hl 1 rfl) ?_
  refine va_get (D := D) (ci := 0) (v := .ref h_t_tape) (C := R_MT) (T := F_MT) (N := 10) hx hb hts i_MT hown hK.1 hP 0 rfl rfl 2 (by decide) (hts _ w_79) (fun _ h9 => h9) rfl d_MT_read_17 ?_
  obtain ⟨q20_2, hc, hf⟩ := bindS hf
  refine mcV (n := 0) (As := []) (rest := []) (wr := [(h_t, .inr (0, [v_t_words, v_t_cells, .ref h_t_tape, .ref h_t_reader, v_t_faults, v_t_single, v_t_tester, v_t_plan, .ref h_t_march, .ref h_t_draft])), (h_t_draft, .inr (4, [.ref h_t_draft_rows, .ref h_t_draft_firstRows, .int q12_1.2.1, .int q12_1.2.2.1])), (h_t_draft_firstRows, .inl (cI, n_t_draft_firstRows, .inl q12_1.2.2.2.1)), (h_t_reader, .inr (9, [.int q12_1.2.2.2.2.1, .int q12_1.2.2.2.2.2.1, .int q12_1.2.2.2.2.2.2.1])), (h_t_tape_units, .inl (cB, n_t_tape_units, .inl t_tape_units_a)), (h_t_draft_rows, .inl (cI, n_t_draft_rows, .inl q12_1.2.2.2.2.2.2.2))]) hx hb hml hown hts hK (c_Tape_clear (l := l) (D := D) (cI := cI) (cB := cB) (cJ := cJ) (h_t := h_t_tape) (v_t_units := (.ref h_t_tape_units)) (t_length := t_tape_length) (sz := H.size) (res := q20_2) (hf := hc)) w_178 w_179 w_180 w_75 w_181 (by decide +kernel) rfl rfl ⟨Nat.le_of_ble_eq_true rfl, Nat.le_of_ble_eq_true rfl⟩ hP hD hS hA [2] [0, 1, 3, 4, 5, 6] rfl rfl (by decide) (by decide) (by decide) (ci := 7) 0 rfl rfl hl.1 rfl rfl (lv_room (Nat.le_of_ble_eq_true rfl)) d_MT_read_20 ⟨Nat.le_of_ble_eq_true rfl, Nat.le_of_ble_eq_true rfl⟩ (fun o ws' H locs hp hP hD hS => ?_)
  obtain ⟨rfl, rfl⟩ := hp
  have hP : va_P D classes [(h_t, .inr (0, [v_t_words, v_t_cells, .ref h_t_tape, .ref h_t_reader, v_t_faults, v_t_single, v_t_tester, v_t_plan, .ref h_t_march, .ref h_t_draft])), (h_t_draft, .inr (4, [.ref h_t_draft_rows, .ref h_t_draft_firstRows, .int q12_1.2.1, .int q12_1.2.2.1])), (h_t_tape, .inr (7, [.ref h_t_tape_units, .int q20_2])), (h_t_draft_firstRows, .inl (cI, n_t_draft_firstRows, .inl q12_1.2.2.2.1)), (h_t_reader, .inr (9, [.int q12_1.2.2.2.2.1, .int q12_1.2.2.2.2.2.1, .int q12_1.2.2.2.2.2.2.1])), (h_t_tape_units, .inl (cB, n_t_tape_units, .inl t_tape_units_a)), (h_t_draft_rows, .inl (cI, n_t_draft_rows, .inl q12_1.2.2.2.2.2.2.2))] H := hP.sub [0, 1, 6, 2, 3, 4, 5] rfl
  have hD : va_D A [(h_t, .inr (0, [v_t_words, v_t_cells, .ref h_t_tape, .ref h_t_reader, v_t_faults, v_t_single, v_t_tester, v_t_plan, .ref h_t_march, .ref h_t_draft])), (h_t_draft, .inr (4, [.ref h_t_draft_rows, .ref h_t_draft_firstRows, .int q12_1.2.1, .int q12_1.2.2.1])), (h_t_tape, .inr (7, [.ref h_t_tape_units, .int q20_2])), (h_t_draft_firstRows, .inl (cI, n_t_draft_firstRows, .inl q12_1.2.2.2.1)), (h_t_reader, .inr (9, [.int q12_1.2.2.2.2.1, .int q12_1.2.2.2.2.2.1, .int q12_1.2.2.2.2.2.2.1])), (h_t_tape_units, .inl (cB, n_t_tape_units, .inl t_tape_units_a)), (h_t_draft_rows, .inl (cI, n_t_draft_rows, .inl q12_1.2.2.2.2.2.2.2))] := hD.sub [0, 1, 6, 2, 3, 4, 5] (by decide) rfl
  refine lv_iload_n hx hb d_MT_read_23 rfl (lv_at hl 0 rfl) ?_
  refine lv_iconst (v := (-1)) hx hb d_MT_read_24 (by decide) ?_
  refine lv_icmp_eq (tgt := 32) hx hb d_MT_read_25 (by decide) (fun cc25 => ?_) (fun cc25 => ?_)
  · have hf := ifT cc25 hf
    refine lv_aload_n hx hb d_MT_read_32 rfl (lv_at hl 1 rfl) ?_
    refine va_get (D := D) (ci := 0) (v := .ref h_t_march) (C := R_MT) (T := F_MT) (N := 10) hx hb hts i_MT hown hK.1 hP 0 rfl rfl 8 (by decide) (hts _ w_111) (fun _ h9 => h9) rfl d_MT_read_33 ?_
    refine lv_astore_n (lv' := [(2, .ref h_t_march), (1, .int q12_1.1), (0, .ref h_t)]) hx hb d_MT_read_36 rfl hl (by decide) rfl (fun ls hl => ?_)
    refine lv_aload_n hx hb d_MT_read_37 rfl (lv_at hl 2 rfl) ?_
    refine lv_aload_n hx hb d_MT_read_38 rfl (lv_at hl 2 rfl) ?_
    refine va_get (D := D) (ci := 0) (v := .ref h_t_draft) (C := R_MT) (T := F_MT) (N := 10) hx hb hts i_MT hown hK.1 hP 0 rfl rfl 9 (by decide) (hts _ w_112) (fun _ h9 => h9) rfl d_MT_read_39 ?_
    refine va_put (D := D) (ci := 0) (v := .ref h_t_draft) (ty := .object "MarchTests$March") (C := R_MT) (T := F_MT) (N := 10) hx hb hts i_MT t_MT t_MT_ok n_MT hown hK.1 hP hD hS 0 rfl rfl 8 (by decide) (hts _ w_111) (fun _ h9 => h9) rfl (t_MT_ok 8 (by decide)) rfl rfl (Nat.le_of_ble_eq_true rfl) d_MT_read_42 (fun H locs hP hD hS => ?_)
    have hP : va_P D classes [(h_t, .inr (0, [v_t_words, v_t_cells, .ref h_t_tape, .ref h_t_reader, v_t_faults, v_t_single, v_t_tester, v_t_plan, .ref h_t_draft, .ref h_t_draft])), (h_t_draft, .inr (4, [.ref h_t_draft_rows, .ref h_t_draft_firstRows, .int q12_1.2.1, .int q12_1.2.2.1])), (h_t_tape, .inr (7, [.ref h_t_tape_units, .int q20_2])), (h_t_draft_firstRows, .inl (cI, n_t_draft_firstRows, .inl q12_1.2.2.2.1)), (h_t_reader, .inr (9, [.int q12_1.2.2.2.2.1, .int q12_1.2.2.2.2.2.1, .int q12_1.2.2.2.2.2.2.1])), (h_t_tape_units, .inl (cB, n_t_tape_units, .inl t_tape_units_a)), (h_t_draft_rows, .inl (cI, n_t_draft_rows, .inl q12_1.2.2.2.2.2.2.2))] H := hP
    have hD : va_D A [(h_t, .inr (0, [v_t_words, v_t_cells, .ref h_t_tape, .ref h_t_reader, v_t_faults, v_t_single, v_t_tester, v_t_plan, .ref h_t_draft, .ref h_t_draft])), (h_t_draft, .inr (4, [.ref h_t_draft_rows, .ref h_t_draft_firstRows, .int q12_1.2.1, .int q12_1.2.2.1])), (h_t_tape, .inr (7, [.ref h_t_tape_units, .int q20_2])), (h_t_draft_firstRows, .inl (cI, n_t_draft_firstRows, .inl q12_1.2.2.2.1)), (h_t_reader, .inr (9, [.int q12_1.2.2.2.2.1, .int q12_1.2.2.2.2.2.1, .int q12_1.2.2.2.2.2.2.1])), (h_t_tape_units, .inl (cB, n_t_tape_units, .inl t_tape_units_a)), (h_t_draft_rows, .inl (cI, n_t_draft_rows, .inl q12_1.2.2.2.2.2.2.2))] := hD
    refine lv_aload_n hx hb d_MT_read_45 rfl (lv_at hl 2 rfl) ?_
    refine lv_aload_n hx hb d_MT_read_46 rfl (lv_at hl 0 rfl) ?_
    refine va_put (D := D) (ci := 0) (v := .ref h_t_march) (ty := .object "MarchTests$March") (C := R_MT) (T := F_MT) (N := 10) hx hb hts i_MT t_MT t_MT_ok n_MT hown hK.1 hP hD hS 0 rfl rfl 9 (by decide) (hts _ w_112) (fun _ h9 => h9) rfl (t_MT_ok 9 (by decide)) rfl rfl (Nat.le_of_ble_eq_true rfl) d_MT_read_47 (fun H locs hP hD hS => ?_)
    have hP : va_P D classes [(h_t, .inr (0, [v_t_words, v_t_cells, .ref h_t_tape, .ref h_t_reader, v_t_faults, v_t_single, v_t_tester, v_t_plan, .ref h_t_draft, .ref h_t_march])), (h_t_draft, .inr (4, [.ref h_t_draft_rows, .ref h_t_draft_firstRows, .int q12_1.2.1, .int q12_1.2.2.1])), (h_t_tape, .inr (7, [.ref h_t_tape_units, .int q20_2])), (h_t_draft_firstRows, .inl (cI, n_t_draft_firstRows, .inl q12_1.2.2.2.1)), (h_t_reader, .inr (9, [.int q12_1.2.2.2.2.1, .int q12_1.2.2.2.2.2.1, .int q12_1.2.2.2.2.2.2.1])), (h_t_tape_units, .inl (cB, n_t_tape_units, .inl t_tape_units_a)), (h_t_draft_rows, .inl (cI, n_t_draft_rows, .inl q12_1.2.2.2.2.2.2.2))] H := hP
    have hD : va_D A [(h_t, .inr (0, [v_t_words, v_t_cells, .ref h_t_tape, .ref h_t_reader, v_t_faults, v_t_single, v_t_tester, v_t_plan, .ref h_t_draft, .ref h_t_march])), (h_t_draft, .inr (4, [.ref h_t_draft_rows, .ref h_t_draft_firstRows, .int q12_1.2.1, .int q12_1.2.2.1])), (h_t_tape, .inr (7, [.ref h_t_tape_units, .int q20_2])), (h_t_draft_firstRows, .inl (cI, n_t_draft_firstRows, .inl q12_1.2.2.2.1)), (h_t_reader, .inr (9, [.int q12_1.2.2.2.2.1, .int q12_1.2.2.2.2.2.1, .int q12_1.2.2.2.2.2.2.1])), (h_t_tape_units, .inl (cB, n_t_tape_units, .inl t_tape_units_a)), (h_t_draft_rows, .inl (cI, n_t_draft_rows, .inl q12_1.2.2.2.2.2.2.2))] := hD
    refine lv_aload_n hx hb d_MT_read_50 rfl (lv_at hl 2 rfl) ?_
    refine va_get (D := D) (ci := 0) (v := .ref h_t_draft) (C := R_MT) (T := F_MT) (N := 10) hx hb hts i_MT hown hK.1 hP 0 rfl rfl 8 (by decide) (hts _ w_111) (fun _ h9 => h9) rfl d_MT_read_51 ?_
    refine va_get (D := D) (ci := 4) (v := .int q12_1.2.1) (C := R_March) (T := F_March) (N := 4) hx hb hts i_March hown hK.1 hP 1 rfl rfl 2 (by decide) (hts _ w_182) (fun _ h9 => h9) rfl d_MT_read_54 ?_
    obtain rfl := Option.some.inj hf
    exact ret_i hx hb hr hlocks hP hD hS (Or.inl ⟨rfl, rfl, rfl⟩) d_MT_read_57
  · have hf := ifF cc25 hf
    refine lv_iconst (v := (-1)) hx hb d_MT_read_28 (by decide) ?_
    refine lv_iload_n hx hb d_MT_read_29 rfl (lv_at hl 0 rfl) ?_
    refine lv_isub hx hb d_MT_read_30 ?_
    obtain rfl := Option.some.inj hf
    exact ret_i hx hb hr hlocks hP hD hS (Or.inr ⟨rfl, rfl, rfl⟩) d_MT_read_31
def f_FaultList_clear  : Option (Int32 × Int32) :=
  some (0, 0)
def post_FaultList_clear (h_t : Nat) (v_t_kinds v_t_victimWords v_t_victimMasks v_t_otherWords v_t_otherMasks v_t_bits : Value) (cI cB cJ : ClassId) (res : Int32 × Int32) : Option Value → va_W → Prop := fun o ws' => o = none ∧ ws' = [(h_t, .inr (3, [v_t_kinds, v_t_victimWords, v_t_victimMasks, v_t_otherWords, v_t_otherMasks, .int res.1, .int res.2, v_t_bits]))]
abbrev rm_FaultList_clear : Room := { frames := 0, cells := 0, slots := 0, locals := 0 }
set_option maxHeartbeats 4000000 in
set_option maxRecDepth 100000 in
theorem c_FaultList_clear (l : Launch) (D : va_G) (cI cB cJ : ClassId) (h_t : Nat) (v_t_kinds v_t_victimWords v_t_victimMasks v_t_otherWords v_t_otherMasks v_t_bits : Value) (t_count : Int32) (t_touchedWords : Int32) (sz : Nat) (res : Int32 × Int32) (hf : f_FaultList_clear = some res) : Met l y_FaultList_clear (.code y_FaultList_clear b_FaultList_clear 1 none :: TB) rm_FaultList_clear (PcW D [(cI, .int), (cB, .byte), (cJ, .long)] [.ref h_t] [(h_t, .inr (3, [v_t_kinds, v_t_victimWords, v_t_victimMasks, v_t_otherWords, v_t_otherMasks, .int t_count, .int t_touchedWords, v_t_bits]))] sz) (QW D (post_FaultList_clear h_t v_t_kinds v_t_victimWords v_t_victimMasks v_t_otherWords v_t_otherMasks v_t_bits cI cB cJ res) (va_A [(h_t, .inr (3, [v_t_kinds, v_t_victimWords, v_t_victimMasks, v_t_otherWords, v_t_otherMasks, .int t_count, .int t_touchedWords, v_t_bits]))] sz)) 0 0 (va_A [(h_t, .inr (3, [v_t_kinds, v_t_victimWords, v_t_victimMasks, v_t_otherWords, v_t_otherMasks, .int t_count, .int t_touchedWords, v_t_bits]))] sz) := by
  refine entW ⟨by decide +kernel, rfl⟩ fun p e s m below meth c C0 hP hD hsz ls hl => ?_
  subst hsz
  generalize hAe : va_A [(h_t, .inr (3, [v_t_kinds, v_t_victimWords, v_t_victimMasks, v_t_otherWords, v_t_otherMasks, .int t_count, .int t_touchedWords, v_t_bits]))] s.heap.size = A at hD ⊢
  have hA : ∀ q : Nat, s.heap.size ≤ q → A q := fun q h => by rw [← hAe]; exact Or.inr h
  clear hAe
  have hS : va_S A s.heap s.heap [] := va_S.rf
  have hl : lv_has ls 1 [(0, .ref h_t)] := hl
  obtain ⟨hx, hb, hml, hr, hlocks, hts, hown, hK, hin⟩ := id C0
  have hf : (((
  some (0, 0))) : Option (Int32 × Int32)) = some res := hf
  obtain ⟨H, hH⟩ : ∃ H, H = s.heap := ⟨_, rfl⟩
  obtain ⟨locs, hlo⟩ : ∃ x : List Loc, x = [] := ⟨_, rfl⟩
  rw [← hlo] at hS ⊢
  have hP : va_P D classes [(h_t, .inr (3, [v_t_kinds, v_t_victimWords, v_t_victimMasks, v_t_otherWords, v_t_otherMasks, .int t_count, .int t_touchedWords, v_t_bits]))] H := by rw [hH]; exact hP
  have hS : va_S A s.heap H locs := by rw [hH]; exact hS
  show W p l e rm_FaultList_clear s m _ below meth c s.heap locs 0 0 (MQ below (QW D (post_FaultList_clear h_t v_t_kinds v_t_victimWords v_t_victimMasks v_t_otherWords v_t_otherMasks v_t_bits cI cB cJ res) A) _ s 0 0 A) (F0 m 0 ls [])
  refine wheap hH ?_
  clear hH hlo
  refine lv_aload_n hx hb d_FaultList_clear_0 rfl (lv_at hl 0 rfl) ?_
  refine lv_iconst (v := 0) hx hb d_FaultList_clear_1 (by decide) ?_
  refine va_put (D := D) (ci := 3) (v := .int 0) (ty := .int) (C := R_FaultList) (T := F_FaultList) (N := 8) hx hb hts i_FaultList t_FaultList t_FaultList_ok n_FaultList hown hK.1 hP hD hS 0 rfl rfl 5 (by decide) (hts _ w_183) (fun _ h9 => h9) rfl (t_FaultList_ok 5 (by decide)) rfl rfl (Nat.le_of_ble_eq_true rfl) d_FaultList_clear_2 (fun H locs hP hD hS => ?_)
  have hP : va_P D classes [(h_t, .inr (3, [v_t_kinds, v_t_victimWords, v_t_victimMasks, v_t_otherWords, v_t_otherMasks, .int 0, .int t_touchedWords, v_t_bits]))] H := hP
  have hD : va_D A [(h_t, .inr (3, [v_t_kinds, v_t_victimWords, v_t_victimMasks, v_t_otherWords, v_t_otherMasks, .int 0, .int t_touchedWords, v_t_bits]))] := hD
  refine lv_aload_n hx hb d_FaultList_clear_5 rfl (lv_at hl 0 rfl) ?_
  refine lv_iconst (v := 0) hx hb d_FaultList_clear_6 (by decide) ?_
  refine va_put (D := D) (ci := 3) (v := .int 0) (ty := .int) (C := R_FaultList) (T := F_FaultList) (N := 8) hx hb hts i_FaultList t_FaultList t_FaultList_ok n_FaultList hown hK.1 hP hD hS 0 rfl rfl 6 (by decide) (hts _ w_184) (fun _ h9 => h9) rfl (t_FaultList_ok 6 (by decide)) rfl rfl (Nat.le_of_ble_eq_true rfl) d_FaultList_clear_7 (fun H locs hP hD hS => ?_)
  have hP : va_P D classes [(h_t, .inr (3, [v_t_kinds, v_t_victimWords, v_t_victimMasks, v_t_otherWords, v_t_otherMasks, .int 0, .int 0, v_t_bits]))] H := hP
  have hD : va_D A [(h_t, .inr (3, [v_t_kinds, v_t_victimWords, v_t_victimMasks, v_t_otherWords, v_t_otherMasks, .int 0, .int 0, v_t_bits]))] := hD
  obtain rfl := Option.some.inj hf
  exact ret_v hx hb hr hlocks hP hD hS ⟨rfl, rfl⟩ d_FaultList_clear_10
def f_MT_isCell (t_cells : Int32) (a1 : Int32) : Option (Int32) :=
  (if a1 < 0 then
    some 0
  else
    (if t_cells ≤ a1 then
      some 0
    else
      some 1))
def post_MT_isCell (h_t : Nat) (v_t_words v_t_tape v_t_reader v_t_faults v_t_single v_t_tester v_t_plan v_t_march v_t_draft : Value) (t_cells : Int32) (cI cB cJ : ClassId) (res : Int32) : Option Value → va_W → Prop := fun o ws' => o = some (.int res) ∧ ws' = [(h_t, .inr (0, [v_t_words, .int t_cells, v_t_tape, v_t_reader, v_t_faults, v_t_single, v_t_tester, v_t_plan, v_t_march, v_t_draft]))]
abbrev rm_MT_isCell : Room := { frames := 0, cells := 0, slots := 0, locals := 0 }
set_option maxHeartbeats 4000000 in
set_option maxRecDepth 100000 in
theorem c_MT_isCell (l : Launch) (D : va_G) (cI cB cJ : ClassId) (h_t : Nat) (v_t_words v_t_tape v_t_reader v_t_faults v_t_single v_t_tester v_t_plan v_t_march v_t_draft : Value) (t_cells : Int32) (a1 : Int32) (sz : Nat) (res : Int32) (hf : f_MT_isCell t_cells a1 = some res) : Met l y_MT_isCell (.code y_MT_isCell b_MT_isCell 2 (some .boolean) :: TB) rm_MT_isCell (PcW D [(cI, .int), (cB, .byte), (cJ, .long)] [.ref h_t, .int a1] [(h_t, .inr (0, [v_t_words, .int t_cells, v_t_tape, v_t_reader, v_t_faults, v_t_single, v_t_tester, v_t_plan, v_t_march, v_t_draft]))] sz) (QW D (post_MT_isCell h_t v_t_words v_t_tape v_t_reader v_t_faults v_t_single v_t_tester v_t_plan v_t_march v_t_draft t_cells cI cB cJ res) (va_A [(h_t, .inr (0, [v_t_words, .int t_cells, v_t_tape, v_t_reader, v_t_faults, v_t_single, v_t_tester, v_t_plan, v_t_march, v_t_draft]))] sz)) 0 0 (va_A [(h_t, .inr (0, [v_t_words, .int t_cells, v_t_tape, v_t_reader, v_t_faults, v_t_single, v_t_tester, v_t_plan, v_t_march, v_t_draft]))] sz) := by
  refine entW ⟨by decide +kernel, rfl⟩ fun p e s m below meth c C0 hP hD hsz ls hl => ?_
  subst hsz
  generalize hAe : va_A [(h_t, .inr (0, [v_t_words, .int t_cells, v_t_tape, v_t_reader, v_t_faults, v_t_single, v_t_tester, v_t_plan, v_t_march, v_t_draft]))] s.heap.size = A at hD ⊢
  have hA : ∀ q : Nat, s.heap.size ≤ q → A q := fun q h => by rw [← hAe]; exact Or.inr h
  clear hAe
  have hS : va_S A s.heap s.heap [] := va_S.rf
  have hl : lv_has ls 2 [(0, .ref h_t), (1, .int a1)] := hl
  obtain ⟨hx, hb, hml, hr, hlocks, hts, hown, hK, hin⟩ := id C0
  have hf : (((
  (if a1 < 0 then
    some 0
  else
    (if t_cells ≤ a1 then
      some 0
    else
      some 1)))) : Option (Int32)) = some res := hf
  obtain ⟨H, hH⟩ : ∃ H, H = s.heap := ⟨_, rfl⟩
  obtain ⟨locs, hlo⟩ : ∃ x : List Loc, x = [] := ⟨_, rfl⟩
  rw [← hlo] at hS ⊢
  have hP : va_P D classes [(h_t, .inr (0, [v_t_words, .int t_cells, v_t_tape, v_t_reader, v_t_faults, v_t_single, v_t_tester, v_t_plan, v_t_march, v_t_draft]))] H := by rw [hH]; exact hP
  have hS : va_S A s.heap H locs := by rw [hH]; exact hS
  show W p l e rm_MT_isCell s m _ below meth c s.heap locs 0 0 (MQ below (QW D (post_MT_isCell h_t v_t_words v_t_tape v_t_reader v_t_faults v_t_single v_t_tester v_t_plan v_t_march v_t_draft t_cells cI cB cJ res) A) _ s 0 0 A) (F0 m 0 ls [])
  refine wheap hH ?_
  clear hH hlo
  refine lv_iload_n hx hb d_MT_isCell_0 rfl (lv_at hl 1 rfl) ?_
  refine lv_if_lt (tgt := 16) hx hb d_MT_isCell_1 (by decide) (fun cc1 => ?_) (fun cc1 => ?_)
  · have hf := ifT cc1 hf
    refine lv_iconst (v := 0) hx hb d_MT_isCell_16 (by decide) ?_
    obtain rfl := Option.some.inj hf
    exact ret_z hx hb hr rfl hlocks hP hD hS ⟨rfl, rfl⟩ d_MT_isCell_17
  · have hf := ifF cc1 hf
    refine lv_iload_n hx hb d_MT_isCell_4 rfl (lv_at hl 1 rfl) ?_
    refine lv_aload_n hx hb d_MT_isCell_5 rfl (lv_at hl 0 rfl) ?_
    refine va_get (D := D) (ci := 0) (v := .int t_cells) (C := R_MT) (T := F_MT) (N := 10) hx hb hts i_MT hown hK.1 hP 0 rfl rfl 1 (by decide) (hts _ w_72) (fun _ h9 => h9) rfl d_MT_isCell_6 ?_
    refine lv_icmp_ge (tgt := 16) hx hb d_MT_isCell_9 (by decide) (fun cc9 => ?_) (fun cc9 => ?_)
    · have hf := ifT cc9 hf
      refine lv_iconst (v := 0) hx hb d_MT_isCell_16 (by decide) ?_
      obtain rfl := Option.some.inj hf
      exact ret_z hx hb hr rfl hlocks hP hD hS ⟨rfl, rfl⟩ d_MT_isCell_17
    · have hf := ifF cc9 hf
      refine lv_iconst (v := 1) hx hb d_MT_isCell_12 (by decide) ?_
      refine lv_goto (tgt := 17) hx hb d_MT_isCell_13 (by decide) ?_
      obtain rfl := Option.some.inj hf
      exact ret_z hx hb hr rfl hlocks hP hD hS ⟨rfl, rfl⟩ d_MT_isCell_17
def f_MT_isPaired (a1 : Int32) : Option (Int32) :=
  (if a1 < 10 then
    some 0
  else
    (if 13 < a1 then
      some 0
    else
      some 1))
def post_MT_isPaired (cI cB cJ : ClassId) (res : Int32) : Option Value → va_W → Prop := fun o ws' => o = some (.int res) ∧ ws' = []
abbrev rm_MT_isPaired : Room := { frames := 0, cells := 0, slots := 0, locals := 0 }
set_option maxHeartbeats 4000000 in
set_option maxRecDepth 100000 in
theorem c_MT_isPaired (l : Launch) (D : va_G) (cI cB cJ : ClassId)   (a1 : Int32) (sz : Nat) (res : Int32) (hf : f_MT_isPaired a1 = some res) : Met l y_MT_isPaired (.code y_MT_isPaired b_MT_isPaired 1 (some .boolean) :: TB) rm_MT_isPaired (PcW D [(cI, .int), (cB, .byte), (cJ, .long)] [.int a1] [] sz) (QW D (post_MT_isPaired cI cB cJ res) (va_A [] sz)) 0 0 (va_A [] sz) := by
  refine entW ⟨by decide +kernel, rfl⟩ fun p e s m below meth c C0 hP hD hsz ls hl => ?_
  subst hsz
  generalize hAe : va_A [] s.heap.size = A at hD ⊢
  have hA : ∀ q : Nat, s.heap.size ≤ q → A q := fun q h => by rw [← hAe]; exact Or.inr h
  clear hAe
  have hS : va_S A s.heap s.heap [] := va_S.rf
  have hl : lv_has ls 1 [(0, .int a1)] := hl
  obtain ⟨hx, hb, hml, hr, hlocks, hts, hown, hK, hin⟩ := id C0
  have hf : (((
  (if a1 < 10 then
    some 0
  else
    (if 13 < a1 then
      some 0
    else
      some 1)))) : Option (Int32)) = some res := hf
  obtain ⟨H, hH⟩ : ∃ H, H = s.heap := ⟨_, rfl⟩
  obtain ⟨locs, hlo⟩ : ∃ x : List Loc, x = [] := ⟨_, rfl⟩
  rw [← hlo] at hS ⊢
  have hP : va_P D classes [] H := by rw [hH]; exact hP
  have hS : va_S A s.heap H locs := by rw [hH]; exact hS
  show W p l e rm_MT_isPaired s m _ below meth c s.heap locs 0 0 (MQ below (QW D (post_MT_isPaired cI cB cJ res) A) _ s 0 0 A) (F0 m 0 ls [])
  refine wheap hH ?_
  clear hH hlo
  refine lv_iload_n hx hb d_MT_isPaired_0 rfl (lv_at hl 0 rfl) ?_
  refine lv_bipush (v := 10) hx hb d_MT_isPaired_1 (by decide) ?_
  refine lv_icmp_lt (tgt := 16) hx hb d_MT_isPaired_3 (by decide) (fun cc3 => ?_) (fun cc3 => ?_)
  · have hf := ifT cc3 hf
    refine lv_iconst (v := 0) hx hb d_MT_isPaired_16 (by decide) ?_
    obtain rfl := Option.some.inj hf
    exact ret_z hx hb hr rfl hlocks hP hD hS ⟨rfl, rfl⟩ d_MT_isPaired_17
  · have hf := ifF cc3 hf
    refine lv_iload_n hx hb d_MT_isPaired_6 rfl (lv_at hl 0 rfl) ?_
    refine lv_bipush (v := 13) hx hb d_MT_isPaired_7 (by decide) ?_
    refine lv_icmp_gt (tgt := 16) hx hb d_MT_isPaired_9 (by decide) (fun cc9 => ?_) (fun cc9 => ?_)
    · have hf := ifT cc9 hf
      refine lv_iconst (v := 0) hx hb d_MT_isPaired_16 (by decide) ?_
      obtain rfl := Option.some.inj hf
      exact ret_z hx hb hr rfl hlocks hP hD hS ⟨rfl, rfl⟩ d_MT_isPaired_17
    · have hf := ifF cc9 hf
      refine lv_iconst (v := 1) hx hb d_MT_isPaired_12 (by decide) ?_
      refine lv_goto (tgt := 17) hx hb d_MT_isPaired_13 (by decide) ?_
      obtain rfl := Option.some.inj hf
      exact ret_z hx hb hr rfl hlocks hP hD hS ⟨rfl, rfl⟩ d_MT_isPaired_17
def f_MT_isKind (a1 : Int32) : Option (Int32) :=
  (if a1 < 0 then
    some 0
  else
    (if 13 < a1 then
      some 0
    else
      some 1))
def post_MT_isKind (cI cB cJ : ClassId) (res : Int32) : Option Value → va_W → Prop := fun o ws' => o = some (.int res) ∧ ws' = []
abbrev rm_MT_isKind : Room := { frames := 0, cells := 0, slots := 0, locals := 0 }
set_option maxHeartbeats 4000000 in
set_option maxRecDepth 100000 in
theorem c_MT_isKind (l : Launch) (D : va_G) (cI cB cJ : ClassId)   (a1 : Int32) (sz : Nat) (res : Int32) (hf : f_MT_isKind a1 = some res) : Met l y_MT_isKind (.code y_MT_isKind b_MT_isKind 1 (some .boolean) :: TB) rm_MT_isKind (PcW D [(cI, .int), (cB, .byte), (cJ, .long)] [.int a1] [] sz) (QW D (post_MT_isKind cI cB cJ res) (va_A [] sz)) 0 0 (va_A [] sz) := by
  refine entW ⟨by decide +kernel, rfl⟩ fun p e s m below meth c C0 hP hD hsz ls hl => ?_
  subst hsz
  generalize hAe : va_A [] s.heap.size = A at hD ⊢
  have hA : ∀ q : Nat, s.heap.size ≤ q → A q := fun q h => by rw [← hAe]; exact Or.inr h
  clear hAe
  have hS : va_S A s.heap s.heap [] := va_S.rf
  have hl : lv_has ls 1 [(0, .int a1)] := hl
  obtain ⟨hx, hb, hml, hr, hlocks, hts, hown, hK, hin⟩ := id C0
  have hf : (((
  (if a1 < 0 then
    some 0
  else
    (if 13 < a1 then
      some 0
    else
      some 1)))) : Option (Int32)) = some res := hf
  obtain ⟨H, hH⟩ : ∃ H, H = s.heap := ⟨_, rfl⟩
  obtain ⟨locs, hlo⟩ : ∃ x : List Loc, x = [] := ⟨_, rfl⟩
  rw [← hlo] at hS ⊢
  have hP : va_P D classes [] H := by rw [hH]; exact hP
  have hS : va_S A s.heap H locs := by rw [hH]; exact hS
  show W p l e rm_MT_isKind s m _ below meth c s.heap locs 0 0 (MQ below (QW D (post_MT_isKind cI cB cJ res) A) _ s 0 0 A) (F0 m 0 ls [])
  refine wheap hH ?_
  clear hH hlo
  refine lv_iload_n hx hb d_MT_isKind_0 rfl (lv_at hl 0 rfl) ?_
  refine lv_if_lt (tgt := 14) hx hb d_MT_isKind_1 (by decide) (fun cc1 => ?_) (fun cc1 => ?_)
  · have hf := ifT cc1 hf
    refine lv_iconst (v := 0) hx hb d_MT_isKind_14 (by decide) ?_
    obtain rfl := Option.some.inj hf
    exact ret_z hx hb hr rfl hlocks hP hD hS ⟨rfl, rfl⟩ d_MT_isKind_15
  · have hf := ifF cc1 hf
    refine lv_iload_n hx hb d_MT_isKind_4 rfl (lv_at hl 0 rfl) ?_
    refine lv_bipush (v := 13) hx hb d_MT_isKind_5 (by decide) ?_
    refine lv_icmp_gt (tgt := 14) hx hb d_MT_isKind_7 (by decide) (fun cc7 => ?_) (fun cc7 => ?_)
    · have hf := ifT cc7 hf
      refine lv_iconst (v := 0) hx hb d_MT_isKind_14 (by decide) ?_
      obtain rfl := Option.some.inj hf
      exact ret_z hx hb hr rfl hlocks hP hD hS ⟨rfl, rfl⟩ d_MT_isKind_15
    · have hf := ifF cc7 hf
      refine lv_iconst (v := 1) hx hb d_MT_isKind_10 (by decide) ?_
      refine lv_goto (tgt := 15) hx hb d_MT_isKind_11 (by decide) ?_
      obtain rfl := Option.some.inj hf
      exact ret_z hx hb hr rfl hlocks hP hD hS ⟨rfl, rfl⟩ d_MT_isKind_15
def f_FaultList_add_42 (n_t_kinds : Nat) (n_t_victimWords : Nat) (n_t_victimMasks : Nat) (n_t_otherWords : Nat) (n_t_otherMasks : Nat) (t_count : Int32) (t_touchedWords : Int32) (t_bits : Int32) (t_kinds_a : Nat → Int32) (t_victimWords_a : Nat → Int32) (t_victimMasks_a : Nat → Int32) (t_otherWords_a : Nat → Int32) (t_otherMasks_a : Nat → Int32) (s0 : Int32) (x1 : Int32) (x2 : Int32) (x4 : Int32) : Option (Int32 × Int32 × (Nat → Int32) × (Nat → Int32) × (Nat → Int32) × (Nat → Int32) × (Nat → Int32)) :=
  (if inB t_count n_t_kinds = true then
  (if nzB t_bits = true then
  (if inB t_count n_t_victimWords = true then
  (if nzB t_bits = true then
  (if inB t_count n_t_victimMasks = true then
  (if nzB t_bits = true then
  (if inB t_count n_t_otherWords = true then
  (if inB t_count n_t_otherMasks = true then
  (if inB t_count n_t_victimWords = true then
  (if inB t_count n_t_otherWords = true then
  some ((t_count + 1), (t_touchedWords ||| ((1 <<< (((upd t_victimWords_a (Int32.toNatClampNeg t_count) (x2 / t_bits)) (Int32.toNatClampNeg t_count)) &&& 31)) ||| (1 <<< (((upd t_otherWords_a (Int32.toNatClampNeg t_count) (x4 / t_bits)) (Int32.toNatClampNeg t_count)) &&& 31)))), (upd t_kinds_a (Int32.toNatClampNeg t_count) x1), (upd t_victimWords_a (Int32.toNatClampNeg t_count) (x2 / t_bits)), (upd t_victimMasks_a (Int32.toNatClampNeg t_count) (1 <<< ((x2 - x2 / t_bits * t_bits) &&& 31))), (upd t_otherWords_a (Int32.toNatClampNeg t_count) (x4 / t_bits)), (upd t_otherMasks_a (Int32.toNatClampNeg t_count) s0))
  else none)
  else none)
  else none)
  else none)
  else none)
  else none)
  else none)
  else none)
  else none)
  else none)
def f_FaultList_add_21 (n_t_kinds : Nat) (n_t_victimWords : Nat) (n_t_victimMasks : Nat) (n_t_otherWords : Nat) (n_t_otherMasks : Nat) (t_count : Int32) (t_touchedWords : Int32) (t_bits : Int32) (t_kinds_a : Nat → Int32) (t_victimWords_a : Nat → Int32) (t_victimMasks_a : Nat → Int32) (t_otherWords_a : Nat → Int32) (t_otherMasks_a : Nat → Int32) (s0 : Int32) (x1 : Int32) (x2 : Int32) (x3 : Int32) : Option (Int32 × Int32 × (Nat → Int32) × (Nat → Int32) × (Nat → Int32) × (Nat → Int32) × (Nat → Int32)) :=
  (Option.bind (f_MT_isPaired x1) fun q24_2 =>
  (if q24_2 = 0 then
    (f_FaultList_add_42 n_t_kinds n_t_victimWords n_t_victimMasks n_t_otherWords n_t_otherMasks t_count t_touchedWords t_bits t_kinds_a t_victimWords_a t_victimMasks_a t_otherWords_a t_otherMasks_a 0 x1 x2 s0)
  else
    (if nzB t_bits = true then
    (f_FaultList_add_42 n_t_kinds n_t_victimWords n_t_victimMasks n_t_otherWords n_t_otherMasks t_count t_touchedWords t_bits t_kinds_a t_victimWords_a t_victimMasks_a t_otherWords_a t_otherMasks_a (1 <<< ((x3 - x3 / t_bits * t_bits) &&& 31)) x1 x2 s0)
    else none)))
def f_FaultList_add (n_t_kinds : Nat) (n_t_victimWords : Nat) (n_t_victimMasks : Nat) (n_t_otherWords : Nat) (n_t_otherMasks : Nat) (t_count : Int32) (t_touchedWords : Int32) (t_bits : Int32) (t_kinds_a : Nat → Int32) (t_victimWords_a : Nat → Int32) (t_victimMasks_a : Nat → Int32) (t_otherWords_a : Nat → Int32) (t_otherMasks_a : Nat → Int32) (a1 : Int32) (a2 : Int32) (a3 : Int32) : Option (Int32 × Int32 × (Nat → Int32) × (Nat → Int32) × (Nat → Int32) × (Nat → Int32) × (Nat → Int32)) :=
  (if t_count < 4 then
    (Option.bind (f_MT_isPaired a1) fun q10_1 =>
    (if q10_1 = 0 then
      (f_FaultList_add_21 n_t_kinds n_t_victimWords n_t_victimMasks n_t_otherWords n_t_otherMasks t_count t_touchedWords t_bits t_kinds_a t_victimWords_a t_victimMasks_a t_otherWords_a t_otherMasks_a a2 a1 a2 a3)
    else
      (f_FaultList_add_21 n_t_kinds n_t_victimWords n_t_victimMasks n_t_otherWords n_t_otherMasks t_count t_touchedWords t_bits t_kinds_a t_victimWords_a t_victimMasks_a t_otherWords_a t_otherMasks_a a3 a1 a2 a3)))
  else
    some (t_count, t_touchedWords, t_kinds_a, t_victimWords_a, t_victimMasks_a, t_otherWords_a, t_otherMasks_a))
def post_FaultList_add (h_t h_t_kinds h_t_victimWords h_t_victimMasks h_t_otherWords h_t_otherMasks : Nat) (n_t_kinds : Nat) (n_t_victimWords : Nat) (n_t_victimMasks : Nat) (n_t_otherWords : Nat) (n_t_otherMasks : Nat) (t_bits : Int32) (cI cB cJ : ClassId) (res : Int32 × Int32 × (Nat → Int32) × (Nat → Int32) × (Nat → Int32) × (Nat → Int32) × (Nat → Int32)) : Option Value → va_W → Prop := fun o ws' => o = none ∧ ws' = [(h_t, .inr (3, [.ref h_t_kinds, .ref h_t_victimWords, .ref h_t_victimMasks, .ref h_t_otherWords, .ref h_t_otherMasks, .int res.1, .int res.2.1, .int t_bits])), (h_t_kinds, .inl (cI, n_t_kinds, .inl res.2.2.1)), (h_t_victimWords, .inl (cI, n_t_victimWords, .inl res.2.2.2.1)), (h_t_victimMasks, .inl (cI, n_t_victimMasks, .inl res.2.2.2.2.1)), (h_t_otherWords, .inl (cI, n_t_otherWords, .inl res.2.2.2.2.2.1)), (h_t_otherMasks, .inl (cI, n_t_otherMasks, .inl res.2.2.2.2.2.2))]
abbrev rm_FaultList_add : Room := { frames := 1, cells := 0, slots := 0, locals := 20 }
set_option maxHeartbeats 4000000 in
set_option maxRecDepth 100000 in
theorem k_FaultList_add_42 {p : Program} {l : Launch} {e : Env} {s : State} {m : MethodId} {args : Array Value} {below : List Frame} {meth : Method} {c : Code} {D : va_G} {cI cB cJ : ClassId} {A : Nat → Prop} (C0 : CX p s m args meth c D [(cI, .int), (cB, .byte), (cJ, .long)] R_FaultList b_FaultList_add 6 none "add") (hA : ∀ q, s.heap.size ≤ q → A q) {h_t h_t_kinds h_t_victimWords h_t_victimMasks h_t_otherWords h_t_otherMasks : Nat} {res : Int32 × Int32 × (Nat → Int32) × (Nat → Int32) × (Nat → Int32) × (Nat → Int32) × (Nat → Int32)} {n_t_kinds : Nat} {n_t_victimWords : Nat} {n_t_victimMasks : Nat} {n_t_otherWords : Nat} {n_t_otherMasks : Nat} {t_count : Int32} {t_touchedWords : Int32} {t_bits : Int32} {t_kinds_a : Nat → Int32} {t_victimWords_a : Nat → Int32} {t_victimMasks_a : Nat → Int32} {t_otherWords_a : Nat → Int32} {t_otherMasks_a : Nat → Int32} {s0 : Int32} {x1 : Int32} {x2 : Int32} {x4 : Int32}
    (hf : f_FaultList_add_42 n_t_kinds n_t_victimWords n_t_victimMasks n_t_otherWords n_t_otherMasks t_count t_touchedWords t_bits t_kinds_a t_victimWords_a t_victimMasks_a t_otherWords_a t_otherMasks_a s0 x1 x2 x4 = some res) {H : Heap} {locs : List Loc} {ls : Array Slot} (hP : va_P D classes [(h_t, .inr (3, [.ref h_t_kinds, .ref h_t_victimWords, .ref h_t_victimMasks, .ref h_t_otherWords, .ref h_t_otherMasks, .int t_count, .int t_touchedWords, .int t_bits])), (h_t_kinds, .inl (cI, n_t_kinds, .inl t_kinds_a)), (h_t_victimWords, .inl (cI, n_t_victimWords, .inl t_victimWords_a)), (h_t_victimMasks, .inl (cI, n_t_victimMasks, .inl t_victimMasks_a)), (h_t_otherWords, .inl (cI, n_t_otherWords, .inl t_otherWords_a)), (h_t_otherMasks, .inl (cI, n_t_otherMasks, .inl t_otherMasks_a))] H) (hD : va_D A [(h_t, .inr (3, [.ref h_t_kinds, .ref h_t_victimWords, .ref h_t_victimMasks, .ref h_t_otherWords, .ref h_t_otherMasks, .int t_count, .int t_touchedWords, .int t_bits])), (h_t_kinds, .inl (cI, n_t_kinds, .inl t_kinds_a)), (h_t_victimWords, .inl (cI, n_t_victimWords, .inl t_victimWords_a)), (h_t_victimMasks, .inl (cI, n_t_victimMasks, .inl t_victimMasks_a)), (h_t_otherWords, .inl (cI, n_t_otherWords, .inl t_otherWords_a)), (h_t_otherMasks, .inl (cI, n_t_otherMasks, .inl t_otherMasks_a))]) (hS : va_S A s.heap H locs) (hl : lv_has ls 6 [(0, .ref h_t), (1, .int x1), (2, .int x2), (4, .int x4)]) : W p l e rm_FaultList_add s m args below meth c H locs 0 0 (MQ below (QW D (post_FaultList_add h_t h_t_kinds h_t_victimWords h_t_victimMasks h_t_otherWords h_t_otherMasks n_t_kinds n_t_victimWords n_t_victimMasks n_t_otherWords n_t_otherMasks t_bits cI cB cJ res) A) args s 0 0 A) (F0 m 42 ls [.int s0]) := by
  obtain ⟨hx, hb, hml, hr, hlocks, hts, hown, hK, hin⟩ := id C0
  have hf : (((
  (if inB t_count n_t_kinds = true then
  (if nzB t_bits = true then
  (if inB t_count n_t_victimWords = true then
  (if nzB t_bits = true then
  (if inB t_count n_t_victimMasks = true then
  (if nzB t_bits = true then
  (if inB t_count n_t_otherWords = true then
  (if inB t_count n_t_otherMasks = true then
  (if inB t_count n_t_victimWords = true then
  (if inB t_count n_t_otherWords = true then
  some ((t_count + 1), (t_touchedWords ||| ((1 <<< (((upd t_victimWords_a (Int32.toNatClampNeg t_count) (x2 / t_bits)) (Int32.toNatClampNeg t_count)) &&& 31)) ||| (1 <<< (((upd t_otherWords_a (Int32.toNatClampNeg t_count) (x4 / t_bits)) (Int32.toNatClampNeg t_count)) &&& 31)))), (upd t_kinds_a (Int32.toNatClampNeg t_count) x1), (upd t_victimWords_a (Int32.toNatClampNeg t_count) (x2 / t_bits)), (upd t_victimMasks_a (Int32.toNatClampNeg t_count) (1 <<< ((x2 - x2 / t_bits * t_bits) &&& 31))), (upd t_otherWords_a (Int32.toNatClampNeg t_count) (x4 / t_bits)), (upd t_otherMasks_a (Int32.toNatClampNeg t_count) s0))
  else none)
  else none)
  else none)
  else none)
  else none)
  else none)
  else none)
  else none)
  else none)
  else none))) : Option (Int32 × Int32 × (Nat → Int32) × (Nat → Int32) × (Nat → Int32) × (Nat → Int32) × (Nat → Int32))) = some res := hf
  refine lv_istore (lv' := [(5, .int s0), (0, .ref h_t), (1, .int x1), (2, .int x2), (4, .int x4)]) hx hb d_FaultList_add_42 hl (by decide) rfl (fun ls hl => ?_)
  refine lv_aload_n hx hb d_FaultList_add_44 rfl (lv_at hl 1 rfl) ?_
  refine va_get (D := D) (ci := 3) (v := .ref h_t_kinds) (C := R_FaultList) (T := F_FaultList) (N := 8) hx hb hts i_FaultList hown hK.1 hP 0 rfl rfl 0 (by decide) (hts _ w_11) (fun _ h9 => h9) rfl d_FaultList_add_45 ?_
  refine lv_aload_n hx hb d_FaultList_add_48 rfl (lv_at hl 1 rfl) ?_
  refine va_get (D := D) (ci := 3) (v := .int t_count) (C := R_FaultList) (T := F_FaultList) (N := 8) hx hb hts i_FaultList hown hK.1 hP 0 rfl rfl 5 (by decide) (hts _ w_183) (fun _ h9 => h9) rfl d_FaultList_add_49 ?_
  refine lv_iload_n hx hb d_FaultList_add_52 rfl (lv_at hl 2 rfl) ?_
  obtain ⟨hin1, hf⟩ := ifG hf
  refine va_iast hx hb hK.1 hP hD hS 1 0 rfl rfl (inB_in hin1) d_FaultList_add_53 (fun H locs hP hD hS => ?_)
  have hP : va_P D classes [(h_t, .inr (3, [.ref h_t_kinds, .ref h_t_victimWords, .ref h_t_victimMasks, .ref h_t_otherWords, .ref h_t_otherMasks, .int t_count, .int t_touchedWords, .int t_bits])), (h_t_kinds, .inl (cI, n_t_kinds, .inl (upd t_kinds_a (Int32.toNatClampNeg t_count) x1))), (h_t_victimWords, .inl (cI, n_t_victimWords, .inl t_victimWords_a)), (h_t_victimMasks, .inl (cI, n_t_victimMasks, .inl t_victimMasks_a)), (h_t_otherWords, .inl (cI, n_t_otherWords, .inl t_otherWords_a)), (h_t_otherMasks, .inl (cI, n_t_otherMasks, .inl t_otherMasks_a))] H := hP
  have hD : va_D A [(h_t, .inr (3, [.ref h_t_kinds, .ref h_t_victimWords, .ref h_t_victimMasks, .ref h_t_otherWords, .ref h_t_otherMasks, .int t_count, .int t_touchedWords, .int t_bits])), (h_t_kinds, .inl (cI, n_t_kinds, .inl (upd t_kinds_a (Int32.toNatClampNeg t_count) x1))), (h_t_victimWords, .inl (cI, n_t_victimWords, .inl t_victimWords_a)), (h_t_victimMasks, .inl (cI, n_t_victimMasks, .inl t_victimMasks_a)), (h_t_otherWords, .inl (cI, n_t_otherWords, .inl t_otherWords_a)), (h_t_otherMasks, .inl (cI, n_t_otherMasks, .inl t_otherMasks_a))] := hD
  refine lv_aload_n hx hb d_FaultList_add_54 rfl (lv_at hl 1 rfl) ?_
  refine va_get (D := D) (ci := 3) (v := .ref h_t_victimWords) (C := R_FaultList) (T := F_FaultList) (N := 8) hx hb hts i_FaultList hown hK.1 hP 0 rfl rfl 1 (by decide) (hts _ w_12) (fun _ h9 => h9) rfl d_FaultList_add_55 ?_
  refine lv_aload_n hx hb d_FaultList_add_58 rfl (lv_at hl 1 rfl) ?_
  refine va_get (D := D) (ci := 3) (v := .int t_count) (C := R_FaultList) (T := F_FaultList) (N := 8) hx hb hts i_FaultList hown hK.1 hP 0 rfl rfl 5 (by decide) (hts _ w_183) (fun _ h9 => h9) rfl d_FaultList_add_59 ?_
  refine lv_iload_n hx hb d_FaultList_add_62 rfl (lv_at hl 3 rfl) ?_
  refine lv_aload_n hx hb d_FaultList_add_63 rfl (lv_at hl 1 rfl) ?_
  refine va_get (D := D) (ci := 3) (v := .int t_bits) (C := R_FaultList) (T := F_FaultList) (N := 8) hx hb hts i_FaultList hown hK.1 hP 0 rfl rfl 7 (by decide) (hts _ w_20) (fun _ h9 => h9) rfl d_FaultList_add_64 ?_
  obtain ⟨hne, hf⟩ := ifG hf
  refine lv_idiv hx hb d_FaultList_add_67 (ne_of_nz hne) ?_
  obtain ⟨hin1, hf⟩ := ifG hf
  refine va_iast hx hb hK.1 hP hD hS 2 0 rfl rfl (inB_in hin1) d_FaultList_add_68 (fun H locs hP hD hS => ?_)
  have hP : va_P D classes [(h_t, .inr (3, [.ref h_t_kinds, .ref h_t_victimWords, .ref h_t_victimMasks, .ref h_t_otherWords, .ref h_t_otherMasks, .int t_count, .int t_touchedWords, .int t_bits])), (h_t_kinds, .inl (cI, n_t_kinds, .inl (upd t_kinds_a (Int32.toNatClampNeg t_count) x1))), (h_t_victimWords, .inl (cI, n_t_victimWords, .inl (upd t_victimWords_a (Int32.toNatClampNeg t_count) (x2 / t_bits)))), (h_t_victimMasks, .inl (cI, n_t_victimMasks, .inl t_victimMasks_a)), (h_t_otherWords, .inl (cI, n_t_otherWords, .inl t_otherWords_a)), (h_t_otherMasks, .inl (cI, n_t_otherMasks, .inl t_otherMasks_a))] H := hP
  have hD : va_D A [(h_t, .inr (3, [.ref h_t_kinds, .ref h_t_victimWords, .ref h_t_victimMasks, .ref h_t_otherWords, .ref h_t_otherMasks, .int t_count, .int t_touchedWords, .int t_bits])), (h_t_kinds, .inl (cI, n_t_kinds, .inl (upd t_kinds_a (Int32.toNatClampNeg t_count) x1))), (h_t_victimWords, .inl (cI, n_t_victimWords, .inl (upd t_victimWords_a (Int32.toNatClampNeg t_count) (x2 / t_bits)))), (h_t_victimMasks, .inl (cI, n_t_victimMasks, .inl t_victimMasks_a)), (h_t_otherWords, .inl (cI, n_t_otherWords, .inl t_otherWords_a)), (h_t_otherMasks, .inl (cI, n_t_otherMasks, .inl t_otherMasks_a))] := hD
  refine lv_aload_n hx hb d_FaultList_add_69 rfl (lv_at hl 1 rfl) ?_
  refine va_get (D := D) (ci := 3) (v := .ref h_t_victimMasks) (C := R_FaultList) (T := F_FaultList) (N := 8) hx hb hts i_FaultList hown hK.1 hP 0 rfl rfl 2 (by decide) (hts _ w_13) (fun _ h9 => h9) rfl d_FaultList_add_70 ?_
  refine lv_aload_n hx hb d_FaultList_add_73 rfl (lv_at hl 1 rfl) ?_
  refine va_get (D := D) (ci := 3) (v := .int t_count) (C := R_FaultList) (T := F_FaultList) (N := 8) hx hb hts i_FaultList hown hK.1 hP 0 rfl rfl 5 (by decide) (hts _ w_183) (fun _ h9 => h9) rfl d_FaultList_add_74 ?_
  refine lv_iconst (v := 1) hx hb d_FaultList_add_77 (by decide) ?_
  refine lv_iload_n hx hb d_FaultList_add_78 rfl (lv_at hl 3 rfl) ?_
  refine lv_aload_n hx hb d_FaultList_add_79 rfl (lv_at hl 1 rfl) ?_
  refine va_get (D := D) (ci := 3) (v := .int t_bits) (C := R_FaultList) (T := F_FaultList) (N := 8) hx hb hts i_FaultList hown hK.1 hP 0 rfl rfl 7 (by decide) (hts _ w_20) (fun _ h9 => h9) rfl d_FaultList_add_80 ?_
  obtain ⟨hne, hf⟩ := ifG hf
  refine lv_irem hx hb d_FaultList_add_83 (ne_of_nz hne) ?_
  refine lv_ishl hx hb d_FaultList_add_84 ?_
  obtain ⟨hin1, hf⟩ := ifG hf
  refine va_iast hx hb hK.1 hP hD hS 3 0 rfl rfl (inB_in hin1) d_FaultList_add_85 (fun H locs hP hD hS => ?_)
  have hP : va_P D classes [(h_t, .inr (3, [.ref h_t_kinds, .ref h_t_victimWords, .ref h_t_victimMasks, .ref h_t_otherWords, .ref h_t_otherMasks, .int t_count, .int t_touchedWords, .int t_bits])), (h_t_kinds, .inl (cI, n_t_kinds, .inl (upd t_kinds_a (Int32.toNatClampNeg t_count) x1))), (h_t_victimWords, .inl (cI, n_t_victimWords, .inl (upd t_victimWords_a (Int32.toNatClampNeg t_count) (x2 / t_bits)))), (h_t_victimMasks, .inl (cI, n_t_victimMasks, .inl (upd t_victimMasks_a (Int32.toNatClampNeg t_count) (1 <<< ((x2 - x2 / t_bits * t_bits) &&& 31))))), (h_t_otherWords, .inl (cI, n_t_otherWords, .inl t_otherWords_a)), (h_t_otherMasks, .inl (cI, n_t_otherMasks, .inl t_otherMasks_a))] H := hP
  have hD : va_D A [(h_t, .inr (3, [.ref h_t_kinds, .ref h_t_victimWords, .ref h_t_victimMasks, .ref h_t_otherWords, .ref h_t_otherMasks, .int t_count, .int t_touchedWords, .int t_bits])), (h_t_kinds, .inl (cI, n_t_kinds, .inl (upd t_kinds_a (Int32.toNatClampNeg t_count) x1))), (h_t_victimWords, .inl (cI, n_t_victimWords, .inl (upd t_victimWords_a (Int32.toNatClampNeg t_count) (x2 / t_bits)))), (h_t_victimMasks, .inl (cI, n_t_victimMasks, .inl (upd t_victimMasks_a (Int32.toNatClampNeg t_count) (1 <<< ((x2 - x2 / t_bits * t_bits) &&& 31))))), (h_t_otherWords, .inl (cI, n_t_otherWords, .inl t_otherWords_a)), (h_t_otherMasks, .inl (cI, n_t_otherMasks, .inl t_otherMasks_a))] := hD
  refine lv_aload_n hx hb d_FaultList_add_86 rfl (lv_at hl 1 rfl) ?_
  refine va_get (D := D) (ci := 3) (v := .ref h_t_otherWords) (C := R_FaultList) (T := F_FaultList) (N := 8) hx hb hts i_FaultList hown hK.1 hP 0 rfl rfl 3 (by decide) (hts _ w_14) (fun _ h9 => h9) rfl d_FaultList_add_87 ?_
  refine lv_aload_n hx hb d_FaultList_add_90 rfl (lv_at hl 1 rfl) ?_
  refine va_get (D := D) (ci := 3) (v := .int t_count) (C := R_FaultList) (T := F_FaultList) (N := 8) hx hb hts i_FaultList hown hK.1 hP 0 rfl rfl 5 (by decide) (hts _ w_183) (fun _ h9 => h9) rfl d_FaultList_add_91 ?_
  refine lv_iload hx hb d_FaultList_add_94 (lv_at hl 4 rfl) ?_
  refine lv_aload_n hx hb d_FaultList_add_96 rfl (lv_at hl 1 rfl) ?_
  refine va_get (D := D) (ci := 3) (v := .int t_bits) (C := R_FaultList) (T := F_FaultList) (N := 8) hx hb hts i_FaultList hown hK.1 hP 0 rfl rfl 7 (by decide) (hts _ w_20) (fun _ h9 => h9) rfl d_FaultList_add_97 ?_
  obtain ⟨hne, hf⟩ := ifG hf
  refine lv_idiv hx hb d_FaultList_add_100 (ne_of_nz hne) ?_
  obtain ⟨hin1, hf⟩ := ifG hf
  refine va_iast hx hb hK.1 hP hD hS 4 0 rfl rfl (inB_in hin1) d_FaultList_add_101 (fun H locs hP hD hS => ?_)
  have hP : va_P D classes [(h_t, .inr (3, [.ref h_t_kinds, .ref h_t_victimWords, .ref h_t_victimMasks, .ref h_t_otherWords, .ref h_t_otherMasks, .int t_count, .int t_touchedWords, .int t_bits])), (h_t_kinds, .inl (cI, n_t_kinds, .inl (upd t_kinds_a (Int32.toNatClampNeg t_count) x1))), (h_t_victimWords, .inl (cI, n_t_victimWords, .inl (upd t_victimWords_a (Int32.toNatClampNeg t_count) (x2 / t_bits)))), (h_t_victimMasks, .inl (cI, n_t_victimMasks, .inl (upd t_victimMasks_a (Int32.toNatClampNeg t_count) (1 <<< ((x2 - x2 / t_bits * t_bits) &&& 31))))), (h_t_otherWords, .inl (cI, n_t_otherWords, .inl (upd t_otherWords_a (Int32.toNatClampNeg t_count) (x4 / t_bits)))), (h_t_otherMasks, .inl (cI, n_t_otherMasks, .inl t_otherMasks_a))] H := hP
  have hD : va_D A [(h_t, .inr (3, [.ref h_t_kinds, .ref h_t_victimWords, .ref h_t_victimMasks, .ref h_t_otherWords, .ref h_t_otherMasks, .int t_count, .int t_touchedWords, .int t_bits])), (h_t_kinds, .inl (cI, n_t_kinds, .inl (upd t_kinds_a (Int32.toNatClampNeg t_count) x1))), (h_t_victimWords, .inl (cI, n_t_victimWords, .inl (upd t_victimWords_a (Int32.toNatClampNeg t_count) (x2 / t_bits)))), (h_t_victimMasks, .inl (cI, n_t_victimMasks, .inl (upd t_victimMasks_a (Int32.toNatClampNeg t_count) (1 <<< ((x2 - x2 / t_bits * t_bits) &&& 31))))), (h_t_otherWords, .inl (cI, n_t_otherWords, .inl (upd t_otherWords_a (Int32.toNatClampNeg t_count) (x4 / t_bits)))), (h_t_otherMasks, .inl (cI, n_t_otherMasks, .inl t_otherMasks_a))] := hD
  refine lv_aload_n hx hb d_FaultList_add_102 rfl (lv_at hl 1 rfl) ?_
  refine va_get (D := D) (ci := 3) (v := .ref h_t_otherMasks) (C := R_FaultList) (T := F_FaultList) (N := 8) hx hb hts i_FaultList hown hK.1 hP 0 rfl rfl 4 (by decide) (hts _ w_15) (fun _ h9 => h9) rfl d_FaultList_add_103 ?_
  refine lv_aload_n hx hb d_FaultList_add_106 rfl (lv_at hl 1 rfl) ?_
  refine va_get (D := D) (ci := 3) (v := .int t_count) (C := R_FaultList) (T := F_FaultList) (N := 8) hx hb hts i_FaultList hown hK.1 hP 0 rfl rfl 5 (by decide) (hts _ w_183) (fun _ h9 => h9) rfl d_FaultList_add_107 ?_
  refine lv_iload hx hb d_FaultList_add_110 (lv_at hl 0 rfl) ?_
  obtain ⟨hin1, hf⟩ := ifG hf
  refine va_iast hx hb hK.1 hP hD hS 5 0 rfl rfl (inB_in hin1) d_FaultList_add_112 (fun H locs hP hD hS => ?_)
  have hP : va_P D classes [(h_t, .inr (3, [.ref h_t_kinds, .ref h_t_victimWords, .ref h_t_victimMasks, .ref h_t_otherWords, .ref h_t_otherMasks, .int t_count, .int t_touchedWords, .int t_bits])), (h_t_kinds, .inl (cI, n_t_kinds, .inl (upd t_kinds_a (Int32.toNatClampNeg t_count) x1))), (h_t_victimWords, .inl (cI, n_t_victimWords, .inl (upd t_victimWords_a (Int32.toNatClampNeg t_count) (x2 / t_bits)))), (h_t_victimMasks, .inl (cI, n_t_victimMasks, .inl (upd t_victimMasks_a (Int32.toNatClampNeg t_count) (1 <<< ((x2 - x2 / t_bits * t_bits) &&& 31))))), (h_t_otherWords, .inl (cI, n_t_otherWords, .inl (upd t_otherWords_a (Int32.toNatClampNeg t_count) (x4 / t_bits)))), (h_t_otherMasks, .inl (cI, n_t_otherMasks, .inl (upd t_otherMasks_a (Int32.toNatClampNeg t_count) s0)))] H := hP
  have hD : va_D A [(h_t, .inr (3, [.ref h_t_kinds, .ref h_t_victimWords, .ref h_t_victimMasks, .ref h_t_otherWords, .ref h_t_otherMasks, .int t_count, .int t_touchedWords, .int t_bits])), (h_t_kinds, .inl (cI, n_t_kinds, .inl (upd t_kinds_a (Int32.toNatClampNeg t_count) x1))), (h_t_victimWords, .inl (cI, n_t_victimWords, .inl (upd t_victimWords_a (Int32.toNatClampNeg t_count) (x2 / t_bits)))), (h_t_victimMasks, .inl (cI, n_t_victimMasks, .inl (upd t_victimMasks_a (Int32.toNatClampNeg t_count) (1 <<< ((x2 - x2 / t_bits * t_bits) &&& 31))))), (h_t_otherWords, .inl (cI, n_t_otherWords, .inl (upd t_otherWords_a (Int32.toNatClampNeg t_count) (x4 / t_bits)))), (h_t_otherMasks, .inl (cI, n_t_otherMasks, .inl (upd t_otherMasks_a (Int32.toNatClampNeg t_count) s0)))] := hD
  refine lv_aload_n hx hb d_FaultList_add_113 rfl (lv_at hl 1 rfl) ?_
  refine lv_dup hx hb d_FaultList_add_114 rfl ?_
  refine va_get (D := D) (ci := 3) (v := .int t_touchedWords) (C := R_FaultList) (T := F_FaultList) (N := 8) hx hb hts i_FaultList hown hK.1 hP 0 rfl rfl 6 (by decide) (hts _ w_184) (fun _ h9 => h9) rfl d_FaultList_add_115 ?_
  refine lv_iconst (v := 1) hx hb d_FaultList_add_118 (by decide) ?_
  refine lv_aload_n hx hb d_FaultList_add_119 rfl (lv_at hl 1 rfl) ?_
  refine va_get (D := D) (ci := 3) (v := .ref h_t_victimWords) (C := R_FaultList) (T := F_FaultList) (N := 8) hx hb hts i_FaultList hown hK.1 hP 0 rfl rfl 1 (by decide) (hts _ w_12) (fun _ h9 => h9) rfl d_FaultList_add_120 ?_
  refine lv_aload_n hx hb d_FaultList_add_123 rfl (lv_at hl 1 rfl) ?_
  refine va_get (D := D) (ci := 3) (v := .int t_count) (C := R_FaultList) (T := F_FaultList) (N := 8) hx hb hts i_FaultList hown hK.1 hP 0 rfl rfl 5 (by decide) (hts _ w_183) (fun _ h9 => h9) rfl d_FaultList_add_124 ?_
  obtain ⟨hin1, hf⟩ := ifG hf
  refine va_iald hx hb hK.1 hP 2 0 rfl rfl (inB_in hin1) d_FaultList_add_127 ?_
  refine lv_ishl hx hb d_FaultList_add_128 ?_
  refine lv_iconst (v := 1) hx hb d_FaultList_add_129 (by decide) ?_
  refine lv_aload_n hx hb d_FaultList_add_130 rfl (lv_at hl 1 rfl) ?_
  refine va_get (D := D) (ci := 3) (v := .ref h_t_otherWords) (C := R_FaultList) (T := F_FaultList) (N := 8) hx hb hts i_FaultList hown hK.1 hP 0 rfl rfl 3 (by decide) (hts _ w_14) (fun _ h9 => h9) rfl d_FaultList_add_131 ?_
  refine lv_aload_n hx hb d_FaultList_add_134 rfl (lv_at hl 1 rfl) ?_
  refine va_get (D := D) (ci := 3) (v := .int t_count) (C := R_FaultList) (T := F_FaultList) (N := 8) hx hb hts i_FaultList hown hK.1 hP 0 rfl rfl 5 (by decide) (hts _ w_183) (fun _ h9 => h9) rfl d_FaultList_add_135 ?_
  obtain ⟨hin1, hf⟩ := ifG hf
  refine va_iald hx hb hK.1 hP 4 0 rfl rfl (inB_in hin1) d_FaultList_add_138 ?_
  refine lv_ishl hx hb d_FaultList_add_139 ?_
  refine lv_ior hx hb d_FaultList_add_140 ?_
  refine lv_ior hx hb d_FaultList_add_141 ?_
  refine va_put (D := D) (ci := 3) (v := .int (t_touchedWords ||| ((1 <<< (((upd t_victimWords_a (Int32.toNatClampNeg t_count) (x2 / t_bits)) (Int32.toNatClampNeg t_count)) &&& 31)) ||| (1 <<< (((upd t_otherWords_a (Int32.toNatClampNeg t_count) (x4 / t_bits)) (Int32.toNatClampNeg t_count)) &&& 31))))) (ty := .int) (C := R_FaultList) (T := F_FaultList) (N := 8) hx hb hts i_FaultList t_FaultList t_FaultList_ok n_FaultList hown hK.1 hP hD hS 0 rfl rfl 6 (by decide) (hts _ w_184) (fun _ h9 => h9) rfl (t_FaultList_ok 6 (by decide)) rfl rfl (Nat.le_of_ble_eq_true rfl) d_FaultList_add_142 (fun H locs hP hD hS => ?_)
  have hP : va_P D classes [(h_t, .inr (3, [.ref h_t_kinds, .ref h_t_victimWords, .ref h_t_victimMasks, .ref h_t_otherWords, .ref h_t_otherMasks, .int t_count, .int (t_touchedWords ||| ((1 <<< (((upd t_victimWords_a (Int32.toNatClampNeg t_count) (x2 / t_bits)) (Int32.toNatClampNeg t_count)) &&& 31)) ||| (1 <<< (((upd t_otherWords_a (Int32.toNatClampNeg t_count) (x4 / t_bits)) (Int32.toNatClampNeg t_count)) &&& 31)))), .int t_bits])), (h_t_kinds, .inl (cI, n_t_kinds, .inl (upd t_kinds_a (Int32.toNatClampNeg t_count) x1))), (h_t_victimWords, .inl (cI, n_t_victimWords, .inl (upd t_victimWords_a (Int32.toNatClampNeg t_count) (x2 / t_bits)))), (h_t_victimMasks, .inl (cI, n_t_victimMasks, .inl (upd t_victimMasks_a (Int32.toNatClampNeg t_count) (1 <<< ((x2 - x2 / t_bits * t_bits) &&& 31))))), (h_t_otherWords, .inl (cI, n_t_otherWords, .inl (upd t_otherWords_a (Int32.toNatClampNeg t_count) (x4 / t_bits)))), (h_t_otherMasks, .inl (cI, n_t_otherMasks, .inl (upd t_otherMasks_a (Int32.toNatClampNeg t_count) s0)))] H := hP
  have hD : va_D A [(h_t, .inr (3, [.ref h_t_kinds, .ref h_t_victimWords, .ref h_t_victimMasks, .ref h_t_otherWords, .ref h_t_otherMasks, .int t_count, .int (t_touchedWords ||| ((1 <<< (((upd t_victimWords_a (Int32.toNatClampNeg t_count) (x2 / t_bits)) (Int32.toNatClampNeg t_count)) &&& 31)) ||| (1 <<< (((upd t_otherWords_a (Int32.toNatClampNeg t_count) (x4 / t_bits)) (Int32.toNatClampNeg t_count)) &&& 31)))), .int t_bits])), (h_t_kinds, .inl (cI, n_t_kinds, .inl (upd t_kinds_a (Int32.toNatClampNeg t_count) x1))), (h_t_victimWords, .inl (cI, n_t_victimWords, .inl (upd t_victimWords_a (Int32.toNatClampNeg t_count) (x2 / t_bits)))), (h_t_victimMasks, .inl (cI, n_t_victimMasks, .inl (upd t_victimMasks_a (Int32.toNatClampNeg t_count) (1 <<< ((x2 - x2 / t_bits * t_bits) &&& 31))))), (h_t_otherWords, .inl (cI, n_t_otherWords, .inl (upd t_otherWords_a (Int32.toNatClampNeg t_count) (x4 / t_bits)))), (h_t_otherMasks, .inl (cI, n_t_otherMasks, .inl (upd t_otherMasks_a (Int32.toNatClampNeg t_count) s0)))] := hD
  refine lv_aload_n hx hb d_FaultList_add_145 rfl (lv_at hl 1 rfl) ?_
  refine lv_dup hx hb d_FaultList_add_146 rfl ?_
  refine va_get (D := D) (ci := 3) (v := .int t_count) (C := R_FaultList) (T := F_FaultList) (N := 8) hx hb hts i_FaultList hown hK.1 hP 0 rfl rfl 5 (by decide) (hts _ w_183) (fun _ h9 => h9) rfl d_FaultList_add_147 ?_
  refine lv_iconst (v := 1) hx hb d_FaultList_add_150 (by decide) ?_
  refine lv_iadd hx hb d_FaultList_add_151 ?_
  refine va_put (D := D) (ci := 3) (v := .int (t_count + 1)) (ty := .int) (C := R_FaultList) (T := F_FaultList) (N := 8) hx hb hts i_FaultList t_FaultList t_FaultList_ok n_FaultList hown hK.1 hP hD hS 0 rfl rfl 5 (by decide) (hts _ w_183) (fun _ h9 => h9) rfl (t_FaultList_ok 5 (by decide)) rfl rfl (Nat.le_of_ble_eq_true rfl) d_FaultList_add_152 (fun H locs hP hD hS => ?_)
  have hP : va_P D classes [(h_t, .inr (3, [.ref h_t_kinds, .ref h_t_victimWords, .ref h_t_victimMasks, .ref h_t_otherWords, .ref h_t_otherMasks, .int (t_count + 1), .int (t_touchedWords ||| ((1 <<< (((upd t_victimWords_a (Int32.toNatClampNeg t_count) (x2 / t_bits)) (Int32.toNatClampNeg t_count)) &&& 31)) ||| (1 <<< (((upd t_otherWords_a (Int32.toNatClampNeg t_count) (x4 / t_bits)) (Int32.toNatClampNeg t_count)) &&& 31)))), .int t_bits])), (h_t_kinds, .inl (cI, n_t_kinds, .inl (upd t_kinds_a (Int32.toNatClampNeg t_count) x1))), (h_t_victimWords, .inl (cI, n_t_victimWords, .inl (upd t_victimWords_a (Int32.toNatClampNeg t_count) (x2 / t_bits)))), (h_t_victimMasks, .inl (cI, n_t_victimMasks, .inl (upd t_victimMasks_a (Int32.toNatClampNeg t_count) (1 <<< ((x2 - x2 / t_bits * t_bits) &&& 31))))), (h_t_otherWords, .inl (cI, n_t_otherWords, .inl (upd t_otherWords_a (Int32.toNatClampNeg t_count) (x4 / t_bits)))), (h_t_otherMasks, .inl (cI, n_t_otherMasks, .inl (upd t_otherMasks_a (Int32.toNatClampNeg t_count) s0)))] H := hP
  have hD : va_D A [(h_t, .inr (3, [.ref h_t_kinds, .ref h_t_victimWords, .ref h_t_victimMasks, .ref h_t_otherWords, .ref h_t_otherMasks, .int (t_count + 1), .int (t_touchedWords ||| ((1 <<< (((upd t_victimWords_a (Int32.toNatClampNeg t_count) (x2 / t_bits)) (Int32.toNatClampNeg t_count)) &&& 31)) ||| (1 <<< (((upd t_otherWords_a (Int32.toNatClampNeg t_count) (x4 / t_bits)) (Int32.toNatClampNeg t_count)) &&& 31)))), .int t_bits])), (h_t_kinds, .inl (cI, n_t_kinds, .inl (upd t_kinds_a (Int32.toNatClampNeg t_count) x1))), (h_t_victimWords, .inl (cI, n_t_victimWords, .inl (upd t_victimWords_a (Int32.toNatClampNeg t_count) (x2 / t_bits)))), (h_t_victimMasks, .inl (cI, n_t_victimMasks, .inl (upd t_victimMasks_a (Int32.toNatClampNeg t_count) (1 <<< ((x2 - x2 / t_bits * t_bits) &&& 31))))), (h_t_otherWords, .inl (cI, n_t_otherWords, .inl (upd t_otherWords_a (Int32.toNatClampNeg t_count) (x4 / t_bits)))), (h_t_otherMasks, .inl (cI, n_t_otherMasks, .inl (upd t_otherMasks_a (Int32.toNatClampNeg t_count) s0)))] := hD
  obtain rfl := Option.some.inj hf
  exact ret_v hx hb hr hlocks hP hD hS ⟨rfl, rfl⟩ d_FaultList_add_155
set_option maxHeartbeats 4000000 in
set_option maxRecDepth 100000 in
theorem k_FaultList_add_21 {p : Program} {l : Launch} {e : Env} {s : State} {m : MethodId} {args : Array Value} {below : List Frame} {meth : Method} {c : Code} {D : va_G} {cI cB cJ : ClassId} {A : Nat → Prop} (C0 : CX p s m args meth c D [(cI, .int), (cB, .byte), (cJ, .long)] R_FaultList b_FaultList_add 6 none "add") (hA : ∀ q, s.heap.size ≤ q → A q) {h_t h_t_kinds h_t_victimWords h_t_victimMasks h_t_otherWords h_t_otherMasks : Nat} {res : Int32 × Int32 × (Nat → Int32) × (Nat → Int32) × (Nat → Int32) × (Nat → Int32) × (Nat → Int32)} {n_t_kinds : Nat} {n_t_victimWords : Nat} {n_t_victimMasks : Nat} {n_t_otherWords : Nat} {n_t_otherMasks : Nat} {t_count : Int32} {t_touchedWords : Int32} {t_bits : Int32} {t_kinds_a : Nat → Int32} {t_victimWords_a : Nat → Int32} {t_victimMasks_a : Nat → Int32} {t_otherWords_a : Nat → Int32} {t_otherMasks_a : Nat → Int32} {s0 : Int32} {x1 : Int32} {x2 : Int32} {x3 : Int32}
    (hf : f_FaultList_add_21 n_t_kinds n_t_victimWords n_t_victimMasks n_t_otherWords n_t_otherMasks t_count t_touchedWords t_bits t_kinds_a t_victimWords_a t_victimMasks_a t_otherWords_a t_otherMasks_a s0 x1 x2 x3 = some res) {H : Heap} {locs : List Loc} {ls : Array Slot} (hP : va_P D classes [(h_t, .inr (3, [.ref h_t_kinds, .ref h_t_victimWords, .ref h_t_victimMasks, .ref h_t_otherWords, .ref h_t_otherMasks, .int t_count, .int t_touchedWords, .int t_bits])), (h_t_kinds, .inl (cI, n_t_kinds, .inl t_kinds_a)), (h_t_victimWords, .inl (cI, n_t_victimWords, .inl t_victimWords_a)), (h_t_victimMasks, .inl (cI, n_t_victimMasks, .inl t_victimMasks_a)), (h_t_otherWords, .inl (cI, n_t_otherWords, .inl t_otherWords_a)), (h_t_otherMasks, .inl (cI, n_t_otherMasks, .inl t_otherMasks_a))] H) (hD : va_D A [(h_t, .inr (3, [.ref h_t_kinds, .ref h_t_victimWords, .ref h_t_victimMasks, .ref h_t_otherWords, .ref h_t_otherMasks, .int t_count, .int t_touchedWords, .int t_bits])), (h_t_kinds, .inl (cI, n_t_kinds, .inl t_kinds_a)), (h_t_victimWords, .inl (cI, n_t_victimWords, .inl t_victimWords_a)), (h_t_victimMasks, .inl (cI, n_t_victimMasks, .inl t_victimMasks_a)), (h_t_otherWords, .inl (cI, n_t_otherWords, .inl t_otherWords_a)), (h_t_otherMasks, .inl (cI, n_t_otherMasks, .inl t_otherMasks_a))]) (hS : va_S A s.heap H locs) (hl : lv_has ls 6 [(0, .ref h_t), (1, .int x1), (2, .int x2), (3, .int x3)]) : W p l e rm_FaultList_add s m args below meth c H locs 0 0 (MQ below (QW D (post_FaultList_add h_t h_t_kinds h_t_victimWords h_t_victimMasks h_t_otherWords h_t_otherMasks n_t_kinds n_t_victimWords n_t_victimMasks n_t_otherWords n_t_otherMasks t_bits cI cB cJ res) A) args s 0 0 A) (F0 m 21 ls [.int s0]) := by
  obtain ⟨hx, hb, hml, hr, hlocks, hts, hown, hK, hin⟩ := id C0
  have hf : (((
  (Option.bind (f_MT_isPaired x1) fun q24_2 =>
  (if q24_2 = 0 then
    (f_FaultList_add_42 n_t_kinds n_t_victimWords n_t_victimMasks n_t_otherWords n_t_otherMasks t_count t_touchedWords t_bits t_kinds_a t_victimWords_a t_victimMasks_a t_otherWords_a t_otherMasks_a 0 x1 x2 s0)
  else
    (if nzB t_bits = true then
    (f_FaultList_add_42 n_t_kinds n_t_victimWords n_t_victimMasks n_t_otherWords n_t_otherMasks t_count t_touchedWords t_bits t_kinds_a t_victimWords_a t_victimMasks_a t_otherWords_a t_otherMasks_a (1 <<< ((x3 - x3 / t_bits * t_bits) &&& 31)) x1 x2 s0)
    else none))))) : Option (Int32 × Int32 × (Nat → Int32) × (Nat → Int32) × (Nat → Int32) × (Nat → Int32) × (Nat → Int32))) = some res := hf
  refine lv_istore (lv' := [(4, .int s0), (0, .ref h_t), (1, .int x1), (2, .int x2), (3, .int x3)]) hx hb d_FaultList_add_21 hl (by decide) rfl (fun ls hl => ?_)
  refine lv_iload_n hx hb d_FaultList_add_23 rfl (lv_at hl 2 rfl) ?_
  obtain ⟨q24_2, hc, hf⟩ := bindS hf
  refine mcSN (n := 1) (As := [.int x1]) (rest := []) (wr := [(h_t, .inr (3, [.ref h_t_kinds, .ref h_t_victimWords, .ref h_t_victimMasks, .ref h_t_otherWords, .ref h_t_otherMasks, .int t_count, .int t_touchedWords, .int t_bits])), (h_t_kinds, .inl (cI, n_t_kinds, .inl t_kinds_a)), (h_t_victimWords, .inl (cI, n_t_victimWords, .inl t_victimWords_a)), (h_t_victimMasks, .inl (cI, n_t_victimMasks, .inl t_victimMasks_a)), (h_t_otherWords, .inl (cI, n_t_otherWords, .inl t_otherWords_a)), (h_t_otherMasks, .inl (cI, n_t_otherMasks, .inl t_otherMasks_a))]) hx hb hml hown hts hK (c_MT_isPaired (l := l) (D := D) (cI := cI) (cB := cB) (cJ := cJ) (a1 := x1) (sz := H.size) (res := q24_2) (hf := hc)) w_185 w_186 w_187 w_188 (by decide +kernel) rfl rfl ⟨Nat.le_of_ble_eq_true rfl, Nat.le_of_ble_eq_true rfl⟩ hP hD hS hA [] [0, 1, 2, 3, 4, 5] rfl rfl (by decide) (by decide) (by decide) hl.1 rfl rfl (lv_room (Nat.le_of_ble_eq_true rfl)) d_FaultList_add_24 ⟨Nat.le_of_ble_eq_true rfl, Nat.le_of_ble_eq_true rfl⟩ (fun o ws' H locs hp hP hD hS => ?_)
  obtain ⟨rfl, rfl⟩ := hp
  have hP : va_P D classes [(h_t, .inr (3, [.ref h_t_kinds, .ref h_t_victimWords, .ref h_t_victimMasks, .ref h_t_otherWords, .ref h_t_otherMasks, .int t_count, .int t_touchedWords, .int t_bits])), (h_t_kinds, .inl (cI, n_t_kinds, .inl t_kinds_a)), (h_t_victimWords, .inl (cI, n_t_victimWords, .inl t_victimWords_a)), (h_t_victimMasks, .inl (cI, n_t_victimMasks, .inl t_victimMasks_a)), (h_t_otherWords, .inl (cI, n_t_otherWords, .inl t_otherWords_a)), (h_t_otherMasks, .inl (cI, n_t_otherMasks, .inl t_otherMasks_a))] H := hP.sub [0, 1, 2, 3, 4, 5] rfl
  have hD : va_D A [(h_t, .inr (3, [.ref h_t_kinds, .ref h_t_victimWords, .ref h_t_victimMasks, .ref h_t_otherWords, .ref h_t_otherMasks, .int t_count, .int t_touchedWords, .int t_bits])), (h_t_kinds, .inl (cI, n_t_kinds, .inl t_kinds_a)), (h_t_victimWords, .inl (cI, n_t_victimWords, .inl t_victimWords_a)), (h_t_victimMasks, .inl (cI, n_t_victimMasks, .inl t_victimMasks_a)), (h_t_otherWords, .inl (cI, n_t_otherWords, .inl t_otherWords_a)), (h_t_otherMasks, .inl (cI, n_t_otherMasks, .inl t_otherMasks_a))] := hD.sub [0, 1, 2, 3, 4, 5] (by decide) rfl
  refine lv_if_eq (tgt := 41) hx hb d_FaultList_add_27 (by decide) (fun cc27 => ?_) (fun cc27 => ?_)
  · have hf := ifT cc27 hf
    refine lv_iconst (v := 0) hx hb d_FaultList_add_41 (by decide) ?_
    exact k_FaultList_add_42 (s := s) C0 hA hf hP hD hS (lv_sub hl [1, 2, 3, 0] rfl)
  · have hf := ifF cc27 hf
    refine lv_iconst (v := 1) hx hb d_FaultList_add_30 (by decide) ?_
    refine lv_iload_n hx hb d_FaultList_add_31 rfl (lv_at hl 4 rfl) ?_
    refine lv_aload_n hx hb d_FaultList_add_32 rfl (lv_at hl 1 rfl) ?_
    refine va_get (D := D) (ci := 3) (v := .int t_bits) (C := R_FaultList) (T := F_FaultList) (N := 8) hx hb hts i_FaultList hown hK.1 hP 0 rfl rfl 7 (by decide) (hts _ w_20) (fun _ h9 => h9) rfl d_FaultList_add_33 ?_
    obtain ⟨hne, hf⟩ := ifG hf
    refine lv_irem hx hb d_FaultList_add_36 (ne_of_nz hne) ?_
    refine lv_ishl hx hb d_FaultList_add_37 ?_
    refine lv_goto (tgt := 42) hx hb d_FaultList_add_38 (by decide) ?_
    exact k_FaultList_add_42 (s := s) C0 hA hf hP hD hS (lv_sub hl [1, 2, 3, 0] rfl)
set_option maxHeartbeats 4000000 in
set_option maxRecDepth 100000 in
theorem c_FaultList_add (l : Launch) (D : va_G) (cI cB cJ : ClassId) (h_t h_t_kinds h_t_victimWords h_t_victimMasks h_t_otherWords h_t_otherMasks : Nat)  (n_t_kinds : Nat) (n_t_victimWords : Nat) (n_t_victimMasks : Nat) (n_t_otherWords : Nat) (n_t_otherMasks : Nat) (t_count : Int32) (t_touchedWords : Int32) (t_bits : Int32) (t_kinds_a : Nat → Int32) (t_victimWords_a : Nat → Int32) (t_victimMasks_a : Nat → Int32) (t_otherWords_a : Nat → Int32) (t_otherMasks_a : Nat → Int32) (a1 : Int32) (a2 : Int32) (a3 : Int32) (sz : Nat) (res : Int32 × Int32 × (Nat → Int32) × (Nat → Int32) × (Nat → Int32) × (Nat → Int32) × (Nat → Int32)) (hf : f_FaultList_add n_t_kinds n_t_victimWords n_t_victimMasks n_t_otherWords n_t_otherMasks t_count t_touchedWords t_bits t_kinds_a t_victimWords_a t_victimMasks_a t_otherWords_a t_otherMasks_a a1 a2 a3 = some res) : Met l y_FaultList_add (.code y_FaultList_add b_FaultList_add 6 none :: TB) rm_FaultList_add (PcW D [(cI, .int), (cB, .byte), (cJ, .long)] [.ref h_t, .int a1, .int a2, .int a3] [(h_t, .inr (3, [.ref h_t_kinds, .ref h_t_victimWords, .ref h_t_victimMasks, .ref h_t_otherWords, .ref h_t_otherMasks, .int t_count, .int t_touchedWords, .int t_bits])), (h_t_kinds, .inl (cI, n_t_kinds, .inl t_kinds_a)), (h_t_victimWords, .inl (cI, n_t_victimWords, .inl t_victimWords_a)), (h_t_victimMasks, .inl (cI, n_t_victimMasks, .inl t_victimMasks_a)), (h_t_otherWords, .inl (cI, n_t_otherWords, .inl t_otherWords_a)), (h_t_otherMasks, .inl (cI, n_t_otherMasks, .inl t_otherMasks_a))] sz) (QW D (post_FaultList_add h_t h_t_kinds h_t_victimWords h_t_victimMasks h_t_otherWords h_t_otherMasks n_t_kinds n_t_victimWords n_t_victimMasks n_t_otherWords n_t_otherMasks t_bits cI cB cJ res) (va_A [(h_t, .inr (3, [.ref h_t_kinds, .ref h_t_victimWords, .ref h_t_victimMasks, .ref h_t_otherWords, .ref h_t_otherMasks, .int t_count, .int t_touchedWords, .int t_bits])), (h_t_kinds, .inl (cI, n_t_kinds, .inl t_kinds_a)), (h_t_victimWords, .inl (cI, n_t_victimWords, .inl t_victimWords_a)), (h_t_victimMasks, .inl (cI, n_t_victimMasks, .inl t_victimMasks_a)), (h_t_otherWords, .inl (cI, n_t_otherWords, .inl t_otherWords_a)), (h_t_otherMasks, .inl (cI, n_t_otherMasks, .inl t_otherMasks_a))] sz)) 0 0 (va_A [(h_t, .inr (3, [.ref h_t_kinds, .ref h_t_victimWords, .ref h_t_victimMasks, .ref h_t_otherWords, .ref h_t_otherMasks, .int t_count, .int t_touchedWords, .int t_bits])), (h_t_kinds, .inl (cI, n_t_kinds, .inl t_kinds_a)), (h_t_victimWords, .inl (cI, n_t_victimWords, .inl t_victimWords_a)), (h_t_victimMasks, .inl (cI, n_t_victimMasks, .inl t_victimMasks_a)), (h_t_otherWords, .inl (cI, n_t_otherWords, .inl t_otherWords_a)), (h_t_otherMasks, .inl (cI, n_t_otherMasks, .inl t_otherMasks_a))] sz) := by
  refine entW ⟨by decide +kernel, rfl⟩ fun p e s m below meth c C0 hP hD hsz ls hl => ?_
  subst hsz
  generalize hAe : va_A [(h_t, .inr (3, [.ref h_t_kinds, .ref h_t_victimWords, .ref h_t_victimMasks, .ref h_t_otherWords, .ref h_t_otherMasks, .int t_count, .int t_touchedWords, .int t_bits])), (h_t_kinds, .inl (cI, n_t_kinds, .inl t_kinds_a)), (h_t_victimWords, .inl (cI, n_t_victimWords, .inl t_victimWords_a)), (h_t_victimMasks, .inl (cI, n_t_victimMasks, .inl t_victimMasks_a)), (h_t_otherWords, .inl (cI, n_t_otherWords, .inl t_otherWords_a)), (h_t_otherMasks, .inl (cI, n_t_otherMasks, .inl t_otherMasks_a))] s.heap.size = A at hD ⊢
  have hA : ∀ q : Nat, s.heap.size ≤ q → A q := fun q h => by rw [← hAe]; exact Or.inr h
  clear hAe
  have hS : va_S A s.heap s.heap [] := va_S.rf
  have hl : lv_has ls 6 [(0, .ref h_t), (1, .int a1), (2, .int a2), (3, .int a3)] := hl
  obtain ⟨hx, hb, hml, hr, hlocks, hts, hown, hK, hin⟩ := id C0
  have hf : (((
  (if t_count < 4 then
    (Option.bind (f_MT_isPaired a1) fun q10_1 =>
    (if q10_1 = 0 then
      (f_FaultList_add_21 n_t_kinds n_t_victimWords n_t_victimMasks n_t_otherWords n_t_otherMasks t_count t_touchedWords t_bits t_kinds_a t_victimWords_a t_victimMasks_a t_otherWords_a t_otherMasks_a a2 a1 a2 a3)
    else
      (f_FaultList_add_21 n_t_kinds n_t_victimWords n_t_victimMasks n_t_otherWords n_t_otherMasks t_count t_touchedWords t_bits t_kinds_a t_victimWords_a t_victimMasks_a t_otherWords_a t_otherMasks_a a3 a1 a2 a3)))
  else
    some (t_count, t_touchedWords, t_kinds_a, t_victimWords_a, t_victimMasks_a, t_otherWords_a, t_otherMasks_a)))) : Option (Int32 × Int32 × (Nat → Int32) × (Nat → Int32) × (Nat → Int32) × (Nat → Int32) × (Nat → Int32))) = some res := hf
  obtain ⟨H, hH⟩ : ∃ H, H = s.heap := ⟨_, rfl⟩
  obtain ⟨locs, hlo⟩ : ∃ x : List Loc, x = [] := ⟨_, rfl⟩
  rw [← hlo] at hS ⊢
  have hP : va_P D classes [(h_t, .inr (3, [.ref h_t_kinds, .ref h_t_victimWords, .ref h_t_victimMasks, .ref h_t_otherWords, .ref h_t_otherMasks, .int t_count, .int t_touchedWords, .int t_bits])), (h_t_kinds, .inl (cI, n_t_kinds, .inl t_kinds_a)), (h_t_victimWords, .inl (cI, n_t_victimWords, .inl t_victimWords_a)), (h_t_victimMasks, .inl (cI, n_t_victimMasks, .inl t_victimMasks_a)), (h_t_otherWords, .inl (cI, n_t_otherWords, .inl t_otherWords_a)), (h_t_otherMasks, .inl (cI, n_t_otherMasks, .inl t_otherMasks_a))] H := by rw [hH]; exact hP
  have hS : va_S A s.heap H locs := by rw [hH]; exact hS
  show W p l e rm_FaultList_add s m _ below meth c s.heap locs 0 0 (MQ below (QW D (post_FaultList_add h_t h_t_kinds h_t_victimWords h_t_victimMasks h_t_otherWords h_t_otherMasks n_t_kinds n_t_victimWords n_t_victimMasks n_t_otherWords n_t_otherMasks t_bits cI cB cJ res) A) _ s 0 0 A) (F0 m 0 ls [])
  refine wheap hH ?_
  clear hH hlo
  refine lv_aload_n hx hb d_FaultList_add_0 rfl (lv_at hl 0 rfl) ?_
  refine va_get (D := D) (ci := 3) (v := .int t_count) (C := R_FaultList) (T := F_FaultList) (N := 8) hx hb hts i_FaultList hown hK.1 hP 0 rfl rfl 5 (by decide) (hts _ w_183) (fun _ h9 => h9) rfl d_FaultList_add_1 ?_
  refine lv_iconst (v := 4) hx hb d_FaultList_add_4 (by decide) ?_
  refine lv_icmp_lt (tgt := 9) hx hb d_FaultList_add_5 (by decide) (fun cc5 => ?_) (fun cc5 => ?_)
  · have hf := ifT cc5 hf
    refine lv_iload_n hx hb d_FaultList_add_9 rfl (lv_at hl 1 rfl) ?_
    obtain ⟨q10_1, hc, hf⟩ := bindS hf
    refine mcSN (n := 1) (As := [.int a1]) (rest := []) (wr := [(h_t, .inr (3, [.ref h_t_kinds, .ref h_t_victimWords, .ref h_t_victimMasks, .ref h_t_otherWords, .ref h_t_otherMasks, .int t_count, .int t_touchedWords, .int t_bits])), (h_t_kinds, .inl (cI, n_t_kinds, .inl t_kinds_a)), (h_t_victimWords, .inl (cI, n_t_victimWords, .inl t_victimWords_a)), (h_t_victimMasks, .inl (cI, n_t_victimMasks, .inl t_victimMasks_a)), (h_t_otherWords, .inl (cI, n_t_otherWords, .inl t_otherWords_a)), (h_t_otherMasks, .inl (cI, n_t_otherMasks, .inl t_otherMasks_a))]) hx hb hml hown hts hK (c_MT_isPaired (l := l) (D := D) (cI := cI) (cB := cB) (cJ := cJ) (a1 := a1) (sz := H.size) (res := q10_1) (hf := hc)) w_185 w_186 w_187 w_188 (by decide +kernel) rfl rfl ⟨Nat.le_of_ble_eq_true rfl, Nat.le_of_ble_eq_true rfl⟩ hP hD hS hA [] [0, 1, 2, 3, 4, 5] rfl rfl (by decide) (by decide) (by decide) hl.1 rfl rfl (lv_room (Nat.le_of_ble_eq_true rfl)) d_FaultList_add_10 ⟨Nat.le_of_ble_eq_true rfl, Nat.le_of_ble_eq_true rfl⟩ (fun o ws' H locs hp hP hD hS => ?_)
    obtain ⟨rfl, rfl⟩ := hp
    have hP : va_P D classes [(h_t, .inr (3, [.ref h_t_kinds, .ref h_t_victimWords, .ref h_t_victimMasks, .ref h_t_otherWords, .ref h_t_otherMasks, .int t_count, .int t_touchedWords, .int t_bits])), (h_t_kinds, .inl (cI, n_t_kinds, .inl t_kinds_a)), (h_t_victimWords, .inl (cI, n_t_victimWords, .inl t_victimWords_a)), (h_t_victimMasks, .inl (cI, n_t_victimMasks, .inl t_victimMasks_a)), (h_t_otherWords, .inl (cI, n_t_otherWords, .inl t_otherWords_a)), (h_t_otherMasks, .inl (cI, n_t_otherMasks, .inl t_otherMasks_a))] H := hP.sub [0, 1, 2, 3, 4, 5] rfl
    have hD : va_D A [(h_t, .inr (3, [.ref h_t_kinds, .ref h_t_victimWords, .ref h_t_victimMasks, .ref h_t_otherWords, .ref h_t_otherMasks, .int t_count, .int t_touchedWords, .int t_bits])), (h_t_kinds, .inl (cI, n_t_kinds, .inl t_kinds_a)), (h_t_victimWords, .inl (cI, n_t_victimWords, .inl t_victimWords_a)), (h_t_victimMasks, .inl (cI, n_t_victimMasks, .inl t_victimMasks_a)), (h_t_otherWords, .inl (cI, n_t_otherWords, .inl t_otherWords_a)), (h_t_otherMasks, .inl (cI, n_t_otherMasks, .inl t_otherMasks_a))] := hD.sub [0, 1, 2, 3, 4, 5] (by decide) rfl
    refine lv_if_eq (tgt := 20) hx hb d_FaultList_add_13 (by decide) (fun cc13 => ?_) (fun cc13 => ?_)
    · have hf := ifT cc13 hf
      refine lv_iload_n hx hb d_FaultList_add_20 rfl (lv_at hl 2 rfl) ?_
      exact k_FaultList_add_21 (s := s) C0 hA hf hP hD hS (lv_sub hl [0, 1, 2, 3] rfl)
    · have hf := ifF cc13 hf
      refine lv_iload_n hx hb d_FaultList_add_16 rfl (lv_at hl 3 rfl) ?_
      refine lv_goto (tgt := 21) hx hb d_FaultList_add_17 (by decide) ?_
      exact k_FaultList_add_21 (s := s) C0 hA hf hP hD hS (lv_sub hl [0, 1, 2, 3] rfl)
  · have hf := ifF cc5 hf
    obtain rfl := Option.some.inj hf
    exact ret_v hx hb hr hlocks hP hD hS ⟨rfl, rfl⟩ d_FaultList_add_8
def f_MT_fault_47 (n_t_faults_kinds : Nat) (n_t_faults_victimWords : Nat) (n_t_faults_victimMasks : Nat) (n_t_faults_otherWords : Nat) (n_t_faults_otherMasks : Nat) (t_faults_count : Int32) (t_faults_touchedWords : Int32) (t_faults_bits : Int32) (t_faults_kinds_a : Nat → Int32) (t_faults_victimWords_a : Nat → Int32) (t_faults_victimMasks_a : Nat → Int32) (t_faults_otherWords_a : Nat → Int32) (t_faults_otherMasks_a : Nat → Int32) (x1 : Int32) (x2 : Int32) (x3 : Int32) : Option ((Int32 × Int32 × Int32 × (Nat → Int32) × (Nat → Int32) × (Nat → Int32) × (Nat → Int32) × (Nat → Int32)) ⊕ Nat) :=
  (if t_faults_count < 4 then
    (Option.bind (f_MT_isKind x1) fun q69_3 =>
    (if q69_3 = 0 then
      some (Sum.inr 2)
    else
      (Option.bind (f_MT_isPaired x1) fun q86_4 =>
      (if q86_4 = 0 then
        (Option.bind (f_FaultList_add n_t_faults_kinds n_t_faults_victimWords n_t_faults_victimMasks n_t_faults_otherWords n_t_faults_otherMasks t_faults_count t_faults_touchedWords t_faults_bits t_faults_kinds_a t_faults_victimWords_a t_faults_victimMasks_a t_faults_otherWords_a t_faults_otherMasks_a x1 x2 x3) fun q114_5 =>
        some (Sum.inl (q114_5.1, q114_5.1, q114_5.2.1, q114_5.2.2.1, q114_5.2.2.2.1, q114_5.2.2.2.2.1, q114_5.2.2.2.2.2.1, q114_5.2.2.2.2.2.2)))
      else
        (if x2 = x3 then
          some (Sum.inr 2)
        else
          (Option.bind (f_FaultList_add n_t_faults_kinds n_t_faults_victimWords n_t_faults_victimMasks n_t_faults_otherWords n_t_faults_otherMasks t_faults_count t_faults_touchedWords t_faults_bits t_faults_kinds_a t_faults_victimWords_a t_faults_victimMasks_a t_faults_otherWords_a t_faults_otherMasks_a x1 x2 x3) fun q114_6 =>
          some (Sum.inl (q114_6.1, q114_6.1, q114_6.2.1, q114_6.2.2.1, q114_6.2.2.2.1, q114_6.2.2.2.2.1, q114_6.2.2.2.2.2.1, q114_6.2.2.2.2.2.2))))))))
  else
    some (Sum.inr 1))
def f_MT_fault (n_t_faults_kinds : Nat) (n_t_faults_victimWords : Nat) (n_t_faults_victimMasks : Nat) (n_t_faults_otherWords : Nat) (n_t_faults_otherMasks : Nat) (t_cells : Int32) (t_faults_count : Int32) (t_faults_touchedWords : Int32) (t_faults_bits : Int32) (t_faults_kinds_a : Nat → Int32) (t_faults_victimWords_a : Nat → Int32) (t_faults_victimMasks_a : Nat → Int32) (t_faults_otherWords_a : Nat → Int32) (t_faults_otherMasks_a : Nat → Int32) (a1 : Int32) (a2 : Int32) (a3 : Int32) : Option ((Int32 × Int32 × Int32 × (Nat → Int32) × (Nat → Int32) × (Nat → Int32) × (Nat → Int32) × (Nat → Int32)) ⊕ Nat) :=
  (if a1 = (-1) then
    (Option.bind f_FaultList_clear fun q9_8 =>
    some (Sum.inl (0, q9_8.1, q9_8.2, t_faults_kinds_a, t_faults_victimWords_a, t_faults_victimMasks_a, t_faults_otherWords_a, t_faults_otherMasks_a)))
  else
    (Option.bind (f_MT_isCell t_cells a2) fun q16_1 =>
    (if q16_1 = 0 then
      some (Sum.inr 0)
    else
      (Option.bind (f_MT_isPaired a1) fun q23_2 =>
      (if q23_2 = 0 then
        (f_MT_fault_47 n_t_faults_kinds n_t_faults_victimWords n_t_faults_victimMasks n_t_faults_otherWords n_t_faults_otherMasks t_faults_count t_faults_touchedWords t_faults_bits t_faults_kinds_a t_faults_victimWords_a t_faults_victimMasks_a t_faults_otherWords_a t_faults_otherMasks_a a1 a2 a3)
      else
        (Option.bind (f_MT_isCell t_cells a3) fun q31_7 =>
        (if q31_7 = 0 then
          some (Sum.inr 0)
        else
          (f_MT_fault_47 n_t_faults_kinds n_t_faults_victimWords n_t_faults_victimMasks n_t_faults_otherWords n_t_faults_otherMasks t_faults_count t_faults_touchedWords t_faults_bits t_faults_kinds_a t_faults_victimWords_a t_faults_victimMasks_a t_faults_otherWords_a t_faults_otherMasks_a a1 a2 a3))))))))
def post_MT_fault (h_t h_t_faults h_t_faults_kinds h_t_faults_victimWords h_t_faults_victimMasks h_t_faults_otherWords h_t_faults_otherMasks : Nat) (v_t_words v_t_tape v_t_reader v_t_single v_t_tester v_t_plan v_t_march v_t_draft : Value) (n_t_faults_kinds : Nat) (n_t_faults_victimWords : Nat) (n_t_faults_victimMasks : Nat) (n_t_faults_otherWords : Nat) (n_t_faults_otherMasks : Nat) (t_cells : Int32) (t_faults_bits : Int32) (cI cB cJ : ClassId) (res : Int32 × Int32 × Int32 × (Nat → Int32) × (Nat → Int32) × (Nat → Int32) × (Nat → Int32) × (Nat → Int32)) : Option Value → va_W → Prop := fun o ws' => o = some (.int res.1) ∧ ws' = [(h_t, .inr (0, [v_t_words, .int t_cells, v_t_tape, v_t_reader, .ref h_t_faults, v_t_single, v_t_tester, v_t_plan, v_t_march, v_t_draft])), (h_t_faults, .inr (3, [.ref h_t_faults_kinds, .ref h_t_faults_victimWords, .ref h_t_faults_victimMasks, .ref h_t_faults_otherWords, .ref h_t_faults_otherMasks, .int res.2.1, .int res.2.2.1, .int t_faults_bits])), (h_t_faults_kinds, .inl (cI, n_t_faults_kinds, .inl res.2.2.2.1)), (h_t_faults_victimWords, .inl (cI, n_t_faults_victimWords, .inl res.2.2.2.2.1)), (h_t_faults_victimMasks, .inl (cI, n_t_faults_victimMasks, .inl res.2.2.2.2.2.1)), (h_t_faults_otherWords, .inl (cI, n_t_faults_otherWords, .inl res.2.2.2.2.2.2.1)), (h_t_faults_otherMasks, .inl (cI, n_t_faults_otherMasks, .inl res.2.2.2.2.2.2.2))]
abbrev rm_MT_fault : Room := { frames := 2, cells := 0, slots := 0, locals := 45 }
set_option maxHeartbeats 4000000 in
set_option maxRecDepth 100000 in
theorem k_MT_fault_47 {p : Program} {l : Launch} {e : Env} {s : State} {m : MethodId} {args : Array Value} {below : List Frame} {meth : Method} {c : Code} {D : va_G} {cI cB cJ : ClassId} {A : Nat → Prop} (C0 : CX p s m args meth c D [(cI, .int), (cB, .byte), (cJ, .long)] R_MT b_MT_fault 4 (some .int) "fault") (hA : ∀ q, s.heap.size ≤ q → A q) {h_t h_t_faults h_t_faults_kinds h_t_faults_victimWords h_t_faults_victimMasks h_t_faults_otherWords h_t_faults_otherMasks : Nat} {v_t_words v_t_tape v_t_reader v_t_single v_t_tester v_t_plan v_t_march v_t_draft : Value} {res : Int32 × Int32 × Int32 × (Nat → Int32) × (Nat → Int32) × (Nat → Int32) × (Nat → Int32) × (Nat → Int32)} {n_t_faults_kinds : Nat} {n_t_faults_victimWords : Nat} {n_t_faults_victimMasks : Nat} {n_t_faults_otherWords : Nat} {n_t_faults_otherMasks : Nat} {t_cells : Int32} {t_faults_count : Int32} {t_faults_touchedWords : Int32} {t_faults_bits : Int32} {t_faults_kinds_a : Nat → Int32} {t_faults_victimWords_a : Nat → Int32} {t_faults_victimMasks_a : Nat → Int32} {t_faults_otherWords_a : Nat → Int32} {t_faults_otherMasks_a : Nat → Int32} {x1 : Int32} {x2 : Int32} {x3 : Int32}
    (hf : f_MT_fault_47 n_t_faults_kinds n_t_faults_victimWords n_t_faults_victimMasks n_t_faults_otherWords n_t_faults_otherMasks t_faults_count t_faults_touchedWords t_faults_bits t_faults_kinds_a t_faults_victimWords_a t_faults_victimMasks_a t_faults_otherWords_a t_faults_otherMasks_a x1 x2 x3 = some (Sum.inl res)) {H : Heap} {locs : List Loc} {ls : Array Slot} (hP : va_P D classes [(h_t, .inr (0, [v_t_words, .int t_cells, v_t_tape, v_t_reader, .ref h_t_faults, v_t_single, v_t_tester, v_t_plan, v_t_march, v_t_draft])), (h_t_faults, .inr (3, [.ref h_t_faults_kinds, .ref h_t_faults_victimWords, .ref h_t_faults_victimMasks, .ref h_t_faults_otherWords, .ref h_t_faults_otherMasks, .int t_faults_count, .int t_faults_touchedWords, .int t_faults_bits])), (h_t_faults_kinds, .inl (cI, n_t_faults_kinds, .inl t_faults_kinds_a)), (h_t_faults_victimWords, .inl (cI, n_t_faults_victimWords, .inl t_faults_victimWords_a)), (h_t_faults_victimMasks, .inl (cI, n_t_faults_victimMasks, .inl t_faults_victimMasks_a)), (h_t_faults_otherWords, .inl (cI, n_t_faults_otherWords, .inl t_faults_otherWords_a)), (h_t_faults_otherMasks, .inl (cI, n_t_faults_otherMasks, .inl t_faults_otherMasks_a))] H) (hD : va_D A [(h_t, .inr (0, [v_t_words, .int t_cells, v_t_tape, v_t_reader, .ref h_t_faults, v_t_single, v_t_tester, v_t_plan, v_t_march, v_t_draft])), (h_t_faults, .inr (3, [.ref h_t_faults_kinds, .ref h_t_faults_victimWords, .ref h_t_faults_victimMasks, .ref h_t_faults_otherWords, .ref h_t_faults_otherMasks, .int t_faults_count, .int t_faults_touchedWords, .int t_faults_bits])), (h_t_faults_kinds, .inl (cI, n_t_faults_kinds, .inl t_faults_kinds_a)), (h_t_faults_victimWords, .inl (cI, n_t_faults_victimWords, .inl t_faults_victimWords_a)), (h_t_faults_victimMasks, .inl (cI, n_t_faults_victimMasks, .inl t_faults_victimMasks_a)), (h_t_faults_otherWords, .inl (cI, n_t_faults_otherWords, .inl t_faults_otherWords_a)), (h_t_faults_otherMasks, .inl (cI, n_t_faults_otherMasks, .inl t_faults_otherMasks_a))]) (hS : va_S A s.heap H locs) (hl : lv_has ls 4 [(0, .ref h_t), (1, .int x1), (2, .int x2), (3, .int x3)]) : W p l e rm_MT_fault s m args below meth c H locs 0 0 (MQ below (QW D (post_MT_fault h_t h_t_faults h_t_faults_kinds h_t_faults_victimWords h_t_faults_victimMasks h_t_faults_otherWords h_t_faults_otherMasks v_t_words v_t_tape v_t_reader v_t_single v_t_tester v_t_plan v_t_march v_t_draft n_t_faults_kinds n_t_faults_victimWords n_t_faults_victimMasks n_t_faults_otherWords n_t_faults_otherMasks t_cells t_faults_bits cI cB cJ res) A) args s 0 0 A) (F0 m 47 ls []) := by
  obtain ⟨hx, hb, hml, hr, hlocks, hts, hown, hK, hin⟩ := id C0
  have hf : (((
  (if t_faults_count < 4 then
    (Option.bind (f_MT_isKind x1) fun q69_3 =>
    (if q69_3 = 0 then
      some (Sum.inr 2)
    else
      (Option.bind (f_MT_isPaired x1) fun q86_4 =>
      (if q86_4 = 0 then
        (Option.bind (f_FaultList_add n_t_faults_kinds n_t_faults_victimWords n_t_faults_victimMasks n_t_faults_otherWords n_t_faults_otherMasks t_faults_count t_faults_touchedWords t_faults_bits t_faults_kinds_a t_faults_victimWords_a t_faults_victimMasks_a t_faults_otherWords_a t_faults_otherMasks_a x1 x2 x3) fun q114_5 =>
        some (Sum.inl (q114_5.1, q114_5.1, q114_5.2.1, q114_5.2.2.1, q114_5.2.2.2.1, q114_5.2.2.2.2.1, q114_5.2.2.2.2.2.1, q114_5.2.2.2.2.2.2)))
      else
        (if x2 = x3 then
          some (Sum.inr 2)
        else
          (Option.bind (f_FaultList_add n_t_faults_kinds n_t_faults_victimWords n_t_faults_victimMasks n_t_faults_otherWords n_t_faults_otherMasks t_faults_count t_faults_touchedWords t_faults_bits t_faults_kinds_a t_faults_victimWords_a t_faults_victimMasks_a t_faults_otherWords_a t_faults_otherMasks_a x1 x2 x3) fun q114_6 =>
          some (Sum.inl (q114_6.1, q114_6.1, q114_6.2.1, q114_6.2.2.1, q114_6.2.2.2.1, q114_6.2.2.2.2.1, q114_6.2.2.2.2.2.1, q114_6.2.2.2.2.2.2))))))))
  else
    some (Sum.inr 1)))) : Option ((Int32 × Int32 × Int32 × (Nat → Int32) × (Nat → Int32) × (Nat → Int32) × (Nat → Int32) × (Nat → Int32)) ⊕ Nat)) = some (Sum.inl res) := hf
  refine lv_aload_n hx hb d_MT_fault_47 rfl (lv_at hl 0 rfl) ?_
  refine va_get (D := D) (ci := 0) (v := .ref h_t_faults) (C := R_MT) (T := F_MT) (N := 10) hx hb hts i_MT hown hK.1 hP 0 rfl rfl 4 (by decide) (hts _ w_89) (fun _ h9 => h9) rfl d_MT_fault_48 ?_
  refine va_get (D := D) (ci := 3) (v := .int t_faults_count) (C := R_FaultList) (T := F_FaultList) (N := 8) hx hb hts i_FaultList hown hK.1 hP 1 rfl rfl 5 (by decide) (hts _ w_194) (fun _ h9 => h9) rfl d_MT_fault_51 ?_
  refine lv_iconst (v := 4) hx hb d_MT_fault_54 (by decide) ?_
  refine lv_icmp_lt (tgt := 68) hx hb d_MT_fault_55 (by decide) (fun cc55 => ?_) (fun cc55 => ?_)
  · have hf := ifT cc55 hf
    refine lv_iload_n hx hb d_MT_fault_68 rfl (lv_at hl 1 rfl) ?_
    obtain ⟨q69_3, hc, hf⟩ := bindS hf
    refine mcS (n := 1) (As := [.int x1]) (rest := []) (wr := [(h_t, .inr (0, [v_t_words, .int t_cells, v_t_tape, v_t_reader, .ref h_t_faults, v_t_single, v_t_tester, v_t_plan, v_t_march, v_t_draft])), (h_t_faults, .inr (3, [.ref h_t_faults_kinds, .ref h_t_faults_victimWords, .ref h_t_faults_victimMasks, .ref h_t_faults_otherWords, .ref h_t_faults_otherMasks, .int t_faults_count, .int t_faults_touchedWords, .int t_faults_bits])), (h_t_faults_kinds, .inl (cI, n_t_faults_kinds, .inl t_faults_kinds_a)), (h_t_faults_victimWords, .inl (cI, n_t_faults_victimWords, .inl t_faults_victimWords_a)), (h_t_faults_victimMasks, .inl (cI, n_t_faults_victimMasks, .inl t_faults_victimMasks_a)), (h_t_faults_otherWords, .inl (cI, n_t_faults_otherWords, .inl t_faults_otherWords_a)), (h_t_faults_otherMasks, .inl (cI, n_t_faults_otherMasks, .inl t_faults_otherMasks_a))]) hx hb hml hown hts hK (c_MT_isKind (l := l) (D := D) (cI := cI) (cB := cB) (cJ := cJ) (a1 := x1) (sz := H.size) (res := q69_3) (hf := hc)) w_195 w_196 w_187 w_197 (by decide +kernel) rfl rfl ⟨Nat.le_of_ble_eq_true rfl, Nat.le_of_ble_eq_true rfl⟩ hP hD hS hA [] [0, 1, 2, 3, 4, 5, 6] rfl rfl (by decide) (by decide) (by decide) hl.1 rfl rfl (lv_room (Nat.le_of_ble_eq_true rfl)) d_MT_fault_69 ⟨Nat.le_of_ble_eq_true rfl, Nat.le_of_ble_eq_true rfl⟩ (fun o ws' H locs hp hP hD hS => ?_)
    obtain ⟨rfl, rfl⟩ := hp
    have hP : va_P D classes [(h_t, .inr (0, [v_t_words, .int t_cells, v_t_tape, v_t_reader, .ref h_t_faults, v_t_single, v_t_tester, v_t_plan, v_t_march, v_t_draft])), (h_t_faults, .inr (3, [.ref h_t_faults_kinds, .ref h_t_faults_victimWords, .ref h_t_faults_victimMasks, .ref h_t_faults_otherWords, .ref h_t_faults_otherMasks, .int t_faults_count, .int t_faults_touchedWords, .int t_faults_bits])), (h_t_faults_kinds, .inl (cI, n_t_faults_kinds, .inl t_faults_kinds_a)), (h_t_faults_victimWords, .inl (cI, n_t_faults_victimWords, .inl t_faults_victimWords_a)), (h_t_faults_victimMasks, .inl (cI, n_t_faults_victimMasks, .inl t_faults_victimMasks_a)), (h_t_faults_otherWords, .inl (cI, n_t_faults_otherWords, .inl t_faults_otherWords_a)), (h_t_faults_otherMasks, .inl (cI, n_t_faults_otherMasks, .inl t_faults_otherMasks_a))] H := hP.sub [0, 1, 2, 3, 4, 5, 6] rfl
    have hD : va_D A [(h_t, .inr (0, [v_t_words, .int t_cells, v_t_tape, v_t_reader, .ref h_t_faults, v_t_single, v_t_tester, v_t_plan, v_t_march, v_t_draft])), (h_t_faults, .inr (3, [.ref h_t_faults_kinds, .ref h_t_faults_victimWords, .ref h_t_faults_victimMasks, .ref h_t_faults_otherWords, .ref h_t_faults_otherMasks, .int t_faults_count, .int t_faults_touchedWords, .int t_faults_bits])), (h_t_faults_kinds, .inl (cI, n_t_faults_kinds, .inl t_faults_kinds_a)), (h_t_faults_victimWords, .inl (cI, n_t_faults_victimWords, .inl t_faults_victimWords_a)), (h_t_faults_victimMasks, .inl (cI, n_t_faults_victimMasks, .inl t_faults_victimMasks_a)), (h_t_faults_otherWords, .inl (cI, n_t_faults_otherWords, .inl t_faults_otherWords_a)), (h_t_faults_otherMasks, .inl (cI, n_t_faults_otherMasks, .inl t_faults_otherMasks_a))] := hD.sub [0, 1, 2, 3, 4, 5, 6] (by decide) rfl
    refine lv_if_ne (tgt := 85) hx hb d_MT_fault_72 (by decide) (fun cc72 => ?_) (fun cc72 => ?_)
    · have hf := ifF cc72 hf
      refine lv_iload_n hx hb d_MT_fault_85 rfl (lv_at hl 1 rfl) ?_
      obtain ⟨q86_4, hc, hf⟩ := bindS hf
      refine mcS (n := 1) (As := [.int x1]) (rest := []) (wr := [(h_t, .inr (0, [v_t_words, .int t_cells, v_t_tape, v_t_reader, .ref h_t_faults, v_t_single, v_t_tester, v_t_plan, v_t_march, v_t_draft])), (h_t_faults, .inr (3, [.ref h_t_faults_kinds, .ref h_t_faults_victimWords, .ref h_t_faults_victimMasks, .ref h_t_faults_otherWords, .ref h_t_faults_otherMasks, .int t_faults_count, .int t_faults_touchedWords, .int t_faults_bits])), (h_t_faults_kinds, .inl (cI, n_t_faults_kinds, .inl t_faults_kinds_a)), (h_t_faults_victimWords, .inl (cI, n_t_faults_victimWords, .inl t_faults_victimWords_a)), (h_t_faults_victimMasks, .inl (cI, n_t_faults_victimMasks, .inl t_faults_victimMasks_a)), (h_t_faults_otherWords, .inl (cI, n_t_faults_otherWords, .inl t_faults_otherWords_a)), (h_t_faults_otherMasks, .inl (cI, n_t_faults_otherMasks, .inl t_faults_otherMasks_a))]) hx hb hml hown hts hK (c_MT_isPaired (l := l) (D := D) (cI := cI) (cB := cB) (cJ := cJ) (a1 := x1) (sz := H.size) (res := q86_4) (hf := hc)) w_193 w_186 w_187 w_188 (by decide +kernel) rfl rfl ⟨Nat.le_of_ble_eq_true rfl, Nat.le_of_ble_eq_true rfl⟩ hP hD hS hA [] [0, 1, 2, 3, 4, 5, 6] rfl rfl (by decide) (by decide) (by decide) hl.1 rfl rfl (lv_room (Nat.le_of_ble_eq_true rfl)) d_MT_fault_86 ⟨Nat.le_of_ble_eq_true rfl, Nat.le_of_ble_eq_true rfl⟩ (fun o ws' H locs hp hP hD hS => ?_)
      obtain ⟨rfl, rfl⟩ := hp
      have hP : va_P D classes [(h_t, .inr (0, [v_t_words, .int t_cells, v_t_tape, v_t_reader, .ref h_t_faults, v_t_single, v_t_tester, v_t_plan, v_t_march, v_t_draft])), (h_t_faults, .inr (3, [.ref h_t_faults_kinds, .ref h_t_faults_victimWords, .ref h_t_faults_victimMasks, .ref h_t_faults_otherWords, .ref h_t_faults_otherMasks, .int t_faults_count, .int t_faults_touchedWords, .int t_faults_bits])), (h_t_faults_kinds, .inl (cI, n_t_faults_kinds, .inl t_faults_kinds_a)), (h_t_faults_victimWords, .inl (cI, n_t_faults_victimWords, .inl t_faults_victimWords_a)), (h_t_faults_victimMasks, .inl (cI, n_t_faults_victimMasks, .inl t_faults_victimMasks_a)), (h_t_faults_otherWords, .inl (cI, n_t_faults_otherWords, .inl t_faults_otherWords_a)), (h_t_faults_otherMasks, .inl (cI, n_t_faults_otherMasks, .inl t_faults_otherMasks_a))] H := hP.sub [0, 1, 2, 3, 4, 5, 6] rfl
      have hD : va_D A [(h_t, .inr (0, [v_t_words, .int t_cells, v_t_tape, v_t_reader, .ref h_t_faults, v_t_single, v_t_tester, v_t_plan, v_t_march, v_t_draft])), (h_t_faults, .inr (3, [.ref h_t_faults_kinds, .ref h_t_faults_victimWords, .ref h_t_faults_victimMasks, .ref h_t_faults_otherWords, .ref h_t_faults_otherMasks, .int t_faults_count, .int t_faults_touchedWords, .int t_faults_bits])), (h_t_faults_kinds, .inl (cI, n_t_faults_kinds, .inl t_faults_kinds_a)), (h_t_faults_victimWords, .inl (cI, n_t_faults_victimWords, .inl t_faults_victimWords_a)), (h_t_faults_victimMasks, .inl (cI, n_t_faults_victimMasks, .inl t_faults_victimMasks_a)), (h_t_faults_otherWords, .inl (cI, n_t_faults_otherWords, .inl t_faults_otherWords_a)), (h_t_faults_otherMasks, .inl (cI, n_t_faults_otherMasks, .inl t_faults_otherMasks_a))] := hD.sub [0, 1, 2, 3, 4, 5, 6] (by decide) rfl
      refine lv_if_eq (tgt := 107) hx hb d_MT_fault_89 (by decide) (fun cc89 => ?_) (fun cc89 => ?_)
      · have hf := ifT cc89 hf
        refine lv_aload_n hx hb d_MT_fault_107 rfl (lv_at hl 0 rfl) ?_
        refine va_get (D := D) (ci := 0) (v := .ref h_t_faults) (C := R_MT) (T := F_MT) (N := 10) hx hb hts i_MT hown hK.1 hP 0 rfl rfl 4 (by decide) (hts _ w_89) (fun _ h9 => h9) rfl d_MT_fault_108 ?_
        refine lv_iload_n hx hb d_MT_fault_111 rfl (lv_at hl 1 rfl) ?_
        refine lv_iload_n hx hb d_MT_fault_112 rfl (lv_at hl 2 rfl) ?_
        refine lv_iload_n hx hb d_MT_fault_113 rfl (lv_at hl 3 rfl) ?_
        obtain ⟨q114_5, hc, hf⟩ := bindS hf
        refine mcV (n := 3) (As := [.int x1, .int x2, .int x3]) (rest := []) (wr := [(h_t, .inr (0, [v_t_words, .int t_cells, v_t_tape, v_t_reader, .ref h_t_faults, v_t_single, v_t_tester, v_t_plan, v_t_march, v_t_draft]))]) hx hb hml hown hts hK (c_FaultList_add (l := l) (D := D) (cI := cI) (cB := cB) (cJ := cJ) (h_t := h_t_faults) (h_t_kinds := h_t_faults_kinds) (h_t_victimWords := h_t_faults_victimWords) (h_t_victimMasks := h_t_faults_victimMasks) (h_t_otherWords := h_t_faults_otherWords) (h_t_otherMasks := h_t_faults_otherMasks) (n_t_kinds := n_t_faults_kinds) (n_t_victimWords := n_t_faults_victimWords) (n_t_victimMasks := n_t_faults_victimMasks) (n_t_otherWords := n_t_faults_otherWords) (n_t_otherMasks := n_t_faults_otherMasks) (t_count := t_faults_count) (t_touchedWords := t_faults_touchedWords) (t_bits := t_faults_bits) (t_kinds_a := t_faults_kinds_a) (t_victimWords_a := t_faults_victimWords_a) (t_victimMasks_a := t_faults_victimMasks_a) (t_otherWords_a := t_faults_otherWords_a) (t_otherMasks_a := t_faults_otherMasks_a) (a1 := x1) (a2 := x2) (a3 := x3) (sz := H.size) (res := q114_5) (hf := hc)) w_198 w_199 w_200 w_28 w_201 (by decide +kernel) rfl rfl ⟨Nat.le_of_ble_eq_true rfl, Nat.le_of_ble_eq_true rfl⟩ hP hD hS hA [1, 2, 3, 4, 5, 6] [0] rfl rfl (by decide) (by decide) (by decide) (ci := 3) 0 rfl rfl hl.1 rfl rfl (lv_room (Nat.le_of_ble_eq_true rfl)) d_MT_fault_114 ⟨Nat.le_of_ble_eq_true rfl, Nat.le_of_ble_eq_true rfl⟩ (fun o ws' H locs hp hP hD hS => ?_)
        obtain ⟨rfl, rfl⟩ := hp
        have hP : va_P D classes [(h_t, .inr (0, [v_t_words, .int t_cells, v_t_tape, v_t_reader, .ref h_t_faults, v_t_single, v_t_tester, v_t_plan, v_t_march, v_t_draft])), (h_t_faults, .inr (3, [.ref h_t_faults_kinds, .ref h_t_faults_victimWords, .ref h_t_faults_victimMasks, .ref h_t_faults_otherWords, .ref h_t_faults_otherMasks, .int q114_5.1, .int q114_5.2.1, .int t_faults_bits])), (h_t_faults_kinds, .inl (cI, n_t_faults_kinds, .inl q114_5.2.2.1)), (h_t_faults_victimWords, .inl (cI, n_t_faults_victimWords, .inl q114_5.2.2.2.1)), (h_t_faults_victimMasks, .inl (cI, n_t_faults_victimMasks, .inl q114_5.2.2.2.2.1)), (h_t_faults_otherWords, .inl (cI, n_t_faults_otherWords, .inl q114_5.2.2.2.2.2.1)), (h_t_faults_otherMasks, .inl (cI, n_t_faults_otherMasks, .inl q114_5.2.2.2.2.2.2))] H := hP.sub [0, 1, 2, 3, 4, 5, 6] rfl
        have hD : va_D A [(h_t, .inr (0, [v_t_words, .int t_cells, v_t_tape, v_t_reader, .ref h_t_faults, v_t_single, v_t_tester, v_t_plan, v_t_march, v_t_draft])), (h_t_faults, .inr (3, [.ref h_t_faults_kinds, .ref h_t_faults_victimWords, .ref h_t_faults_victimMasks, .ref h_t_faults_otherWords, .ref h_t_faults_otherMasks, .int q114_5.1, .int q114_5.2.1, .int t_faults_bits])), (h_t_faults_kinds, .inl (cI, n_t_faults_kinds, .inl q114_5.2.2.1)), (h_t_faults_victimWords, .inl (cI, n_t_faults_victimWords, .inl q114_5.2.2.2.1)), (h_t_faults_victimMasks, .inl (cI, n_t_faults_victimMasks, .inl q114_5.2.2.2.2.1)), (h_t_faults_otherWords, .inl (cI, n_t_faults_otherWords, .inl q114_5.2.2.2.2.2.1)), (h_t_faults_otherMasks, .inl (cI, n_t_faults_otherMasks, .inl q114_5.2.2.2.2.2.2))] := hD.sub [0, 1, 2, 3, 4, 5, 6] (by decide) rfl
        refine lv_aload_n hx hb d_MT_fault_117 rfl (lv_at hl 0 rfl) ?_
        refine va_get (D := D) (ci := 0) (v := .ref h_t_faults) (C := R_MT) (T := F_MT) (N := 10) hx hb hts i_MT hown hK.1 hP 0 rfl rfl 4 (by decide) (hts _ w_89) (fun _ h9 => h9) rfl d_MT_fault_118 ?_
        refine va_get (D := D) (ci := 3) (v := .int q114_5.1) (C := R_FaultList) (T := F_FaultList) (N := 8) hx hb hts i_FaultList hown hK.1 hP 1 rfl rfl 5 (by decide) (hts _ w_194) (fun _ h9 => h9) rfl d_MT_fault_121 ?_
        obtain rfl := Sum.inl.inj (Option.some.inj hf)
        exact ret_i hx hb hr hlocks hP hD hS ⟨rfl, rfl⟩ d_MT_fault_124
      · have hf := ifF cc89 hf
        refine lv_iload_n hx hb d_MT_fault_92 rfl (lv_at hl 2 rfl) ?_
        refine lv_iload_n hx hb d_MT_fault_93 rfl (lv_at hl 3 rfl) ?_
        refine lv_icmp_ne (tgt := 107) hx hb d_MT_fault_94 (by decide) (fun cc94 => ?_) (fun cc94 => ?_)
        · have hf := ifF cc94 hf
          refine lv_aload_n hx hb d_MT_fault_107 rfl (lv_at hl 0 rfl) ?_
          refine va_get (D := D) (ci := 0) (v := .ref h_t_faults) (C := R_MT) (T := F_MT) (N := 10) hx hb hts i_MT hown hK.1 hP 0 rfl rfl 4 (by decide) (hts _ w_89) (fun _ h9 => h9) rfl d_MT_fault_108 ?_
          refine lv_iload_n hx hb d_MT_fault_111 rfl (lv_at hl 1 rfl) ?_
          refine lv_iload_n hx hb d_MT_fault_112 rfl (lv_at hl 2 rfl) ?_
          refine lv_iload_n hx hb d_MT_fault_113 rfl (lv_at hl 3 rfl) ?_
          obtain ⟨q114_6, hc, hf⟩ := bindS hf
          refine mcV (n := 3) (As := [.int x1, .int x2, .int x3]) (rest := []) (wr := [(h_t, .inr (0, [v_t_words, .int t_cells, v_t_tape, v_t_reader, .ref h_t_faults, v_t_single, v_t_tester, v_t_plan, v_t_march, v_t_draft]))]) hx hb hml hown hts hK (c_FaultList_add (l := l) (D := D) (cI := cI) (cB := cB) (cJ := cJ) (h_t := h_t_faults) (h_t_kinds := h_t_faults_kinds) (h_t_victimWords := h_t_faults_victimWords) (h_t_victimMasks := h_t_faults_victimMasks) (h_t_otherWords := h_t_faults_otherWords) (h_t_otherMasks := h_t_faults_otherMasks) (n_t_kinds := n_t_faults_kinds) (n_t_victimWords := n_t_faults_victimWords) (n_t_victimMasks := n_t_faults_victimMasks) (n_t_otherWords := n_t_faults_otherWords) (n_t_otherMasks := n_t_faults_otherMasks) (t_count := t_faults_count) (t_touchedWords := t_faults_touchedWords) (t_bits := t_faults_bits) (t_kinds_a := t_faults_kinds_a) (t_victimWords_a := t_faults_victimWords_a) (t_victimMasks_a := t_faults_victimMasks_a) (t_otherWords_a := t_faults_otherWords_a) (t_otherMasks_a := t_faults_otherMasks_a) (a1 := x1) (a2 := x2) (a3 := x3) (sz := H.size) (res := q114_6) (hf := hc)) w_198 w_199 w_200 w_28 w_201 (by decide +kernel) rfl rfl ⟨Nat.le_of_ble_eq_true rfl, Nat.le_of_ble_eq_true rfl⟩ hP hD hS hA [1, 2, 3, 4, 5, 6] [0] rfl rfl (by decide) (by decide) (by decide) (ci := 3) 0 rfl rfl hl.1 rfl rfl (lv_room (Nat.le_of_ble_eq_true rfl)) d_MT_fault_114 ⟨Nat.le_of_ble_eq_true rfl, Nat.le_of_ble_eq_true rfl⟩ (fun o ws' H locs hp hP hD hS => ?_)
          obtain ⟨rfl, rfl⟩ := hp
          have hP : va_P D classes [(h_t, .inr (0, [v_t_words, .int t_cells, v_t_tape, v_t_reader, .ref h_t_faults, v_t_single, v_t_tester, v_t_plan, v_t_march, v_t_draft])), (h_t_faults, .inr (3, [.ref h_t_faults_kinds, .ref h_t_faults_victimWords, .ref h_t_faults_victimMasks, .ref h_t_faults_otherWords, .ref h_t_faults_otherMasks, .int q114_6.1, .int q114_6.2.1, .int t_faults_bits])), (h_t_faults_kinds, .inl (cI, n_t_faults_kinds, .inl q114_6.2.2.1)), (h_t_faults_victimWords, .inl (cI, n_t_faults_victimWords, .inl q114_6.2.2.2.1)), (h_t_faults_victimMasks, .inl (cI, n_t_faults_victimMasks, .inl q114_6.2.2.2.2.1)), (h_t_faults_otherWords, .inl (cI, n_t_faults_otherWords, .inl q114_6.2.2.2.2.2.1)), (h_t_faults_otherMasks, .inl (cI, n_t_faults_otherMasks, .inl q114_6.2.2.2.2.2.2))] H := hP.sub [0, 1, 2, 3, 4, 5, 6] rfl
          have hD : va_D A [(h_t, .inr (0, [v_t_words, .int t_cells, v_t_tape, v_t_reader, .ref h_t_faults, v_t_single, v_t_tester, v_t_plan, v_t_march, v_t_draft])), (h_t_faults, .inr (3, [.ref h_t_faults_kinds, .ref h_t_faults_victimWords, .ref h_t_faults_victimMasks, .ref h_t_faults_otherWords, .ref h_t_faults_otherMasks, .int q114_6.1, .int q114_6.2.1, .int t_faults_bits])), (h_t_faults_kinds, .inl (cI, n_t_faults_kinds, .inl q114_6.2.2.1)), (h_t_faults_victimWords, .inl (cI, n_t_faults_victimWords, .inl q114_6.2.2.2.1)), (h_t_faults_victimMasks, .inl (cI, n_t_faults_victimMasks, .inl q114_6.2.2.2.2.1)), (h_t_faults_otherWords, .inl (cI, n_t_faults_otherWords, .inl q114_6.2.2.2.2.2.1)), (h_t_faults_otherMasks, .inl (cI, n_t_faults_otherMasks, .inl q114_6.2.2.2.2.2.2))] := hD.sub [0, 1, 2, 3, 4, 5, 6] (by decide) rfl
          refine lv_aload_n hx hb d_MT_fault_117 rfl (lv_at hl 0 rfl) ?_
          refine va_get (D := D) (ci := 0) (v := .ref h_t_faults) (C := R_MT) (T := F_MT) (N := 10) hx hb hts i_MT hown hK.1 hP 0 rfl rfl 4 (by decide) (hts _ w_89) (fun _ h9 => h9) rfl d_MT_fault_118 ?_
          refine va_get (D := D) (ci := 3) (v := .int q114_6.1) (C := R_FaultList) (T := F_FaultList) (N := 8) hx hb hts i_FaultList hown hK.1 hP 1 rfl rfl 5 (by decide) (hts _ w_194) (fun _ h9 => h9) rfl d_MT_fault_121 ?_
          obtain rfl := Sum.inl.inj (Option.some.inj hf)
          exact ret_i hx hb hr hlocks hP hD hS ⟨rfl, rfl⟩ d_MT_fault_124
        · have hf := ifT cc94 hf
          exact absurd hf (by simp)
    · have hf := ifT cc72 hf
      exact absurd hf (by simp)
  · have hf := ifF cc55 hf
    exact absurd hf (by simp)
set_option maxHeartbeats 4000000 in
set_option maxRecDepth 100000 in
theorem c_MT_fault (l : Launch) (D : va_G) (cI cB cJ : ClassId) (h_t h_t_faults h_t_faults_kinds h_t_faults_victimWords h_t_faults_victimMasks h_t_faults_otherWords h_t_faults_otherMasks : Nat) (v_t_words v_t_tape v_t_reader v_t_single v_t_tester v_t_plan v_t_march v_t_draft : Value) (n_t_faults_kinds : Nat) (n_t_faults_victimWords : Nat) (n_t_faults_victimMasks : Nat) (n_t_faults_otherWords : Nat) (n_t_faults_otherMasks : Nat) (t_cells : Int32) (t_faults_count : Int32) (t_faults_touchedWords : Int32) (t_faults_bits : Int32) (t_faults_kinds_a : Nat → Int32) (t_faults_victimWords_a : Nat → Int32) (t_faults_victimMasks_a : Nat → Int32) (t_faults_otherWords_a : Nat → Int32) (t_faults_otherMasks_a : Nat → Int32) (a1 : Int32) (a2 : Int32) (a3 : Int32) (sz : Nat) (res : Int32 × Int32 × Int32 × (Nat → Int32) × (Nat → Int32) × (Nat → Int32) × (Nat → Int32) × (Nat → Int32)) (hf : f_MT_fault n_t_faults_kinds n_t_faults_victimWords n_t_faults_victimMasks n_t_faults_otherWords n_t_faults_otherMasks t_cells t_faults_count t_faults_touchedWords t_faults_bits t_faults_kinds_a t_faults_victimWords_a t_faults_victimMasks_a t_faults_otherWords_a t_faults_otherMasks_a a1 a2 a3 = some (Sum.inl res)) : Met l y_MT_fault (.code y_MT_fault b_MT_fault 4 (some .int) :: TB) rm_MT_fault (PcW D [(cI, .int), (cB, .byte), (cJ, .long)] [.ref h_t, .int a1, .int a2, .int a3] [(h_t, .inr (0, [v_t_words, .int t_cells, v_t_tape, v_t_reader, .ref h_t_faults, v_t_single, v_t_tester, v_t_plan, v_t_march, v_t_draft])), (h_t_faults, .inr (3, [.ref h_t_faults_kinds, .ref h_t_faults_victimWords, .ref h_t_faults_victimMasks, .ref h_t_faults_otherWords, .ref h_t_faults_otherMasks, .int t_faults_count, .int t_faults_touchedWords, .int t_faults_bits])), (h_t_faults_kinds, .inl (cI, n_t_faults_kinds, .inl t_faults_kinds_a)), (h_t_faults_victimWords, .inl (cI, n_t_faults_victimWords, .inl t_faults_victimWords_a)), (h_t_faults_victimMasks, .inl (cI, n_t_faults_victimMasks, .inl t_faults_victimMasks_a)), (h_t_faults_otherWords, .inl (cI, n_t_faults_otherWords, .inl t_faults_otherWords_a)), (h_t_faults_otherMasks, .inl (cI, n_t_faults_otherMasks, .inl t_faults_otherMasks_a))] sz) (QW D (post_MT_fault h_t h_t_faults h_t_faults_kinds h_t_faults_victimWords h_t_faults_victimMasks h_t_faults_otherWords h_t_faults_otherMasks v_t_words v_t_tape v_t_reader v_t_single v_t_tester v_t_plan v_t_march v_t_draft n_t_faults_kinds n_t_faults_victimWords n_t_faults_victimMasks n_t_faults_otherWords n_t_faults_otherMasks t_cells t_faults_bits cI cB cJ res) (va_A [(h_t, .inr (0, [v_t_words, .int t_cells, v_t_tape, v_t_reader, .ref h_t_faults, v_t_single, v_t_tester, v_t_plan, v_t_march, v_t_draft])), (h_t_faults, .inr (3, [.ref h_t_faults_kinds, .ref h_t_faults_victimWords, .ref h_t_faults_victimMasks, .ref h_t_faults_otherWords, .ref h_t_faults_otherMasks, .int t_faults_count, .int t_faults_touchedWords, .int t_faults_bits])), (h_t_faults_kinds, .inl (cI, n_t_faults_kinds, .inl t_faults_kinds_a)), (h_t_faults_victimWords, .inl (cI, n_t_faults_victimWords, .inl t_faults_victimWords_a)), (h_t_faults_victimMasks, .inl (cI, n_t_faults_victimMasks, .inl t_faults_victimMasks_a)), (h_t_faults_otherWords, .inl (cI, n_t_faults_otherWords, .inl t_faults_otherWords_a)), (h_t_faults_otherMasks, .inl (cI, n_t_faults_otherMasks, .inl t_faults_otherMasks_a))] sz)) 0 0 (va_A [(h_t, .inr (0, [v_t_words, .int t_cells, v_t_tape, v_t_reader, .ref h_t_faults, v_t_single, v_t_tester, v_t_plan, v_t_march, v_t_draft])), (h_t_faults, .inr (3, [.ref h_t_faults_kinds, .ref h_t_faults_victimWords, .ref h_t_faults_victimMasks, .ref h_t_faults_otherWords, .ref h_t_faults_otherMasks, .int t_faults_count, .int t_faults_touchedWords, .int t_faults_bits])), (h_t_faults_kinds, .inl (cI, n_t_faults_kinds, .inl t_faults_kinds_a)), (h_t_faults_victimWords, .inl (cI, n_t_faults_victimWords, .inl t_faults_victimWords_a)), (h_t_faults_victimMasks, .inl (cI, n_t_faults_victimMasks, .inl t_faults_victimMasks_a)), (h_t_faults_otherWords, .inl (cI, n_t_faults_otherWords, .inl t_faults_otherWords_a)), (h_t_faults_otherMasks, .inl (cI, n_t_faults_otherMasks, .inl t_faults_otherMasks_a))] sz) := by
  refine entW ⟨by decide +kernel, rfl⟩ fun p e s m below meth c C0 hP hD hsz ls hl => ?_
  subst hsz
  generalize hAe : va_A [(h_t, .inr (0, [v_t_words, .int t_cells, v_t_tape, v_t_reader, .ref h_t_faults, v_t_single, v_t_tester, v_t_plan, v_t_march, v_t_draft])), (h_t_faults, .inr (3, [.ref h_t_faults_kinds, .ref h_t_faults_victimWords, .ref h_t_faults_victimMasks, .ref h_t_faults_otherWords, .ref h_t_faults_otherMasks, .int t_faults_count, .int t_faults_touchedWords, .int t_faults_bits])), (h_t_faults_kinds, .inl (cI, n_t_faults_kinds, .inl t_faults_kinds_a)), (h_t_faults_victimWords, .inl (cI, n_t_faults_victimWords, .inl t_faults_victimWords_a)), (h_t_faults_victimMasks, .inl (cI, n_t_faults_victimMasks, .inl t_faults_victimMasks_a)), (h_t_faults_otherWords, .inl (cI, n_t_faults_otherWords, .inl t_faults_otherWords_a)), (h_t_faults_otherMasks, .inl (cI, n_t_faults_otherMasks, .inl t_faults_otherMasks_a))] s.heap.size = A at hD ⊢
  have hA : ∀ q : Nat, s.heap.size ≤ q → A q := fun q h => by rw [← hAe]; exact Or.inr h
  clear hAe
  have hS : va_S A s.heap s.heap [] := va_S.rf
  have hl : lv_has ls 4 [(0, .ref h_t), (1, .int a1), (2, .int a2), (3, .int a3)] := hl
  obtain ⟨hx, hb, hml, hr, hlocks, hts, hown, hK, hin⟩ := id C0
  have hf : (((
  (if a1 = (-1) then
    (Option.bind f_FaultList_clear fun q9_8 =>
    some (Sum.inl (0, q9_8.1, q9_8.2, t_faults_kinds_a, t_faults_victimWords_a, t_faults_victimMasks_a, t_faults_otherWords_a, t_faults_otherMasks_a)))
  else
    (Option.bind (f_MT_isCell t_cells a2) fun q16_1 =>
    (if q16_1 = 0 then
      some (Sum.inr 0)
    else
      (Option.bind (f_MT_isPaired a1) fun q23_2 =>
      (if q23_2 = 0 then
        (f_MT_fault_47 n_t_faults_kinds n_t_faults_victimWords n_t_faults_victimMasks n_t_faults_otherWords n_t_faults_otherMasks t_faults_count t_faults_touchedWords t_faults_bits t_faults_kinds_a t_faults_victimWords_a t_faults_victimMasks_a t_faults_otherWords_a t_faults_otherMasks_a a1 a2 a3)
      else
        (Option.bind (f_MT_isCell t_cells a3) fun q31_7 =>
        (if q31_7 = 0 then
          some (Sum.inr 0)
        else
          (f_MT_fault_47 n_t_faults_kinds n_t_faults_victimWords n_t_faults_victimMasks n_t_faults_otherWords n_t_faults_otherMasks t_faults_count t_faults_touchedWords t_faults_bits t_faults_kinds_a t_faults_victimWords_a t_faults_victimMasks_a t_faults_otherWords_a t_faults_otherMasks_a a1 a2 a3)))))))))) : Option ((Int32 × Int32 × Int32 × (Nat → Int32) × (Nat → Int32) × (Nat → Int32) × (Nat → Int32) × (Nat → Int32)) ⊕ Nat)) = some (Sum.inl res) := hf
  obtain ⟨H, hH⟩ : ∃ H, H = s.heap := ⟨_, rfl⟩
  obtain ⟨locs, hlo⟩ : ∃ x : List Loc, x = [] := ⟨_, rfl⟩
  rw [← hlo] at hS ⊢
  have hP : va_P D classes [(h_t, .inr (0, [v_t_words, .int t_cells, v_t_tape, v_t_reader, .ref h_t_faults, v_t_single, v_t_tester, v_t_plan, v_t_march, v_t_draft])), (h_t_faults, .inr (3, [.ref h_t_faults_kinds, .ref h_t_faults_victimWords, .ref h_t_faults_victimMasks, .ref h_t_faults_otherWords, .ref h_t_faults_otherMasks, .int t_faults_count, .int t_faults_touchedWords, .int t_faults_bits])), (h_t_faults_kinds, .inl (cI, n_t_faults_kinds, .inl t_faults_kinds_a)), (h_t_faults_victimWords, .inl (cI, n_t_faults_victimWords, .inl t_faults_victimWords_a)), (h_t_faults_victimMasks, .inl (cI, n_t_faults_victimMasks, .inl t_faults_victimMasks_a)), (h_t_faults_otherWords, .inl (cI, n_t_faults_otherWords, .inl t_faults_otherWords_a)), (h_t_faults_otherMasks, .inl (cI, n_t_faults_otherMasks, .inl t_faults_otherMasks_a))] H := by rw [hH]; exact hP
  have hS : va_S A s.heap H locs := by rw [hH]; exact hS
  show W p l e rm_MT_fault s m _ below meth c s.heap locs 0 0 (MQ below (QW D (post_MT_fault h_t h_t_faults h_t_faults_kinds h_t_faults_victimWords h_t_faults_victimMasks h_t_faults_otherWords h_t_faults_otherMasks v_t_words v_t_tape v_t_reader v_t_single v_t_tester v_t_plan v_t_march v_t_draft n_t_faults_kinds n_t_faults_victimWords n_t_faults_victimMasks n_t_faults_otherWords n_t_faults_otherMasks t_cells t_faults_bits cI cB cJ res) A) _ s 0 0 A) (F0 m 0 ls [])
  refine wheap hH ?_
  clear hH hlo
  refine lv_iload_n hx hb d_MT_fault_0 rfl (lv_at hl 1 rfl) ?_
  refine lv_iconst (v := (-1)) hx hb d_MT_fault_1 (by decide) ?_
  refine lv_icmp_ne (tgt := 14) hx hb d_MT_fault_2 (by decide) (fun cc2 => ?_) (fun cc2 => ?_)
  · have hf := ifF cc2 hf
    refine lv_aload_n hx hb d_MT_fault_14 rfl (lv_at hl 0 rfl) ?_
    refine lv_iload_n hx hb d_MT_fault_15 rfl (lv_at hl 2 rfl) ?_
    obtain ⟨q16_1, hc, hf⟩ := bindS hf
    refine mcV (n := 1) (As := [.int a2]) (rest := []) (wr := [(h_t_faults, .inr (3, [.ref h_t_faults_kinds, .ref h_t_faults_victimWords, .ref h_t_faults_victimMasks, .ref h_t_faults_otherWords, .ref h_t_faults_otherMasks, .int t_faults_count, .int t_faults_touchedWords, .int t_faults_bits])), (h_t_faults_kinds, .inl (cI, n_t_faults_kinds, .inl t_faults_kinds_a)), (h_t_faults_victimWords, .inl (cI, n_t_faults_victimWords, .inl t_faults_victimWords_a)), (h_t_faults_victimMasks, .inl (cI, n_t_faults_victimMasks, .inl t_faults_victimMasks_a)), (h_t_faults_otherWords, .inl (cI, n_t_faults_otherWords, .inl t_faults_otherWords_a)), (h_t_faults_otherMasks, .inl (cI, n_t_faults_otherMasks, .inl t_faults_otherMasks_a))]) hx hb hml hown hts hK (c_MT_isCell (l := l) (D := D) (cI := cI) (cB := cB) (cJ := cJ) (h_t := h_t) (v_t_words := v_t_words) (v_t_tape := v_t_tape) (v_t_reader := v_t_reader) (v_t_faults := (.ref h_t_faults)) (v_t_single := v_t_single) (v_t_tester := v_t_tester) (v_t_plan := v_t_plan) (v_t_march := v_t_march) (v_t_draft := v_t_draft) (t_cells := t_cells) (a1 := a2) (sz := H.size) (res := q16_1) (hf := hc)) w_189 w_190 w_191 w_187 w_192 (by decide +kernel) rfl rfl ⟨Nat.le_of_ble_eq_true rfl, Nat.le_of_ble_eq_true rfl⟩ hP hD hS hA [0] [1, 2, 3, 4, 5, 6] rfl rfl (by decide) (by decide) (by decide) (ci := 0) 0 rfl rfl hl.1 rfl rfl (lv_room (Nat.le_of_ble_eq_true rfl)) d_MT_fault_16 ⟨Nat.le_of_ble_eq_true rfl, Nat.le_of_ble_eq_true rfl⟩ (fun o ws' H locs hp hP hD hS => ?_)
    obtain ⟨rfl, rfl⟩ := hp
    have hP : va_P D classes [(h_t, .inr (0, [v_t_words, .int t_cells, v_t_tape, v_t_reader, .ref h_t_faults, v_t_single, v_t_tester, v_t_plan, v_t_march, v_t_draft])), (h_t_faults, .inr (3, [.ref h_t_faults_kinds, .ref h_t_faults_victimWords, .ref h_t_faults_victimMasks, .ref h_t_faults_otherWords, .ref h_t_faults_otherMasks, .int t_faults_count, .int t_faults_touchedWords, .int t_faults_bits])), (h_t_faults_kinds, .inl (cI, n_t_faults_kinds, .inl t_faults_kinds_a)), (h_t_faults_victimWords, .inl (cI, n_t_faults_victimWords, .inl t_faults_victimWords_a)), (h_t_faults_victimMasks, .inl (cI, n_t_faults_victimMasks, .inl t_faults_victimMasks_a)), (h_t_faults_otherWords, .inl (cI, n_t_faults_otherWords, .inl t_faults_otherWords_a)), (h_t_faults_otherMasks, .inl (cI, n_t_faults_otherMasks, .inl t_faults_otherMasks_a))] H := hP.sub [6, 0, 1, 2, 3, 4, 5] rfl
    have hD : va_D A [(h_t, .inr (0, [v_t_words, .int t_cells, v_t_tape, v_t_reader, .ref h_t_faults, v_t_single, v_t_tester, v_t_plan, v_t_march, v_t_draft])), (h_t_faults, .inr (3, [.ref h_t_faults_kinds, .ref h_t_faults_victimWords, .ref h_t_faults_victimMasks, .ref h_t_faults_otherWords, .ref h_t_faults_otherMasks, .int t_faults_count, .int t_faults_touchedWords, .int t_faults_bits])), (h_t_faults_kinds, .inl (cI, n_t_faults_kinds, .inl t_faults_kinds_a)), (h_t_faults_victimWords, .inl (cI, n_t_faults_victimWords, .inl t_faults_victimWords_a)), (h_t_faults_victimMasks, .inl (cI, n_t_faults_victimMasks, .inl t_faults_victimMasks_a)), (h_t_faults_otherWords, .inl (cI, n_t_faults_otherWords, .inl t_faults_otherWords_a)), (h_t_faults_otherMasks, .inl (cI, n_t_faults_otherMasks, .inl t_faults_otherMasks_a))] := hD.sub [6, 0, 1, 2, 3, 4, 5] (by decide) rfl
    refine lv_if_eq (tgt := 37) hx hb d_MT_fault_19 (by decide) (fun cc19 => ?_) (fun cc19 => ?_)
    · have hf := ifT cc19 hf
      exact absurd hf (by simp)
    · have hf := ifF cc19 hf
      refine lv_iload_n hx hb d_MT_fault_22 rfl (lv_at hl 1 rfl) ?_
      obtain ⟨q23_2, hc, hf⟩ := bindS hf
      refine mcS (n := 1) (As := [.int a1]) (rest := []) (wr := [(h_t, .inr (0, [v_t_words, .int t_cells, v_t_tape, v_t_reader, .ref h_t_faults, v_t_single, v_t_tester, v_t_plan, v_t_march, v_t_draft])), (h_t_faults, .inr (3, [.ref h_t_faults_kinds, .ref h_t_faults_victimWords, .ref h_t_faults_victimMasks, .ref h_t_faults_otherWords, .ref h_t_faults_otherMasks, .int t_faults_count, .int t_faults_touchedWords, .int t_faults_bits])), (h_t_faults_kinds, .inl (cI, n_t_faults_kinds, .inl t_faults_kinds_a)), (h_t_faults_victimWords, .inl (cI, n_t_faults_victimWords, .inl t_faults_victimWords_a)), (h_t_faults_victimMasks, .inl (cI, n_t_faults_victimMasks, .inl t_faults_victimMasks_a)), (h_t_faults_otherWords, .inl (cI, n_t_faults_otherWords, .inl t_faults_otherWords_a)), (h_t_faults_otherMasks, .inl (cI, n_t_faults_otherMasks, .inl t_faults_otherMasks_a))]) hx hb hml hown hts hK (c_MT_isPaired (l := l) (D := D) (cI := cI) (cB := cB) (cJ := cJ) (a1 := a1) (sz := H.size) (res := q23_2) (hf := hc)) w_193 w_186 w_187 w_188 (by decide +kernel) rfl rfl ⟨Nat.le_of_ble_eq_true rfl, Nat.le_of_ble_eq_true rfl⟩ hP hD hS hA [] [0, 1, 2, 3, 4, 5, 6] rfl rfl (by decide) (by decide) (by decide) hl.1 rfl rfl (lv_room (Nat.le_of_ble_eq_true rfl)) d_MT_fault_23 ⟨Nat.le_of_ble_eq_true rfl, Nat.le_of_ble_eq_true rfl⟩ (fun o ws' H locs hp hP hD hS => ?_)
      obtain ⟨rfl, rfl⟩ := hp
      have hP : va_P D classes [(h_t, .inr (0, [v_t_words, .int t_cells, v_t_tape, v_t_reader, .ref h_t_faults, v_t_single, v_t_tester, v_t_plan, v_t_march, v_t_draft])), (h_t_faults, .inr (3, [.ref h_t_faults_kinds, .ref h_t_faults_victimWords, .ref h_t_faults_victimMasks, .ref h_t_faults_otherWords, .ref h_t_faults_otherMasks, .int t_faults_count, .int t_faults_touchedWords, .int t_faults_bits])), (h_t_faults_kinds, .inl (cI, n_t_faults_kinds, .inl t_faults_kinds_a)), (h_t_faults_victimWords, .inl (cI, n_t_faults_victimWords, .inl t_faults_victimWords_a)), (h_t_faults_victimMasks, .inl (cI, n_t_faults_victimMasks, .inl t_faults_victimMasks_a)), (h_t_faults_otherWords, .inl (cI, n_t_faults_otherWords, .inl t_faults_otherWords_a)), (h_t_faults_otherMasks, .inl (cI, n_t_faults_otherMasks, .inl t_faults_otherMasks_a))] H := hP.sub [0, 1, 2, 3, 4, 5, 6] rfl
      have hD : va_D A [(h_t, .inr (0, [v_t_words, .int t_cells, v_t_tape, v_t_reader, .ref h_t_faults, v_t_single, v_t_tester, v_t_plan, v_t_march, v_t_draft])), (h_t_faults, .inr (3, [.ref h_t_faults_kinds, .ref h_t_faults_victimWords, .ref h_t_faults_victimMasks, .ref h_t_faults_otherWords, .ref h_t_faults_otherMasks, .int t_faults_count, .int t_faults_touchedWords, .int t_faults_bits])), (h_t_faults_kinds, .inl (cI, n_t_faults_kinds, .inl t_faults_kinds_a)), (h_t_faults_victimWords, .inl (cI, n_t_faults_victimWords, .inl t_faults_victimWords_a)), (h_t_faults_victimMasks, .inl (cI, n_t_faults_victimMasks, .inl t_faults_victimMasks_a)), (h_t_faults_otherWords, .inl (cI, n_t_faults_otherWords, .inl t_faults_otherWords_a)), (h_t_faults_otherMasks, .inl (cI, n_t_faults_otherMasks, .inl t_faults_otherMasks_a))] := hD.sub [0, 1, 2, 3, 4, 5, 6] (by decide) rfl
      refine lv_if_eq (tgt := 47) hx hb d_MT_fault_26 (by decide) (fun cc26 => ?_) (fun cc26 => ?_)
      · have hf := ifT cc26 hf
        exact k_MT_fault_47 (s := s) C0 hA hf hP hD hS (lv_sub hl [0, 1, 2, 3] rfl)
      · have hf := ifF cc26 hf
        refine lv_aload_n hx hb d_MT_fault_29 rfl (lv_at hl 0 rfl) ?_
        refine lv_iload_n hx hb d_MT_fault_30 rfl (lv_at hl 3 rfl) ?_
        obtain ⟨q31_7, hc, hf⟩ := bindS hf
        refine mcV (n := 1) (As := [.int a3]) (rest := []) (wr := [(h_t_faults, .inr (3, [.ref h_t_faults_kinds, .ref h_t_faults_victimWords, .ref h_t_faults_victimMasks, .ref h_t_faults_otherWords, .ref h_t_faults_otherMasks, .int t_faults_count, .int t_faults_touchedWords, .int t_faults_bits])), (h_t_faults_kinds, .inl (cI, n_t_faults_kinds, .inl t_faults_kinds_a)), (h_t_faults_victimWords, .inl (cI, n_t_faults_victimWords, .inl t_faults_victimWords_a)), (h_t_faults_victimMasks, .inl (cI, n_t_faults_victimMasks, .inl t_faults_victimMasks_a)), (h_t_faults_otherWords, .inl (cI, n_t_faults_otherWords, .inl t_faults_otherWords_a)), (h_t_faults_otherMasks, .inl (cI, n_t_faults_otherMasks, .inl t_faults_otherMasks_a))]) hx hb hml hown hts hK (c_MT_isCell (l := l) (D := D) (cI := cI) (cB := cB) (cJ := cJ) (h_t := h_t) (v_t_words := v_t_words) (v_t_tape := v_t_tape) (v_t_reader := v_t_reader) (v_t_faults := (.ref h_t_faults)) (v_t_single := v_t_single) (v_t_tester := v_t_tester) (v_t_plan := v_t_plan) (v_t_march := v_t_march) (v_t_draft := v_t_draft) (t_cells := t_cells) (a1 := a3) (sz := H.size) (res := q31_7) (hf := hc)) w_189 w_190 w_191 w_187 w_192 (by decide +kernel) rfl rfl ⟨Nat.le_of_ble_eq_true rfl, Nat.le_of_ble_eq_true rfl⟩ hP hD hS hA [0] [1, 2, 3, 4, 5, 6] rfl rfl (by decide) (by decide) (by decide) (ci := 0) 0 rfl rfl hl.1 rfl rfl (lv_room (Nat.le_of_ble_eq_true rfl)) d_MT_fault_31 ⟨Nat.le_of_ble_eq_true rfl, Nat.le_of_ble_eq_true rfl⟩ (fun o ws' H locs hp hP hD hS => ?_)
        obtain ⟨rfl, rfl⟩ := hp
        have hP : va_P D classes [(h_t, .inr (0, [v_t_words, .int t_cells, v_t_tape, v_t_reader, .ref h_t_faults, v_t_single, v_t_tester, v_t_plan, v_t_march, v_t_draft])), (h_t_faults, .inr (3, [.ref h_t_faults_kinds, .ref h_t_faults_victimWords, .ref h_t_faults_victimMasks, .ref h_t_faults_otherWords, .ref h_t_faults_otherMasks, .int t_faults_count, .int t_faults_touchedWords, .int t_faults_bits])), (h_t_faults_kinds, .inl (cI, n_t_faults_kinds, .inl t_faults_kinds_a)), (h_t_faults_victimWords, .inl (cI, n_t_faults_victimWords, .inl t_faults_victimWords_a)), (h_t_faults_victimMasks, .inl (cI, n_t_faults_victimMasks, .inl t_faults_victimMasks_a)), (h_t_faults_otherWords, .inl (cI, n_t_faults_otherWords, .inl t_faults_otherWords_a)), (h_t_faults_otherMasks, .inl (cI, n_t_faults_otherMasks, .inl t_faults_otherMasks_a))] H := hP.sub [6, 0, 1, 2, 3, 4, 5] rfl
        have hD : va_D A [(h_t, .inr (0, [v_t_words, .int t_cells, v_t_tape, v_t_reader, .ref h_t_faults, v_t_single, v_t_tester, v_t_plan, v_t_march, v_t_draft])), (h_t_faults, .inr (3, [.ref h_t_faults_kinds, .ref h_t_faults_victimWords, .ref h_t_faults_victimMasks, .ref h_t_faults_otherWords, .ref h_t_faults_otherMasks, .int t_faults_count, .int t_faults_touchedWords, .int t_faults_bits])), (h_t_faults_kinds, .inl (cI, n_t_faults_kinds, .inl t_faults_kinds_a)), (h_t_faults_victimWords, .inl (cI, n_t_faults_victimWords, .inl t_faults_victimWords_a)), (h_t_faults_victimMasks, .inl (cI, n_t_faults_victimMasks, .inl t_faults_victimMasks_a)), (h_t_faults_otherWords, .inl (cI, n_t_faults_otherWords, .inl t_faults_otherWords_a)), (h_t_faults_otherMasks, .inl (cI, n_t_faults_otherMasks, .inl t_faults_otherMasks_a))] := hD.sub [6, 0, 1, 2, 3, 4, 5] (by decide) rfl
        refine lv_if_ne (tgt := 47) hx hb d_MT_fault_34 (by decide) (fun cc34 => ?_) (fun cc34 => ?_)
        · have hf := ifF cc34 hf
          exact k_MT_fault_47 (s := s) C0 hA hf hP hD hS (lv_sub hl [0, 1, 2, 3] rfl)
        · have hf := ifT cc34 hf
          exact absurd hf (by simp)
  · have hf := ifT cc2 hf
    refine lv_aload_n hx hb d_MT_fault_5 rfl (lv_at hl 0 rfl) ?_
    refine va_get (D := D) (ci := 0) (v := .ref h_t_faults) (C := R_MT) (T := F_MT) (N := 10) hx hb hts i_MT hown hK.1 hP 0 rfl rfl 4 (by decide) (hts _ w_89) (fun _ h9 => h9) rfl d_MT_fault_6 ?_
    obtain ⟨q9_8, hc, hf⟩ := bindS hf
    refine mcV (n := 0) (As := []) (rest := []) (wr := [(h_t, .inr (0, [v_t_words, .int t_cells, v_t_tape, v_t_reader, .ref h_t_faults, v_t_single, v_t_tester, v_t_plan, v_t_march, v_t_draft])), (h_t_faults_kinds, .inl (cI, n_t_faults_kinds, .inl t_faults_kinds_a)), (h_t_faults_victimWords, .inl (cI, n_t_faults_victimWords, .inl t_faults_victimWords_a)), (h_t_faults_victimMasks, .inl (cI, n_t_faults_victimMasks, .inl t_faults_victimMasks_a)), (h_t_faults_otherWords, .inl (cI, n_t_faults_otherWords, .inl t_faults_otherWords_a)), (h_t_faults_otherMasks, .inl (cI, n_t_faults_otherMasks, .inl t_faults_otherMasks_a))]) hx hb hml hown hts hK (c_FaultList_clear (l := l) (D := D) (cI := cI) (cB := cB) (cJ := cJ) (h_t := h_t_faults) (v_t_kinds := (.ref h_t_faults_kinds)) (v_t_victimWords := (.ref h_t_faults_victimWords)) (v_t_victimMasks := (.ref h_t_faults_victimMasks)) (v_t_otherWords := (.ref h_t_faults_otherWords)) (v_t_otherMasks := (.ref h_t_faults_otherMasks)) (v_t_bits := (.int t_faults_bits)) (t_count := t_faults_count) (t_touchedWords := t_faults_touchedWords) (sz := H.size) (res := q9_8) (hf := hc)) w_202 w_203 w_204 w_28 w_205 (by decide +kernel) rfl rfl ⟨Nat.le_of_ble_eq_true rfl, Nat.le_of_ble_eq_true rfl⟩ hP hD hS hA [1] [0, 2, 3, 4, 5, 6] rfl rfl (by decide) (by decide) (by decide) (ci := 3) 0 rfl rfl hl.1 rfl rfl (lv_room (Nat.le_of_ble_eq_true rfl)) d_MT_fault_9 ⟨Nat.le_of_ble_eq_true rfl, Nat.le_of_ble_eq_true rfl⟩ (fun o ws' H locs hp hP hD hS => ?_)
    obtain ⟨rfl, rfl⟩ := hp
    have hP : va_P D classes [(h_t, .inr (0, [v_t_words, .int t_cells, v_t_tape, v_t_reader, .ref h_t_faults, v_t_single, v_t_tester, v_t_plan, v_t_march, v_t_draft])), (h_t_faults, .inr (3, [.ref h_t_faults_kinds, .ref h_t_faults_victimWords, .ref h_t_faults_victimMasks, .ref h_t_faults_otherWords, .ref h_t_faults_otherMasks, .int q9_8.1, .int q9_8.2, .int t_faults_bits])), (h_t_faults_kinds, .inl (cI, n_t_faults_kinds, .inl t_faults_kinds_a)), (h_t_faults_victimWords, .inl (cI, n_t_faults_victimWords, .inl t_faults_victimWords_a)), (h_t_faults_victimMasks, .inl (cI, n_t_faults_victimMasks, .inl t_faults_victimMasks_a)), (h_t_faults_otherWords, .inl (cI, n_t_faults_otherWords, .inl t_faults_otherWords_a)), (h_t_faults_otherMasks, .inl (cI, n_t_faults_otherMasks, .inl t_faults_otherMasks_a))] H := hP.sub [0, 6, 1, 2, 3, 4, 5] rfl
    have hD : va_D A [(h_t, .inr (0, [v_t_words, .int t_cells, v_t_tape, v_t_reader, .ref h_t_faults, v_t_single, v_t_tester, v_t_plan, v_t_march, v_t_draft])), (h_t_faults, .inr (3, [.ref h_t_faults_kinds, .ref h_t_faults_victimWords, .ref h_t_faults_victimMasks, .ref h_t_faults_otherWords, .ref h_t_faults_otherMasks, .int q9_8.1, .int q9_8.2, .int t_faults_bits])), (h_t_faults_kinds, .inl (cI, n_t_faults_kinds, .inl t_faults_kinds_a)), (h_t_faults_victimWords, .inl (cI, n_t_faults_victimWords, .inl t_faults_victimWords_a)), (h_t_faults_victimMasks, .inl (cI, n_t_faults_victimMasks, .inl t_faults_victimMasks_a)), (h_t_faults_otherWords, .inl (cI, n_t_faults_otherWords, .inl t_faults_otherWords_a)), (h_t_faults_otherMasks, .inl (cI, n_t_faults_otherMasks, .inl t_faults_otherMasks_a))] := hD.sub [0, 6, 1, 2, 3, 4, 5] (by decide) rfl
    refine lv_iconst (v := 0) hx hb d_MT_fault_12 (by decide) ?_
    obtain rfl := Sum.inl.inj (Option.some.inj hf)
    exact ret_i hx hb hr hlocks hP hD hS ⟨rfl, rfl⟩ d_MT_fault_13
def f_MT_hasMarch (t_march_elements : Int32) : Option (Int32) :=
  (if t_march_elements ≤ 0 then
    some 0
  else
    some 1)
def post_MT_hasMarch (h_t h_t_march : Nat) (v_t_words v_t_cells v_t_tape v_t_reader v_t_faults v_t_single v_t_tester v_t_plan v_t_draft v_t_march_rows v_t_march_firstRows v_t_march_rowCount : Value) (t_march_elements : Int32) (cI cB cJ : ClassId) (res : Int32) : Option Value → va_W → Prop := fun o ws' => o = some (.int res) ∧ ws' = [(h_t, .inr (0, [v_t_words, v_t_cells, v_t_tape, v_t_reader, v_t_faults, v_t_single, v_t_tester, v_t_plan, .ref h_t_march, v_t_draft])), (h_t_march, .inr (4, [v_t_march_rows, v_t_march_firstRows, .int t_march_elements, v_t_march_rowCount]))]
abbrev rm_MT_hasMarch : Room := { frames := 0, cells := 0, slots := 0, locals := 0 }
set_option maxHeartbeats 4000000 in
set_option maxRecDepth 100000 in
theorem c_MT_hasMarch (l : Launch) (D : va_G) (cI cB cJ : ClassId) (h_t h_t_march : Nat) (v_t_words v_t_cells v_t_tape v_t_reader v_t_faults v_t_single v_t_tester v_t_plan v_t_draft v_t_march_rows v_t_march_firstRows v_t_march_rowCount : Value) (t_march_elements : Int32) (sz : Nat) (res : Int32) (hf : f_MT_hasMarch t_march_elements = some res) : Met l y_MT_hasMarch (.code y_MT_hasMarch b_MT_hasMarch 1 (some .boolean) :: TB) rm_MT_hasMarch (PcW D [(cI, .int), (cB, .byte), (cJ, .long)] [.ref h_t] [(h_t, .inr (0, [v_t_words, v_t_cells, v_t_tape, v_t_reader, v_t_faults, v_t_single, v_t_tester, v_t_plan, .ref h_t_march, v_t_draft])), (h_t_march, .inr (4, [v_t_march_rows, v_t_march_firstRows, .int t_march_elements, v_t_march_rowCount]))] sz) (QW D (post_MT_hasMarch h_t h_t_march v_t_words v_t_cells v_t_tape v_t_reader v_t_faults v_t_single v_t_tester v_t_plan v_t_draft v_t_march_rows v_t_march_firstRows v_t_march_rowCount t_march_elements cI cB cJ res) (va_A [(h_t, .inr (0, [v_t_words, v_t_cells, v_t_tape, v_t_reader, v_t_faults, v_t_single, v_t_tester, v_t_plan, .ref h_t_march, v_t_draft])), (h_t_march, .inr (4, [v_t_march_rows, v_t_march_firstRows, .int t_march_elements, v_t_march_rowCount]))] sz)) 0 0 (va_A [(h_t, .inr (0, [v_t_words, v_t_cells, v_t_tape, v_t_reader, v_t_faults, v_t_single, v_t_tester, v_t_plan, .ref h_t_march, v_t_draft])), (h_t_march, .inr (4, [v_t_march_rows, v_t_march_firstRows, .int t_march_elements, v_t_march_rowCount]))] sz) := by
  refine entW ⟨by decide +kernel, rfl⟩ fun p e s m below meth c C0 hP hD hsz ls hl => ?_
  subst hsz
  generalize hAe : va_A [(h_t, .inr (0, [v_t_words, v_t_cells, v_t_tape, v_t_reader, v_t_faults, v_t_single, v_t_tester, v_t_plan, .ref h_t_march, v_t_draft])), (h_t_march, .inr (4, [v_t_march_rows, v_t_march_firstRows, .int t_march_elements, v_t_march_rowCount]))] s.heap.size = A at hD ⊢
  have hA : ∀ q : Nat, s.heap.size ≤ q → A q := fun q h => by rw [← hAe]; exact Or.inr h
  clear hAe
  have hS : va_S A s.heap s.heap [] := va_S.rf
  have hl : lv_has ls 1 [(0, .ref h_t)] := hl
  obtain ⟨hx, hb, hml, hr, hlocks, hts, hown, hK, hin⟩ := id C0
  have hf : (((
  (if t_march_elements ≤ 0 then
    some 0
  else
    some 1))) : Option (Int32)) = some res := hf
  obtain ⟨H, hH⟩ : ∃ H, H = s.heap := ⟨_, rfl⟩
  obtain ⟨locs, hlo⟩ : ∃ x : List Loc, x = [] := ⟨_, rfl⟩
  rw [← hlo] at hS ⊢
  have hP : va_P D classes [(h_t, .inr (0, [v_t_words, v_t_cells, v_t_tape, v_t_reader, v_t_faults, v_t_single, v_t_tester, v_t_plan, .ref h_t_march, v_t_draft])), (h_t_march, .inr (4, [v_t_march_rows, v_t_march_firstRows, .int t_march_elements, v_t_march_rowCount]))] H := by rw [hH]; exact hP
  have hS : va_S A s.heap H locs := by rw [hH]; exact hS
  show W p l e rm_MT_hasMarch s m _ below meth c s.heap locs 0 0 (MQ below (QW D (post_MT_hasMarch h_t h_t_march v_t_words v_t_cells v_t_tape v_t_reader v_t_faults v_t_single v_t_tester v_t_plan v_t_draft v_t_march_rows v_t_march_firstRows v_t_march_rowCount t_march_elements cI cB cJ res) A) _ s 0 0 A) (F0 m 0 ls [])
  refine wheap hH ?_
  clear hH hlo
  refine lv_aload_n hx hb d_MT_hasMarch_0 rfl (lv_at hl 0 rfl) ?_
  refine va_get (D := D) (ci := 0) (v := .ref h_t_march) (C := R_MT) (T := F_MT) (N := 10) hx hb hts i_MT hown hK.1 hP 0 rfl rfl 8 (by decide) (hts _ w_111) (fun _ h9 => h9) rfl d_MT_hasMarch_1 ?_
  refine va_get (D := D) (ci := 4) (v := .int t_march_elements) (C := R_March) (T := F_March) (N := 4) hx hb hts i_March hown hK.1 hP 1 rfl rfl 2 (by decide) (hts _ w_182) (fun _ h9 => h9) rfl d_MT_hasMarch_4 ?_
  refine lv_if_le (tgt := 14) hx hb d_MT_hasMarch_7 (by decide) (fun cc7 => ?_) (fun cc7 => ?_)
  · have hf := ifT cc7 hf
    refine lv_iconst (v := 0) hx hb d_MT_hasMarch_14 (by decide) ?_
    obtain rfl := Option.some.inj hf
    exact ret_z hx hb hr rfl hlocks hP hD hS ⟨rfl, rfl⟩ d_MT_hasMarch_15
  · have hf := ifF cc7 hf
    refine lv_iconst (v := 1) hx hb d_MT_hasMarch_10 (by decide) ?_
    refine lv_goto (tgt := 15) hx hb d_MT_hasMarch_11 (by decide) ?_
    obtain rfl := Option.some.inj hf
    exact ret_z hx hb hr rfl hlocks hP hD hS ⟨rfl, rfl⟩ d_MT_hasMarch_15
