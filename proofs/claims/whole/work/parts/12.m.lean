def g_Memory_settle_2 (n_t_faults_victimWords : Nat) (n_t_faults_victimMasks : Nat) (n_t_faults_kinds : Nat) (n_t_held : Nat) (n_t_faults_otherWords : Nat) (n_t_faults_otherMasks : Nat) (t_faults_count : Int32) (t_faults_victimWords_a : Nat → Int32) (t_faults_victimMasks_a : Nat → Int32) (t_faults_kinds_a : Nat → Int32) (t_faults_otherWords_a : Nat → Int32) (t_faults_otherMasks_a : Nat → Int32) (rec2 : ((Nat → Int32) × Int32) → Option ((Nat → Int32))) (st : ((Nat → Int32) × Int32)) : Option ((Nat → Int32)) :=
  (if t_faults_count ≤ st.2 then
    some st.1
  else
    (if inB st.2 n_t_faults_victimWords = true then
    (if inB st.2 n_t_faults_victimMasks = true then
    (if inB st.2 n_t_faults_kinds = true then
    (if (t_faults_kinds_a (Int32.toNatClampNeg st.2)) = 0 then
      (if inB (t_faults_victimWords_a (Int32.toNatClampNeg st.2)) n_t_held = true then
      (if inB (t_faults_victimWords_a (Int32.toNatClampNeg st.2)) n_t_held = true then
      (rec2 ((upd st.1 (Int32.toNatClampNeg (t_faults_victimWords_a (Int32.toNatClampNeg st.2))) ((st.1 (Int32.toNatClampNeg (t_faults_victimWords_a (Int32.toNatClampNeg st.2)))) &&& ((t_faults_victimMasks_a (Int32.toNatClampNeg st.2)) ^^^ (-1)))), (st.2 + 1)))
      else none)
      else none)
    else
      (if (t_faults_kinds_a (Int32.toNatClampNeg st.2)) = 1 then
        (if inB (t_faults_victimWords_a (Int32.toNatClampNeg st.2)) n_t_held = true then
        (if inB (t_faults_victimWords_a (Int32.toNatClampNeg st.2)) n_t_held = true then
        (rec2 ((upd st.1 (Int32.toNatClampNeg (t_faults_victimWords_a (Int32.toNatClampNeg st.2))) ((st.1 (Int32.toNatClampNeg (t_faults_victimWords_a (Int32.toNatClampNeg st.2)))) ||| (t_faults_victimMasks_a (Int32.toNatClampNeg st.2)))), (st.2 + 1)))
        else none)
        else none)
      else
        (if (t_faults_kinds_a (Int32.toNatClampNeg st.2)) = 12 then
          (if inB st.2 n_t_faults_otherWords = true then
          (if inB (t_faults_otherWords_a (Int32.toNatClampNeg st.2)) n_t_held = true then
          (if inB st.2 n_t_faults_otherMasks = true then
          (if ((st.1 (Int32.toNatClampNeg (t_faults_otherWords_a (Int32.toNatClampNeg st.2)))) &&& (t_faults_otherMasks_a (Int32.toNatClampNeg st.2))) = 0 then
            (rec2 (st.1, (st.2 + 1)))
          else
            (if inB (t_faults_victimWords_a (Int32.toNatClampNeg st.2)) n_t_held = true then
            (if inB (t_faults_victimWords_a (Int32.toNatClampNeg st.2)) n_t_held = true then
            (rec2 ((upd st.1 (Int32.toNatClampNeg (t_faults_victimWords_a (Int32.toNatClampNeg st.2))) ((st.1 (Int32.toNatClampNeg (t_faults_victimWords_a (Int32.toNatClampNeg st.2)))) &&& ((t_faults_victimMasks_a (Int32.toNatClampNeg st.2)) ^^^ (-1)))), (st.2 + 1)))
            else none)
            else none))
          else none)
          else none)
          else none)
        else
          (rec2 (st.1, (st.2 + 1))))))
    else none)
    else none)
    else none))
def f_Memory_settle (n_t_faults_victimWords : Nat) (n_t_faults_victimMasks : Nat) (n_t_faults_kinds : Nat) (n_t_held : Nat) (n_t_faults_otherWords : Nat) (n_t_faults_otherMasks : Nat) (t_faults_count : Int32) (t_faults_victimWords_a : Nat → Int32) (t_faults_victimMasks_a : Nat → Int32) (t_faults_kinds_a : Nat → Int32) (t_held_a : Nat → Int32) (t_faults_otherWords_a : Nat → Int32) (t_faults_otherMasks_a : Nat → Int32) : Option ((Nat → Int32)) :=
  (lp (g_Memory_settle_2 n_t_faults_victimWords n_t_faults_victimMasks n_t_faults_kinds n_t_held n_t_faults_otherWords n_t_faults_otherMasks t_faults_count t_faults_victimWords_a t_faults_victimMasks_a t_faults_kinds_a t_faults_otherWords_a t_faults_otherMasks_a) 100000 (t_held_a, 0))
def post_Memory_settle (h_t h_t_faults h_t_faults_victimWords h_t_faults_victimMasks h_t_faults_kinds h_t_held h_t_faults_otherWords h_t_faults_otherMasks : Nat) (v_t_words v_t_bits v_t_latest v_t_faults_touchedWords v_t_faults_bits : Value) (n_t_faults_victimWords : Nat) (n_t_faults_victimMasks : Nat) (n_t_faults_kinds : Nat) (n_t_held : Nat) (n_t_faults_otherWords : Nat) (n_t_faults_otherMasks : Nat) (t_faults_count : Int32) (t_faults_victimWords_a : Nat → Int32) (t_faults_victimMasks_a : Nat → Int32) (t_faults_kinds_a : Nat → Int32) (t_faults_otherWords_a : Nat → Int32) (t_faults_otherMasks_a : Nat → Int32) (cI cB cJ : ClassId) (res : (Nat → Int32)) : Option Value → va_W → Prop := fun o ws' => o = none ∧ ws' = [(h_t, .inr (5, [v_t_words, v_t_bits, .ref h_t_held, .ref h_t_faults, v_t_latest])), (h_t_faults, .inr (3, [.ref h_t_faults_kinds, .ref h_t_faults_victimWords, .ref h_t_faults_victimMasks, .ref h_t_faults_otherWords, .ref h_t_faults_otherMasks, .int t_faults_count, v_t_faults_touchedWords, v_t_faults_bits])), (h_t_faults_victimWords, .inl (cI, n_t_faults_victimWords, .inl t_faults_victimWords_a)), (h_t_faults_victimMasks, .inl (cI, n_t_faults_victimMasks, .inl t_faults_victimMasks_a)), (h_t_faults_kinds, .inl (cI, n_t_faults_kinds, .inl t_faults_kinds_a)), (h_t_held, .inl (cI, n_t_held, .inl res)), (h_t_faults_otherWords, .inl (cI, n_t_faults_otherWords, .inl t_faults_otherWords_a)), (h_t_faults_otherMasks, .inl (cI, n_t_faults_otherMasks, .inl t_faults_otherMasks_a))]
abbrev rm_Memory_settle : Room := { frames := 0, cells := 0, slots := 0, locals := 0 }
set_option maxHeartbeats 4000000 in
set_option maxRecDepth 100000 in
theorem kb_Memory_settle_2 {p : Program} {l : Launch} {e : Env} {s : State} {m : MethodId} {args : Array Value} {below : List Frame} {meth : Method} {c : Code} {D : va_G} {cI cB cJ : ClassId} {A : Nat → Prop} (C0 : CX p s m args meth c D [(cI, .int), (cB, .byte), (cJ, .long)] R_Memory b_Memory_settle 4 none "settle") (hA : ∀ q, s.heap.size ≤ q → A q) {h_t h_t_faults h_t_faults_victimWords h_t_faults_victimMasks h_t_faults_kinds h_t_held h_t_faults_otherWords h_t_faults_otherMasks : Nat} {v_t_words v_t_bits v_t_latest v_t_faults_touchedWords v_t_faults_bits : Value} {res : (Nat → Int32)} {rec2 : ((Nat → Int32) × Int32) → Option ((Nat → Int32))} {n_t_faults_victimWords : Nat} {n_t_faults_victimMasks : Nat} {n_t_faults_kinds : Nat} {n_t_held : Nat} {n_t_faults_otherWords : Nat} {n_t_faults_otherMasks : Nat} {t_faults_count : Int32} {t_faults_victimWords_a : Nat → Int32} {t_faults_victimMasks_a : Nat → Int32} {t_faults_kinds_a : Nat → Int32} {t_held_a : Nat → Int32} {t_faults_otherWords_a : Nat → Int32} {t_faults_otherMasks_a : Nat → Int32} {x1 : Int32}
    (hrec2 : ∀ (st : ((Nat → Int32) × Int32)), rec2 st = some res → ∀  (H : Heap) (locs : List Loc) (ls : Array Slot), va_P D classes [(h_t, .inr (5, [v_t_words, v_t_bits, .ref h_t_held, .ref h_t_faults, v_t_latest])), (h_t_faults, .inr (3, [.ref h_t_faults_kinds, .ref h_t_faults_victimWords, .ref h_t_faults_victimMasks, .ref h_t_faults_otherWords, .ref h_t_faults_otherMasks, .int t_faults_count, v_t_faults_touchedWords, v_t_faults_bits])), (h_t_faults_victimWords, .inl (cI, n_t_faults_victimWords, .inl t_faults_victimWords_a)), (h_t_faults_victimMasks, .inl (cI, n_t_faults_victimMasks, .inl t_faults_victimMasks_a)), (h_t_faults_kinds, .inl (cI, n_t_faults_kinds, .inl t_faults_kinds_a)), (h_t_held, .inl (cI, n_t_held, .inl st.1)), (h_t_faults_otherWords, .inl (cI, n_t_faults_otherWords, .inl t_faults_otherWords_a)), (h_t_faults_otherMasks, .inl (cI, n_t_faults_otherMasks, .inl t_faults_otherMasks_a))] H → va_D A [(h_t, .inr (5, [v_t_words, v_t_bits, .ref h_t_held, .ref h_t_faults, v_t_latest])), (h_t_faults, .inr (3, [.ref h_t_faults_kinds, .ref h_t_faults_victimWords, .ref h_t_faults_victimMasks, .ref h_t_faults_otherWords, .ref h_t_faults_otherMasks, .int t_faults_count, v_t_faults_touchedWords, v_t_faults_bits])), (h_t_faults_victimWords, .inl (cI, n_t_faults_victimWords, .inl t_faults_victimWords_a)), (h_t_faults_victimMasks, .inl (cI, n_t_faults_victimMasks, .inl t_faults_victimMasks_a)), (h_t_faults_kinds, .inl (cI, n_t_faults_kinds, .inl t_faults_kinds_a)), (h_t_held, .inl (cI, n_t_held, .inl st.1)), (h_t_faults_otherWords, .inl (cI, n_t_faults_otherWords, .inl t_faults_otherWords_a)), (h_t_faults_otherMasks, .inl (cI, n_t_faults_otherMasks, .inl t_faults_otherMasks_a))] → va_S A s.heap H locs → lv_has ls 4 [(0, .ref h_t), (1, .int st.2)] → W p l e rm_Memory_settle s m args below meth c H locs 0 0 (MQ below (QW D (post_Memory_settle h_t h_t_faults h_t_faults_victimWords h_t_faults_victimMasks h_t_faults_kinds h_t_held h_t_faults_otherWords h_t_faults_otherMasks v_t_words v_t_bits v_t_latest v_t_faults_touchedWords v_t_faults_bits n_t_faults_victimWords n_t_faults_victimMasks n_t_faults_kinds n_t_held n_t_faults_otherWords n_t_faults_otherMasks t_faults_count t_faults_victimWords_a t_faults_victimMasks_a t_faults_kinds_a t_faults_otherWords_a t_faults_otherMasks_a cI cB cJ res) A) args s 0 0 A) (F0 m 2 ls []))
    (hf : g_Memory_settle_2 n_t_faults_victimWords n_t_faults_victimMasks n_t_faults_kinds n_t_held n_t_faults_otherWords n_t_faults_otherMasks t_faults_count t_faults_victimWords_a t_faults_victimMasks_a t_faults_kinds_a t_faults_otherWords_a t_faults_otherMasks_a rec2 (t_held_a, x1) = some res) {H : Heap} {locs : List Loc} {ls : Array Slot} (hP : va_P D classes [(h_t, .inr (5, [v_t_words, v_t_bits, .ref h_t_held, .ref h_t_faults, v_t_latest])), (h_t_faults, .inr (3, [.ref h_t_faults_kinds, .ref h_t_faults_victimWords, .ref h_t_faults_victimMasks, .ref h_t_faults_otherWords, .ref h_t_faults_otherMasks, .int t_faults_count, v_t_faults_touchedWords, v_t_faults_bits])), (h_t_faults_victimWords, .inl (cI, n_t_faults_victimWords, .inl t_faults_victimWords_a)), (h_t_faults_victimMasks, .inl (cI, n_t_faults_victimMasks, .inl t_faults_victimMasks_a)), (h_t_faults_kinds, .inl (cI, n_t_faults_kinds, .inl t_faults_kinds_a)), (h_t_held, .inl (cI, n_t_held, .inl t_held_a)), (h_t_faults_otherWords, .inl (cI, n_t_faults_otherWords, .inl t_faults_otherWords_a)), (h_t_faults_otherMasks, .inl (cI, n_t_faults_otherMasks, .inl t_faults_otherMasks_a))] H) (hD : va_D A [(h_t, .inr (5, [v_t_words, v_t_bits, .ref h_t_held, .ref h_t_faults, v_t_latest])), (h_t_faults, .inr (3, [.ref h_t_faults_kinds, .ref h_t_faults_victimWords, .ref h_t_faults_victimMasks, .ref h_t_faults_otherWords, .ref h_t_faults_otherMasks, .int t_faults_count, v_t_faults_touchedWords, v_t_faults_bits])), (h_t_faults_victimWords, .inl (cI, n_t_faults_victimWords, .inl t_faults_victimWords_a)), (h_t_faults_victimMasks, .inl (cI, n_t_faults_victimMasks, .inl t_faults_victimMasks_a)), (h_t_faults_kinds, .inl (cI, n_t_faults_kinds, .inl t_faults_kinds_a)), (h_t_held, .inl (cI, n_t_held, .inl t_held_a)), (h_t_faults_otherWords, .inl (cI, n_t_faults_otherWords, .inl t_faults_otherWords_a)), (h_t_faults_otherMasks, .inl (cI, n_t_faults_otherMasks, .inl t_faults_otherMasks_a))]) (hS : va_S A s.heap H locs) (hl : lv_has ls 4 [(0, .ref h_t), (1, .int x1)]) : W p l e rm_Memory_settle s m args below meth c H locs 0 0 (MQ below (QW D (post_Memory_settle h_t h_t_faults h_t_faults_victimWords h_t_faults_victimMasks h_t_faults_kinds h_t_held h_t_faults_otherWords h_t_faults_otherMasks v_t_words v_t_bits v_t_latest v_t_faults_touchedWords v_t_faults_bits n_t_faults_victimWords n_t_faults_victimMasks n_t_faults_kinds n_t_held n_t_faults_otherWords n_t_faults_otherMasks t_faults_count t_faults_victimWords_a t_faults_victimMasks_a t_faults_kinds_a t_faults_otherWords_a t_faults_otherMasks_a cI cB cJ res) A) args s 0 0 A) (F0 m 2 ls []) := by
  obtain ⟨hx, hb, hml, hr, hlocks, hts, hown, hK, hin⟩ := id C0
  have hf : (((
  (if t_faults_count ≤ x1 then
    some t_held_a
  else
    (if inB x1 n_t_faults_victimWords = true then
    (if inB x1 n_t_faults_victimMasks = true then
    (if inB x1 n_t_faults_kinds = true then
    (if (t_faults_kinds_a (Int32.toNatClampNeg x1)) = 0 then
      (if inB (t_faults_victimWords_a (Int32.toNatClampNeg x1)) n_t_held = true then
      (if inB (t_faults_victimWords_a (Int32.toNatClampNeg x1)) n_t_held = true then
      (rec2 ((upd t_held_a (Int32.toNatClampNeg (t_faults_victimWords_a (Int32.toNatClampNeg x1))) ((t_held_a (Int32.toNatClampNeg (t_faults_victimWords_a (Int32.toNatClampNeg x1)))) &&& ((t_faults_victimMasks_a (Int32.toNatClampNeg x1)) ^^^ (-1)))), (x1 + 1)))
      else none)
      else none)
    else
      (if (t_faults_kinds_a (Int32.toNatClampNeg x1)) = 1 then
        (if inB (t_faults_victimWords_a (Int32.toNatClampNeg x1)) n_t_held = true then
        (if inB (t_faults_victimWords_a (Int32.toNatClampNeg x1)) n_t_held = true then
        (rec2 ((upd t_held_a (Int32.toNatClampNeg (t_faults_victimWords_a (Int32.toNatClampNeg x1))) ((t_held_a (Int32.toNatClampNeg (t_faults_victimWords_a (Int32.toNatClampNeg x1)))) ||| (t_faults_victimMasks_a (Int32.toNatClampNeg x1)))), (x1 + 1)))
        else none)
        else none)
      else
        (if (t_faults_kinds_a (Int32.toNatClampNeg x1)) = 12 then
          (if inB x1 n_t_faults_otherWords = true then
          (if inB (t_faults_otherWords_a (Int32.toNatClampNeg x1)) n_t_held = true then
          (if inB x1 n_t_faults_otherMasks = true then
          (if ((t_held_a (Int32.toNatClampNeg (t_faults_otherWords_a (Int32.toNatClampNeg x1)))) &&& (t_faults_otherMasks_a (Int32.toNatClampNeg x1))) = 0 then
            (rec2 (t_held_a, (x1 + 1)))
          else
            (if inB (t_faults_victimWords_a (Int32.toNatClampNeg x1)) n_t_held = true then
            (if inB (t_faults_victimWords_a (Int32.toNatClampNeg x1)) n_t_held = true then
            (rec2 ((upd t_held_a (Int32.toNatClampNeg (t_faults_victimWords_a (Int32.toNatClampNeg x1))) ((t_held_a (Int32.toNatClampNeg (t_faults_victimWords_a (Int32.toNatClampNeg x1)))) &&& ((t_faults_victimMasks_a (Int32.toNatClampNeg x1)) ^^^ (-1)))), (x1 + 1)))
            else none)
            else none))
          else none)
          else none)
          else none)
        else
          (rec2 (t_held_a, (x1 + 1))))))
    else none)
    else none)
    else none)))) : Option ((Nat → Int32))) = some res := hf
  refine lv_iload_n hx hb d_Memory_settle_2 rfl (lv_at hl 1 rfl) ?_
  refine lv_aload_n hx hb d_Memory_settle_3 rfl (lv_at hl 0 rfl) ?_
  refine va_get (D := D) (ci := 5) (v := .ref h_t_faults) (C := R_Memory) (T := F_Memory) (N := 5) hx hb hts i_Memory hown hK.1 hP 0 rfl rfl 3 (by decide) (hts _ w_32) (fun _ h9 => h9) rfl d_Memory_settle_4 ?_
  refine va_get (D := D) (ci := 3) (v := .int t_faults_count) (C := R_FaultList) (T := F_FaultList) (N := 8) hx hb hts i_FaultList hown hK.1 hP 1 rfl rfl 5 (by decide) (hts _ w_207) (fun _ h9 => h9) rfl d_Memory_settle_7 ?_
  refine lv_icmp_ge (tgt := 152) hx hb d_Memory_settle_10 (by decide) (fun cc10 => ?_) (fun cc10 => ?_)
  · have hf := ifT cc10 hf
    obtain rfl := Option.some.inj hf
    exact ret_v hx hb hr hlocks hP hD hS ⟨rfl, rfl⟩ d_Memory_settle_152
  · have hf := ifF cc10 hf
    refine lv_aload_n hx hb d_Memory_settle_13 rfl (lv_at hl 0 rfl) ?_
    refine va_get (D := D) (ci := 5) (v := .ref h_t_faults) (C := R_Memory) (T := F_Memory) (N := 5) hx hb hts i_Memory hown hK.1 hP 0 rfl rfl 3 (by decide) (hts _ w_32) (fun _ h9 => h9) rfl d_Memory_settle_14 ?_
    refine va_get (D := D) (ci := 3) (v := .ref h_t_faults_victimWords) (C := R_FaultList) (T := F_FaultList) (N := 8) hx hb hts i_FaultList hown hK.1 hP 1 rfl rfl 1 (by decide) (hts _ w_208) (fun _ h9 => h9) rfl d_Memory_settle_17 ?_
    refine lv_iload_n hx hb d_Memory_settle_20 rfl (lv_at hl 1 rfl) ?_
    obtain ⟨hin1, hf⟩ := ifG hf
    refine va_iald hx hb hK.1 hP 2 0 rfl rfl (inB_in hin1) d_Memory_settle_21 ?_
    refine lv_istore_n (lv' := [(2, .int (t_faults_victimWords_a (Int32.toNatClampNeg x1))), (0, .ref h_t), (1, .int x1)]) hx hb d_Memory_settle_22 rfl hl (by decide) rfl (fun ls hl => ?_)
    refine lv_aload_n hx hb d_Memory_settle_23 rfl (lv_at hl 1 rfl) ?_
    refine va_get (D := D) (ci := 5) (v := .ref h_t_faults) (C := R_Memory) (T := F_Memory) (N := 5) hx hb hts i_Memory hown hK.1 hP 0 rfl rfl 3 (by decide) (hts _ w_32) (fun _ h9 => h9) rfl d_Memory_settle_24 ?_
    refine va_get (D := D) (ci := 3) (v := .ref h_t_faults_victimMasks) (C := R_FaultList) (T := F_FaultList) (N := 8) hx hb hts i_FaultList hown hK.1 hP 1 rfl rfl 2 (by decide) (hts _ w_209) (fun _ h9 => h9) rfl d_Memory_settle_27 ?_
    refine lv_iload_n hx hb d_Memory_settle_30 rfl (lv_at hl 2 rfl) ?_
    obtain ⟨hin1, hf⟩ := ifG hf
    refine va_iald hx hb hK.1 hP 3 0 rfl rfl (inB_in hin1) d_Memory_settle_31 ?_
    refine lv_istore_n (lv' := [(3, .int (t_faults_victimMasks_a (Int32.toNatClampNeg x1))), (2, .int (t_faults_victimWords_a (Int32.toNatClampNeg x1))), (0, .ref h_t), (1, .int x1)]) hx hb d_Memory_settle_32 rfl hl (by decide) rfl (fun ls hl => ?_)
    refine lv_aload_n hx hb d_Memory_settle_33 rfl (lv_at hl 2 rfl) ?_
    refine va_get (D := D) (ci := 5) (v := .ref h_t_faults) (C := R_Memory) (T := F_Memory) (N := 5) hx hb hts i_Memory hown hK.1 hP 0 rfl rfl 3 (by decide) (hts _ w_32) (fun _ h9 => h9) rfl d_Memory_settle_34 ?_
    refine va_get (D := D) (ci := 3) (v := .ref h_t_faults_kinds) (C := R_FaultList) (T := F_FaultList) (N := 8) hx hb hts i_FaultList hown hK.1 hP 1 rfl rfl 0 (by decide) (hts _ w_210) (fun _ h9 => h9) rfl d_Memory_settle_37 ?_
    refine lv_iload_n hx hb d_Memory_settle_40 rfl (lv_at hl 3 rfl) ?_
    obtain ⟨hin1, hf⟩ := ifG hf
    refine va_iald hx hb hK.1 hP 4 0 rfl rfl (inB_in hin1) d_Memory_settle_41 ?_
    by_cases cs : (t_faults_kinds_a (Int32.toNatClampNeg x1)) = 0
    · have hf := ifT cs hf
      refine lv_lookup (off := 34) (tgt := 76) hx hb d_Memory_settle_42 (by decide) (by rw [cs] <;> rfl) (by decide) ?_
      refine lv_aload_n hx hb d_Memory_settle_76 rfl (lv_at hl 2 rfl) ?_
      refine va_get (D := D) (ci := 5) (v := .ref h_t_held) (C := R_Memory) (T := F_Memory) (N := 5) hx hb hts i_Memory hown hK.1 hP 0 rfl rfl 2 (by decide) (hts _ w_25) (fun _ h9 => h9) rfl d_Memory_settle_77 ?_
      refine lv_iload_n hx hb d_Memory_settle_80 rfl (lv_at hl 1 rfl) ?_
      refine lv_dup2_11 hx hb d_Memory_settle_81 rfl rfl ?_
      obtain ⟨hin1, hf⟩ := ifG hf
      refine va_iald hx hb hK.1 hP 5 0 rfl rfl (inB_in hin1) d_Memory_settle_82 ?_
      refine lv_iload_n hx hb d_Memory_settle_83 rfl (lv_at hl 0 rfl) ?_
      refine lv_iconst (v := (-1)) hx hb d_Memory_settle_84 (by decide) ?_
      refine lv_ixor hx hb d_Memory_settle_85 ?_
      refine lv_iand hx hb d_Memory_settle_86 ?_
      obtain ⟨hin1, hf⟩ := ifG hf
      refine va_iast hx hb hK.1 hP hD hS 5 0 rfl rfl (inB_in hin1) d_Memory_settle_87 (fun H locs hP hD hS => ?_)
      have hP : va_P D classes [(h_t, .inr (5, [v_t_words, v_t_bits, .ref h_t_held, .ref h_t_faults, v_t_latest])), (h_t_faults, .inr (3, [.ref h_t_faults_kinds, .ref h_t_faults_victimWords, .ref h_t_faults_victimMasks, .ref h_t_faults_otherWords, .ref h_t_faults_otherMasks, .int t_faults_count, v_t_faults_touchedWords, v_t_faults_bits])), (h_t_faults_victimWords, .inl (cI, n_t_faults_victimWords, .inl t_faults_victimWords_a)), (h_t_faults_victimMasks, .inl (cI, n_t_faults_victimMasks, .inl t_faults_victimMasks_a)), (h_t_faults_kinds, .inl (cI, n_t_faults_kinds, .inl t_faults_kinds_a)), (h_t_held, .inl (cI, n_t_held, .inl (upd t_held_a (Int32.toNatClampNeg (t_faults_victimWords_a (Int32.toNatClampNeg x1))) ((t_held_a (Int32.toNatClampNeg (t_faults_victimWords_a (Int32.toNatClampNeg x1)))) &&& ((t_faults_victimMasks_a (Int32.toNatClampNeg x1)) ^^^ (-1)))))), (h_t_faults_otherWords, .inl (cI, n_t_faults_otherWords, .inl t_faults_otherWords_a)), (h_t_faults_otherMasks, .inl (cI, n_t_faults_otherMasks, .inl t_faults_otherMasks_a))] H := hP
      have hD : va_D A [(h_t, .inr (5, [v_t_words, v_t_bits, .ref h_t_held, .ref h_t_faults, v_t_latest])), (h_t_faults, .inr (3, [.ref h_t_faults_kinds, .ref h_t_faults_victimWords, .ref h_t_faults_victimMasks, .ref h_t_faults_otherWords, .ref h_t_faults_otherMasks, .int t_faults_count, v_t_faults_touchedWords, v_t_faults_bits])), (h_t_faults_victimWords, .inl (cI, n_t_faults_victimWords, .inl t_faults_victimWords_a)), (h_t_faults_victimMasks, .inl (cI, n_t_faults_victimMasks, .inl t_faults_victimMasks_a)), (h_t_faults_kinds, .inl (cI, n_t_faults_kinds, .inl t_faults_kinds_a)), (h_t_held, .inl (cI, n_t_held, .inl (upd t_held_a (Int32.toNatClampNeg (t_faults_victimWords_a (Int32.toNatClampNeg x1))) ((t_held_a (Int32.toNatClampNeg (t_faults_victimWords_a (Int32.toNatClampNeg x1)))) &&& ((t_faults_victimMasks_a (Int32.toNatClampNeg x1)) ^^^ (-1)))))), (h_t_faults_otherWords, .inl (cI, n_t_faults_otherWords, .inl t_faults_otherWords_a)), (h_t_faults_otherMasks, .inl (cI, n_t_faults_otherMasks, .inl t_faults_otherMasks_a))] := hD
      refine lv_goto (tgt := 146) hx hb d_Memory_settle_88 (by decide) ?_
      refine lv_iinc (v := (x1 + 1)) (lv' := [(1, .int (x1 + 1)), (3, .int (t_faults_victimMasks_a (Int32.toNatClampNeg x1))), (2, .int (t_faults_victimWords_a (Int32.toNatClampNeg x1))), (0, .ref h_t)]) hx hb d_Memory_settle_146 hl (k := 3) rfl rfl (by decide) rfl (fun ls hl => ?_)
      refine lv_goto (tgt := 2) hx hb d_Memory_settle_149 (by decide) ?_
      exact hrec2 ((upd t_held_a (Int32.toNatClampNeg (t_faults_victimWords_a (Int32.toNatClampNeg x1))) ((t_held_a (Int32.toNatClampNeg (t_faults_victimWords_a (Int32.toNatClampNeg x1)))) &&& ((t_faults_victimMasks_a (Int32.toNatClampNeg x1)) ^^^ (-1)))), (x1 + 1)) hf  H locs ls hP hD hS (lv_sub hl [3, 0] rfl)
    · have hf := ifF cs hf
      have cs0 := cs
      by_cases cs : (t_faults_kinds_a (Int32.toNatClampNeg x1)) = 1
      · have hf := ifT cs hf
        refine lv_lookup (off := 49) (tgt := 91) hx hb d_Memory_settle_42 (by decide) (by rw [cs] <;> rfl) (by decide) ?_
        refine lv_aload_n hx hb d_Memory_settle_91 rfl (lv_at hl 2 rfl) ?_
        refine va_get (D := D) (ci := 5) (v := .ref h_t_held) (C := R_Memory) (T := F_Memory) (N := 5) hx hb hts i_Memory hown hK.1 hP 0 rfl rfl 2 (by decide) (hts _ w_25) (fun _ h9 => h9) rfl d_Memory_settle_92 ?_
        refine lv_iload_n hx hb d_Memory_settle_95 rfl (lv_at hl 1 rfl) ?_
        refine lv_dup2_11 hx hb d_Memory_settle_96 rfl rfl ?_
        obtain ⟨hin1, hf⟩ := ifG hf
        refine va_iald hx hb hK.1 hP 5 0 rfl rfl (inB_in hin1) d_Memory_settle_97 ?_
        refine lv_iload_n hx hb d_Memory_settle_98 rfl (lv_at hl 0 rfl) ?_
        refine lv_ior hx hb d_Memory_settle_99 ?_
        obtain ⟨hin1, hf⟩ := ifG hf
        refine va_iast hx hb hK.1 hP hD hS 5 0 rfl rfl (inB_in hin1) d_Memory_settle_100 (fun H locs hP hD hS => ?_)
        have hP : va_P D classes [(h_t, .inr (5, [v_t_words, v_t_bits, .ref h_t_held, .ref h_t_faults, v_t_latest])), (h_t_faults, .inr (3, [.ref h_t_faults_kinds, .ref h_t_faults_victimWords, .ref h_t_faults_victimMasks, .ref h_t_faults_otherWords, .ref h_t_faults_otherMasks, .int t_faults_count, v_t_faults_touchedWords, v_t_faults_bits])), (h_t_faults_victimWords, .inl (cI, n_t_faults_victimWords, .inl t_faults_victimWords_a)), (h_t_faults_victimMasks, .inl (cI, n_t_faults_victimMasks, .inl t_faults_victimMasks_a)), (h_t_faults_kinds, .inl (cI, n_t_faults_kinds, .inl t_faults_kinds_a)), (h_t_held, .inl (cI, n_t_held, .inl (upd t_held_a (Int32.toNatClampNeg (t_faults_victimWords_a (Int32.toNatClampNeg x1))) ((t_held_a (Int32.toNatClampNeg (t_faults_victimWords_a (Int32.toNatClampNeg x1)))) ||| (t_faults_victimMasks_a (Int32.toNatClampNeg x1)))))), (h_t_faults_otherWords, .inl (cI, n_t_faults_otherWords, .inl t_faults_otherWords_a)), (h_t_faults_otherMasks, .inl (cI, n_t_faults_otherMasks, .inl t_faults_otherMasks_a))] H := hP
        have hD : va_D A [(h_t, .inr (5, [v_t_words, v_t_bits, .ref h_t_held, .ref h_t_faults, v_t_latest])), (h_t_faults, .inr (3, [.ref h_t_faults_kinds, .ref h_t_faults_victimWords, .ref h_t_faults_victimMasks, .ref h_t_faults_otherWords, .ref h_t_faults_otherMasks, .int t_faults_count, v_t_faults_touchedWords, v_t_faults_bits])), (h_t_faults_victimWords, .inl (cI, n_t_faults_victimWords, .inl t_faults_victimWords_a)), (h_t_faults_victimMasks, .inl (cI, n_t_faults_victimMasks, .inl t_faults_victimMasks_a)), (h_t_faults_kinds, .inl (cI, n_t_faults_kinds, .inl t_faults_kinds_a)), (h_t_held, .inl (cI, n_t_held, .inl (upd t_held_a (Int32.toNatClampNeg (t_faults_victimWords_a (Int32.toNatClampNeg x1))) ((t_held_a (Int32.toNatClampNeg (t_faults_victimWords_a (Int32.toNatClampNeg x1)))) ||| (t_faults_victimMasks_a (Int32.toNatClampNeg x1)))))), (h_t_faults_otherWords, .inl (cI, n_t_faults_otherWords, .inl t_faults_otherWords_a)), (h_t_faults_otherMasks, .inl (cI, n_t_faults_otherMasks, .inl t_faults_otherMasks_a))] := hD
        refine lv_goto (tgt := 146) hx hb d_Memory_settle_101 (by decide) ?_
        refine lv_iinc (v := (x1 + 1)) (lv' := [(1, .int (x1 + 1)), (3, .int (t_faults_victimMasks_a (Int32.toNatClampNeg x1))), (2, .int (t_faults_victimWords_a (Int32.toNatClampNeg x1))), (0, .ref h_t)]) hx hb d_Memory_settle_146 hl (k := 3) rfl rfl (by decide) rfl (fun ls hl => ?_)
        refine lv_goto (tgt := 2) hx hb d_Memory_settle_149 (by decide) ?_
        exact hrec2 ((upd t_held_a (Int32.toNatClampNeg (t_faults_victimWords_a (Int32.toNatClampNeg x1))) ((t_held_a (Int32.toNatClampNeg (t_faults_victimWords_a (Int32.toNatClampNeg x1)))) ||| (t_faults_victimMasks_a (Int32.toNatClampNeg x1)))), (x1 + 1)) hf  H locs ls hP hD hS (lv_sub hl [3, 0] rfl)
      · have hf := ifF cs hf
        have cs1 := cs
        by_cases cs : (t_faults_kinds_a (Int32.toNatClampNeg x1)) = 12
        · have hf := ifT cs hf
          refine lv_lookup (off := 62) (tgt := 104) hx hb d_Memory_settle_42 (by decide) (by rw [cs] <;> rfl) (by decide) ?_
          refine lv_aload_n hx hb d_Memory_settle_104 rfl (lv_at hl 2 rfl) ?_
          refine va_get (D := D) (ci := 5) (v := .ref h_t_held) (C := R_Memory) (T := F_Memory) (N := 5) hx hb hts i_Memory hown hK.1 hP 0 rfl rfl 2 (by decide) (hts _ w_25) (fun _ h9 => h9) rfl d_Memory_settle_105 ?_
          refine lv_aload_n hx hb d_Memory_settle_108 rfl (lv_at hl 2 rfl) ?_
          refine va_get (D := D) (ci := 5) (v := .ref h_t_faults) (C := R_Memory) (T := F_Memory) (N := 5) hx hb hts i_Memory hown hK.1 hP 0 rfl rfl 3 (by decide) (hts _ w_32) (fun _ h9 => h9) rfl d_Memory_settle_109 ?_
          refine va_get (D := D) (ci := 3) (v := .ref h_t_faults_otherWords) (C := R_FaultList) (T := F_FaultList) (N := 8) hx hb hts i_FaultList hown hK.1 hP 1 rfl rfl 3 (by decide) (hts _ w_211) (fun _ h9 => h9) rfl d_Memory_settle_112 ?_
          refine lv_iload_n hx hb d_Memory_settle_115 rfl (lv_at hl 3 rfl) ?_
          obtain ⟨hin1, hf⟩ := ifG hf
          refine va_iald hx hb hK.1 hP 6 0 rfl rfl (inB_in hin1) d_Memory_settle_116 ?_
          obtain ⟨hin1, hf⟩ := ifG hf
          refine va_iald hx hb hK.1 hP 5 0 rfl rfl (inB_in hin1) d_Memory_settle_117 ?_
          refine lv_aload_n hx hb d_Memory_settle_118 rfl (lv_at hl 2 rfl) ?_
          refine va_get (D := D) (ci := 5) (v := .ref h_t_faults) (C := R_Memory) (T := F_Memory) (N := 5) hx hb hts i_Memory hown hK.1 hP 0 rfl rfl 3 (by decide) (hts _ w_32) (fun _ h9 => h9) rfl d_Memory_settle_119 ?_
          refine va_get (D := D) (ci := 3) (v := .ref h_t_faults_otherMasks) (C := R_FaultList) (T := F_FaultList) (N := 8) hx hb hts i_FaultList hown hK.1 hP 1 rfl rfl 4 (by decide) (hts _ w_212) (fun _ h9 => h9) rfl d_Memory_settle_122 ?_
          refine lv_iload_n hx hb d_Memory_settle_125 rfl (lv_at hl 3 rfl) ?_
          obtain ⟨hin1, hf⟩ := ifG hf
          refine va_iald hx hb hK.1 hP 7 0 rfl rfl (inB_in hin1) d_Memory_settle_126 ?_
          refine lv_iand hx hb d_Memory_settle_127 ?_
          refine lv_if_eq (tgt := 146) hx hb d_Memory_settle_128 (by decide) (fun cc128 => ?_) (fun cc128 => ?_)
          · have hf := ifT cc128 hf
            refine lv_iinc (v := (x1 + 1)) (lv' := [(1, .int (x1 + 1)), (3, .int (t_faults_victimMasks_a (Int32.toNatClampNeg x1))), (2, .int (t_faults_victimWords_a (Int32.toNatClampNeg x1))), (0, .ref h_t)]) hx hb d_Memory_settle_146 hl (k := 3) rfl rfl (by decide) rfl (fun ls hl => ?_)
            refine lv_goto (tgt := 2) hx hb d_Memory_settle_149 (by decide) ?_
            exact hrec2 (t_held_a, (x1 + 1)) hf  H locs ls hP hD hS (lv_sub hl [3, 0] rfl)
          · have hf := ifF cc128 hf
            refine lv_aload_n hx hb d_Memory_settle_131 rfl (lv_at hl 2 rfl) ?_
            refine va_get (D := D) (ci := 5) (v := .ref h_t_held) (C := R_Memory) (T := F_Memory) (N := 5) hx hb hts i_Memory hown hK.1 hP 0 rfl rfl 2 (by decide) (hts _ w_25) (fun _ h9 => h9) rfl d_Memory_settle_132 ?_
            refine lv_iload_n hx hb d_Memory_settle_135 rfl (lv_at hl 1 rfl) ?_
            refine lv_dup2_11 hx hb d_Memory_settle_136 rfl rfl ?_
            obtain ⟨hin1, hf⟩ := ifG hf
            refine va_iald hx hb hK.1 hP 5 0 rfl rfl (inB_in hin1) d_Memory_settle_137 ?_
            refine lv_iload_n hx hb d_Memory_settle_138 rfl (lv_at hl 0 rfl) ?_
            refine lv_iconst (v := (-1)) hx hb d_Memory_settle_139 (by decide) ?_
            refine lv_ixor hx hb d_Memory_settle_140 ?_
            refine lv_iand hx hb d_Memory_settle_141 ?_
            obtain ⟨hin1, hf⟩ := ifG hf
            refine va_iast hx hb hK.1 hP hD hS 5 0 rfl rfl (inB_in hin1) d_Memory_settle_142 (fun H locs hP hD hS => ?_)
            have hP : va_P D classes [(h_t, .inr (5, [v_t_words, v_t_bits, .ref h_t_held, .ref h_t_faults, v_t_latest])), (h_t_faults, .inr (3, [.ref h_t_faults_kinds, .ref h_t_faults_victimWords, .ref h_t_faults_victimMasks, .ref h_t_faults_otherWords, .ref h_t_faults_otherMasks, .int t_faults_count, v_t_faults_touchedWords, v_t_faults_bits])), (h_t_faults_victimWords, .inl (cI, n_t_faults_victimWords, .inl t_faults_victimWords_a)), (h_t_faults_victimMasks, .inl (cI, n_t_faults_victimMasks, .inl t_faults_victimMasks_a)), (h_t_faults_kinds, .inl (cI, n_t_faults_kinds, .inl t_faults_kinds_a)), (h_t_held, .inl (cI, n_t_held, .inl (upd t_held_a (Int32.toNatClampNeg (t_faults_victimWords_a (Int32.toNatClampNeg x1))) ((t_held_a (Int32.toNatClampNeg (t_faults_victimWords_a (Int32.toNatClampNeg x1)))) &&& ((t_faults_victimMasks_a (Int32.toNatClampNeg x1)) ^^^ (-1)))))), (h_t_faults_otherWords, .inl (cI, n_t_faults_otherWords, .inl t_faults_otherWords_a)), (h_t_faults_otherMasks, .inl (cI, n_t_faults_otherMasks, .inl t_faults_otherMasks_a))] H := hP
            have hD : va_D A [(h_t, .inr (5, [v_t_words, v_t_bits, .ref h_t_held, .ref h_t_faults, v_t_latest])), (h_t_faults, .inr (3, [.ref h_t_faults_kinds, .ref h_t_faults_victimWords, .ref h_t_faults_victimMasks, .ref h_t_faults_otherWords, .ref h_t_faults_otherMasks, .int t_faults_count, v_t_faults_touchedWords, v_t_faults_bits])), (h_t_faults_victimWords, .inl (cI, n_t_faults_victimWords, .inl t_faults_victimWords_a)), (h_t_faults_victimMasks, .inl (cI, n_t_faults_victimMasks, .inl t_faults_victimMasks_a)), (h_t_faults_kinds, .inl (cI, n_t_faults_kinds, .inl t_faults_kinds_a)), (h_t_held, .inl (cI, n_t_held, .inl (upd t_held_a (Int32.toNatClampNeg (t_faults_victimWords_a (Int32.toNatClampNeg x1))) ((t_held_a (Int32.toNatClampNeg (t_faults_victimWords_a (Int32.toNatClampNeg x1)))) &&& ((t_faults_victimMasks_a (Int32.toNatClampNeg x1)) ^^^ (-1)))))), (h_t_faults_otherWords, .inl (cI, n_t_faults_otherWords, .inl t_faults_otherWords_a)), (h_t_faults_otherMasks, .inl (cI, n_t_faults_otherMasks, .inl t_faults_otherMasks_a))] := hD
            refine lv_goto (tgt := 146) hx hb d_Memory_settle_143 (by decide) ?_
            refine lv_iinc (v := (x1 + 1)) (lv' := [(1, .int (x1 + 1)), (3, .int (t_faults_victimMasks_a (Int32.toNatClampNeg x1))), (2, .int (t_faults_victimWords_a (Int32.toNatClampNeg x1))), (0, .ref h_t)]) hx hb d_Memory_settle_146 hl (k := 3) rfl rfl (by decide) rfl (fun ls hl => ?_)
            refine lv_goto (tgt := 2) hx hb d_Memory_settle_149 (by decide) ?_
            exact hrec2 ((upd t_held_a (Int32.toNatClampNeg (t_faults_victimWords_a (Int32.toNatClampNeg x1))) ((t_held_a (Int32.toNatClampNeg (t_faults_victimWords_a (Int32.toNatClampNeg x1)))) &&& ((t_faults_victimMasks_a (Int32.toNatClampNeg x1)) ^^^ (-1)))), (x1 + 1)) hf  H locs ls hP hD hS (lv_sub hl [3, 0] rfl)
        · have hf := ifF cs hf
          have cs2 := cs
          refine lv_lookup (off := 104) (tgt := 146) hx hb d_Memory_settle_42 (by decide) (by show Op.lookupswitch.offset _ _ _ = _; rw [lv_osw (k := 0) cs0 (by decide), lv_osw (k := 1) cs1 (by decide), lv_osw (k := 12) cs2 (by decide)] <;> rfl) (by decide) ?_
          refine lv_iinc (v := (x1 + 1)) (lv' := [(1, .int (x1 + 1)), (3, .int (t_faults_victimMasks_a (Int32.toNatClampNeg x1))), (2, .int (t_faults_victimWords_a (Int32.toNatClampNeg x1))), (0, .ref h_t)]) hx hb d_Memory_settle_146 hl (k := 3) rfl rfl (by decide) rfl (fun ls hl => ?_)
          refine lv_goto (tgt := 2) hx hb d_Memory_settle_149 (by decide) ?_
          exact hrec2 (t_held_a, (x1 + 1)) hf  H locs ls hP hD hS (lv_sub hl [3, 0] rfl)
set_option maxHeartbeats 4000000 in
set_option maxRecDepth 100000 in
theorem k_Memory_settle_2 {p : Program} {l : Launch} {e : Env} {s : State} {m : MethodId} {args : Array Value} {below : List Frame} {meth : Method} {c : Code} {D : va_G} {cI cB cJ : ClassId} {A : Nat → Prop} (C0 : CX p s m args meth c D [(cI, .int), (cB, .byte), (cJ, .long)] R_Memory b_Memory_settle 4 none "settle") (hA : ∀ q, s.heap.size ≤ q → A q) {h_t h_t_faults h_t_faults_victimWords h_t_faults_victimMasks h_t_faults_kinds h_t_held h_t_faults_otherWords h_t_faults_otherMasks : Nat} {v_t_words v_t_bits v_t_latest v_t_faults_touchedWords v_t_faults_bits : Value} {res : (Nat → Int32)} {n_t_faults_victimWords : Nat} {n_t_faults_victimMasks : Nat} {n_t_faults_kinds : Nat} {n_t_held : Nat} {n_t_faults_otherWords : Nat} {n_t_faults_otherMasks : Nat} {t_faults_count : Int32} {t_faults_victimWords_a : Nat → Int32} {t_faults_victimMasks_a : Nat → Int32} {t_faults_kinds_a : Nat → Int32} {t_faults_otherWords_a : Nat → Int32} {t_faults_otherMasks_a : Nat → Int32}
    : ∀ (n : Nat) (st : ((Nat → Int32) × Int32)), lp (g_Memory_settle_2 n_t_faults_victimWords n_t_faults_victimMasks n_t_faults_kinds n_t_held n_t_faults_otherWords n_t_faults_otherMasks t_faults_count t_faults_victimWords_a t_faults_victimMasks_a t_faults_kinds_a t_faults_otherWords_a t_faults_otherMasks_a) n st = some res → ∀  (H : Heap) (locs : List Loc) (ls : Array Slot), va_P D classes [(h_t, .inr (5, [v_t_words, v_t_bits, .ref h_t_held, .ref h_t_faults, v_t_latest])), (h_t_faults, .inr (3, [.ref h_t_faults_kinds, .ref h_t_faults_victimWords, .ref h_t_faults_victimMasks, .ref h_t_faults_otherWords, .ref h_t_faults_otherMasks, .int t_faults_count, v_t_faults_touchedWords, v_t_faults_bits])), (h_t_faults_victimWords, .inl (cI, n_t_faults_victimWords, .inl t_faults_victimWords_a)), (h_t_faults_victimMasks, .inl (cI, n_t_faults_victimMasks, .inl t_faults_victimMasks_a)), (h_t_faults_kinds, .inl (cI, n_t_faults_kinds, .inl t_faults_kinds_a)), (h_t_held, .inl (cI, n_t_held, .inl st.1)), (h_t_faults_otherWords, .inl (cI, n_t_faults_otherWords, .inl t_faults_otherWords_a)), (h_t_faults_otherMasks, .inl (cI, n_t_faults_otherMasks, .inl t_faults_otherMasks_a))] H → va_D A [(h_t, .inr (5, [v_t_words, v_t_bits, .ref h_t_held, .ref h_t_faults, v_t_latest])), (h_t_faults, .inr (3, [.ref h_t_faults_kinds, .ref h_t_faults_victimWords, .ref h_t_faults_victimMasks, .ref h_t_faults_otherWords, .ref h_t_faults_otherMasks, .int t_faults_count, v_t_faults_touchedWords, v_t_faults_bits])), (h_t_faults_victimWords, .inl (cI, n_t_faults_victimWords, .inl t_faults_victimWords_a)), (h_t_faults_victimMasks, .inl (cI, n_t_faults_victimMasks, .inl t_faults_victimMasks_a)), (h_t_faults_kinds, .inl (cI, n_t_faults_kinds, .inl t_faults_kinds_a)), (h_t_held, .inl (cI, n_t_held, .inl st.1)), (h_t_faults_otherWords, .inl (cI, n_t_faults_otherWords, .inl t_faults_otherWords_a)), (h_t_faults_otherMasks, .inl (cI, n_t_faults_otherMasks, .inl t_faults_otherMasks_a))] → va_S A s.heap H locs → lv_has ls 4 [(0, .ref h_t), (1, .int st.2)] → W p l e rm_Memory_settle s m args below meth c H locs 0 0 (MQ below (QW D (post_Memory_settle h_t h_t_faults h_t_faults_victimWords h_t_faults_victimMasks h_t_faults_kinds h_t_held h_t_faults_otherWords h_t_faults_otherMasks v_t_words v_t_bits v_t_latest v_t_faults_touchedWords v_t_faults_bits n_t_faults_victimWords n_t_faults_victimMasks n_t_faults_kinds n_t_held n_t_faults_otherWords n_t_faults_otherMasks t_faults_count t_faults_victimWords_a t_faults_victimMasks_a t_faults_kinds_a t_faults_otherWords_a t_faults_otherMasks_a cI cB cJ res) A) args s 0 0 A) (F0 m 2 ls []) := by
  intro n
  induction n with
  | zero => intro st hf; exact absurd hf (by simp [lp])
  | succ n ih =>
    intro st hf  H locs ls hP hD hS hl
    exact kb_Memory_settle_2 C0 hA (rec2 := lp (g_Memory_settle_2 n_t_faults_victimWords n_t_faults_victimMasks n_t_faults_kinds n_t_held n_t_faults_otherWords n_t_faults_otherMasks t_faults_count t_faults_victimWords_a t_faults_victimMasks_a t_faults_kinds_a t_faults_otherWords_a t_faults_otherMasks_a) n) (t_held_a := st.1) (x1 := st.2)  (fun st hf  H locs ls hP hD hS hl => ih st hf  H locs ls hP hD hS hl) hf hP hD hS hl
set_option maxHeartbeats 4000000 in
set_option maxRecDepth 100000 in
theorem c_Memory_settle (l : Launch) (D : va_G) (cI cB cJ : ClassId) (h_t h_t_faults h_t_faults_victimWords h_t_faults_victimMasks h_t_faults_kinds h_t_held h_t_faults_otherWords h_t_faults_otherMasks : Nat) (v_t_words v_t_bits v_t_latest v_t_faults_touchedWords v_t_faults_bits : Value) (n_t_faults_victimWords : Nat) (n_t_faults_victimMasks : Nat) (n_t_faults_kinds : Nat) (n_t_held : Nat) (n_t_faults_otherWords : Nat) (n_t_faults_otherMasks : Nat) (t_faults_count : Int32) (t_faults_victimWords_a : Nat → Int32) (t_faults_victimMasks_a : Nat → Int32) (t_faults_kinds_a : Nat → Int32) (t_held_a : Nat → Int32) (t_faults_otherWords_a : Nat → Int32) (t_faults_otherMasks_a : Nat → Int32) (sz : Nat) (res : (Nat → Int32)) (hf : f_Memory_settle n_t_faults_victimWords n_t_faults_victimMasks n_t_faults_kinds n_t_held n_t_faults_otherWords n_t_faults_otherMasks t_faults_count t_faults_victimWords_a t_faults_victimMasks_a t_faults_kinds_a t_held_a t_faults_otherWords_a t_faults_otherMasks_a = some res) : Met l y_Memory_settle (.code y_Memory_settle b_Memory_settle 4 none :: TB) rm_Memory_settle (PcW D [(cI, .int), (cB, .byte), (cJ, .long)] [.ref h_t] [(h_t, .inr (5, [v_t_words, v_t_bits, .ref h_t_held, .ref h_t_faults, v_t_latest])), (h_t_faults, .inr (3, [.ref h_t_faults_kinds, .ref h_t_faults_victimWords, .ref h_t_faults_victimMasks, .ref h_t_faults_otherWords, .ref h_t_faults_otherMasks, .int t_faults_count, v_t_faults_touchedWords, v_t_faults_bits])), (h_t_faults_victimWords, .inl (cI, n_t_faults_victimWords, .inl t_faults_victimWords_a)), (h_t_faults_victimMasks, .inl (cI, n_t_faults_victimMasks, .inl t_faults_victimMasks_a)), (h_t_faults_kinds, .inl (cI, n_t_faults_kinds, .inl t_faults_kinds_a)), (h_t_held, .inl (cI, n_t_held, .inl t_held_a)), (h_t_faults_otherWords, .inl (cI, n_t_faults_otherWords, .inl t_faults_otherWords_a)), (h_t_faults_otherMasks, .inl (cI, n_t_faults_otherMasks, .inl t_faults_otherMasks_a))] sz) (QW D (post_Memory_settle h_t h_t_faults h_t_faults_victimWords h_t_faults_victimMasks h_t_faults_kinds h_t_held h_t_faults_otherWords h_t_faults_otherMasks v_t_words v_t_bits v_t_latest v_t_faults_touchedWords v_t_faults_bits n_t_faults_victimWords n_t_faults_victimMasks n_t_faults_kinds n_t_held n_t_faults_otherWords n_t_faults_otherMasks t_faults_count t_faults_victimWords_a t_faults_victimMasks_a t_faults_kinds_a t_faults_otherWords_a t_faults_otherMasks_a cI cB cJ res) (va_A [(h_t, .inr (5, [v_t_words, v_t_bits, .ref h_t_held, .ref h_t_faults, v_t_latest])), (h_t_faults, .inr (3, [.ref h_t_faults_kinds, .ref h_t_faults_victimWords, .ref h_t_faults_victimMasks, .ref h_t_faults_otherWords, .ref h_t_faults_otherMasks, .int t_faults_count, v_t_faults_touchedWords, v_t_faults_bits])), (h_t_faults_victimWords, .inl (cI, n_t_faults_victimWords, .inl t_faults_victimWords_a)), (h_t_faults_victimMasks, .inl (cI, n_t_faults_victimMasks, .inl t_faults_victimMasks_a)), (h_t_faults_kinds, .inl (cI, n_t_faults_kinds, .inl t_faults_kinds_a)), (h_t_held, .inl (cI, n_t_held, .inl t_held_a)), (h_t_faults_otherWords, .inl (cI, n_t_faults_otherWords, .inl t_faults_otherWords_a)), (h_t_faults_otherMasks, .inl (cI, n_t_faults_otherMasks, .inl t_faults_otherMasks_a))] sz)) 0 0 (va_A [(h_t, .inr (5, [v_t_words, v_t_bits, .ref h_t_held, .ref h_t_faults, v_t_latest])), (h_t_faults, .inr (3, [.ref h_t_faults_kinds, .ref h_t_faults_victimWords, .ref h_t_faults_victimMasks, .ref h_t_faults_otherWords, .ref h_t_faults_otherMasks, .int t_faults_count, v_t_faults_touchedWords, v_t_faults_bits])), (h_t_faults_victimWords, .inl (cI, n_t_faults_victimWords, .inl t_faults_victimWords_a)), (h_t_faults_victimMasks, .inl (cI, n_t_faults_victimMasks, .inl t_faults_victimMasks_a)), (h_t_faults_kinds, .inl (cI, n_t_faults_kinds, .inl t_faults_kinds_a)), (h_t_held, .inl (cI, n_t_held, .inl t_held_a)), (h_t_faults_otherWords, .inl (cI, n_t_faults_otherWords, .inl t_faults_otherWords_a)), (h_t_faults_otherMasks, .inl (cI, n_t_faults_otherMasks, .inl t_faults_otherMasks_a))] sz) := by
  refine entW ⟨by decide +kernel, rfl⟩ fun p e s m below meth c C0 hP hD hsz ls hl => ?_
  subst hsz
  generalize hAe : va_A [(h_t, .inr (5, [v_t_words, v_t_bits, .ref h_t_held, .ref h_t_faults, v_t_latest])), (h_t_faults, .inr (3, [.ref h_t_faults_kinds, .ref h_t_faults_victimWords, .ref h_t_faults_victimMasks, .ref h_t_faults_otherWords, .ref h_t_faults_otherMasks, .int t_faults_count, v_t_faults_touchedWords, v_t_faults_bits])), (h_t_faults_victimWords, .inl (cI, n_t_faults_victimWords, .inl t_faults_victimWords_a)), (h_t_faults_victimMasks, .inl (cI, n_t_faults_victimMasks, .inl t_faults_victimMasks_a)), (h_t_faults_kinds, .inl (cI, n_t_faults_kinds, .inl t_faults_kinds_a)), (h_t_held, .inl (cI, n_t_held, .inl t_held_a)), (h_t_faults_otherWords, .inl (cI, n_t_faults_otherWords, .inl t_faults_otherWords_a)), (h_t_faults_otherMasks, .inl (cI, n_t_faults_otherMasks, .inl t_faults_otherMasks_a))] s.heap.size = A at hD ⊢
  have hA : ∀ q : Nat, s.heap.size ≤ q → A q := fun q h => by rw [← hAe]; exact Or.inr h
  clear hAe
  have hS : va_S A s.heap s.heap [] := va_S.rf
  have hl : lv_has ls 4 [(0, .ref h_t)] := hl
  obtain ⟨hx, hb, hml, hr, hlocks, hts, hown, hK, hin⟩ := id C0
  have hf : (((
  (lp (g_Memory_settle_2 n_t_faults_victimWords n_t_faults_victimMasks n_t_faults_kinds n_t_held n_t_faults_otherWords n_t_faults_otherMasks t_faults_count t_faults_victimWords_a t_faults_victimMasks_a t_faults_kinds_a t_faults_otherWords_a t_faults_otherMasks_a) 100000 (t_held_a, 0)))) : Option ((Nat → Int32))) = some res := hf
  obtain ⟨H, hH⟩ : ∃ H, H = s.heap := ⟨_, rfl⟩
  obtain ⟨locs, hlo⟩ : ∃ x : List Loc, x = [] := ⟨_, rfl⟩
  rw [← hlo] at hS ⊢
  have hP : va_P D classes [(h_t, .inr (5, [v_t_words, v_t_bits, .ref h_t_held, .ref h_t_faults, v_t_latest])), (h_t_faults, .inr (3, [.ref h_t_faults_kinds, .ref h_t_faults_victimWords, .ref h_t_faults_victimMasks, .ref h_t_faults_otherWords, .ref h_t_faults_otherMasks, .int t_faults_count, v_t_faults_touchedWords, v_t_faults_bits])), (h_t_faults_victimWords, .inl (cI, n_t_faults_victimWords, .inl t_faults_victimWords_a)), (h_t_faults_victimMasks, .inl (cI, n_t_faults_victimMasks, .inl t_faults_victimMasks_a)), (h_t_faults_kinds, .inl (cI, n_t_faults_kinds, .inl t_faults_kinds_a)), (h_t_held, .inl (cI, n_t_held, .inl t_held_a)), (h_t_faults_otherWords, .inl (cI, n_t_faults_otherWords, .inl t_faults_otherWords_a)), (h_t_faults_otherMasks, .inl (cI, n_t_faults_otherMasks, .inl t_faults_otherMasks_a))] H := by rw [hH]; exact hP
  have hS : va_S A s.heap H locs := by rw [hH]; exact hS
  show W p l e rm_Memory_settle s m _ below meth c s.heap locs 0 0 (MQ below (QW D (post_Memory_settle h_t h_t_faults h_t_faults_victimWords h_t_faults_victimMasks h_t_faults_kinds h_t_held h_t_faults_otherWords h_t_faults_otherMasks v_t_words v_t_bits v_t_latest v_t_faults_touchedWords v_t_faults_bits n_t_faults_victimWords n_t_faults_victimMasks n_t_faults_kinds n_t_held n_t_faults_otherWords n_t_faults_otherMasks t_faults_count t_faults_victimWords_a t_faults_victimMasks_a t_faults_kinds_a t_faults_otherWords_a t_faults_otherMasks_a cI cB cJ res) A) _ s 0 0 A) (F0 m 0 ls [])
  refine wheap hH ?_
  clear hH hlo
  refine lv_iconst (v := 0) hx hb d_Memory_settle_0 (by decide) ?_
  refine lv_istore_n (lv' := [(1, .int 0), (0, .ref h_t)]) hx hb d_Memory_settle_1 rfl hl (by decide) rfl (fun ls hl => ?_)
  exact k_Memory_settle_2 (s := s) C0 hA _ (t_held_a, 0) hf  H locs ls hP hD hS (lv_sub hl [1, 0] rfl)
def g_Memory_begin_12 (n_a1_victimWords : Nat) (n_a1_victimMasks : Nat) (n_a1_kinds : Nat) (n_t_held : Nat) (n_a1_otherWords : Nat) (n_a1_otherMasks : Nat) (t_words : Int32) (t_latest : Int32) (a1_count : Int32) (a1_victimWords_a : Nat → Int32) (a1_victimMasks_a : Nat → Int32) (a1_kinds_a : Nat → Int32) (a1_otherWords_a : Nat → Int32) (a1_otherMasks_a : Nat → Int32) (rec12 : ((Nat → Int32) × Int32) → Option (Int32 × (Nat → Int32))) (st : ((Nat → Int32) × Int32)) : Option (Int32 × (Nat → Int32)) :=
  (if t_words ≤ st.2 then
    (Option.bind (f_Memory_settle n_a1_victimWords n_a1_victimMasks n_a1_kinds n_t_held n_a1_otherWords n_a1_otherMasks a1_count a1_victimWords_a a1_victimMasks_a a1_kinds_a st.1 a1_otherWords_a a1_otherMasks_a) fun q34_1 =>
    some (t_latest, q34_1))
  else
    (if inB st.2 n_t_held = true then
    (rec12 ((upd st.1 (Int32.toNatClampNeg st.2) 0), (st.2 + 1)))
    else none))
def f_Memory_begin (n_a1_victimWords : Nat) (n_a1_victimMasks : Nat) (n_a1_kinds : Nat) (n_t_held : Nat) (n_a1_otherWords : Nat) (n_a1_otherMasks : Nat) (t_words : Int32) (a1_count : Int32) (a1_victimWords_a : Nat → Int32) (a1_victimMasks_a : Nat → Int32) (a1_kinds_a : Nat → Int32) (t_held_a : Nat → Int32) (a1_otherWords_a : Nat → Int32) (a1_otherMasks_a : Nat → Int32) : Option (Int32 × (Nat → Int32)) :=
  (lp (g_Memory_begin_12 n_a1_victimWords n_a1_victimMasks n_a1_kinds n_t_held n_a1_otherWords n_a1_otherMasks t_words 0 a1_count a1_victimWords_a a1_victimMasks_a a1_kinds_a a1_otherWords_a a1_otherMasks_a) 100000 (t_held_a, 0))
def post_Memory_begin (h_t h_a1 h_a1_victimWords h_a1_victimMasks h_a1_kinds h_t_held h_a1_otherWords h_a1_otherMasks : Nat) (v_t_bits v_t_faults v_a1_touchedWords v_a1_bits : Value) (n_a1_victimWords : Nat) (n_a1_victimMasks : Nat) (n_a1_kinds : Nat) (n_t_held : Nat) (n_a1_otherWords : Nat) (n_a1_otherMasks : Nat) (t_words : Int32) (a1_count : Int32) (a1_victimWords_a : Nat → Int32) (a1_victimMasks_a : Nat → Int32) (a1_kinds_a : Nat → Int32) (a1_otherWords_a : Nat → Int32) (a1_otherMasks_a : Nat → Int32) (cI cB cJ : ClassId) (res : Int32 × (Nat → Int32)) : Option Value → va_W → Prop := fun o ws' => o = none ∧ ws' = [(h_t, .inr (5, [.int t_words, v_t_bits, .ref h_t_held, .ref h_a1, .int res.1])), (h_a1, .inr (3, [.ref h_a1_kinds, .ref h_a1_victimWords, .ref h_a1_victimMasks, .ref h_a1_otherWords, .ref h_a1_otherMasks, .int a1_count, v_a1_touchedWords, v_a1_bits])), (h_a1_victimWords, .inl (cI, n_a1_victimWords, .inl a1_victimWords_a)), (h_a1_victimMasks, .inl (cI, n_a1_victimMasks, .inl a1_victimMasks_a)), (h_a1_kinds, .inl (cI, n_a1_kinds, .inl a1_kinds_a)), (h_t_held, .inl (cI, n_t_held, .inl res.2)), (h_a1_otherWords, .inl (cI, n_a1_otherWords, .inl a1_otherWords_a)), (h_a1_otherMasks, .inl (cI, n_a1_otherMasks, .inl a1_otherMasks_a))]
abbrev rm_Memory_begin : Room := { frames := 1, cells := 0, slots := 0, locals := 23 }
set_option maxHeartbeats 4000000 in
set_option maxRecDepth 100000 in
theorem kb_Memory_begin_12 {p : Program} {l : Launch} {e : Env} {s : State} {m : MethodId} {args : Array Value} {below : List Frame} {meth : Method} {c : Code} {D : va_G} {cI cB cJ : ClassId} {A : Nat → Prop} (C0 : CX p s m args meth c D [(cI, .int), (cB, .byte), (cJ, .long)] R_Memory b_Memory_begin 3 none "begin") (hA : ∀ q, s.heap.size ≤ q → A q) {h_t h_a1 h_a1_victimWords h_a1_victimMasks h_a1_kinds h_t_held h_a1_otherWords h_a1_otherMasks : Nat} {v_t_bits v_t_faults v_a1_touchedWords v_a1_bits : Value} {res : Int32 × (Nat → Int32)} {rec12 : ((Nat → Int32) × Int32) → Option (Int32 × (Nat → Int32))} {n_a1_victimWords : Nat} {n_a1_victimMasks : Nat} {n_a1_kinds : Nat} {n_t_held : Nat} {n_a1_otherWords : Nat} {n_a1_otherMasks : Nat} {t_words : Int32} {t_latest : Int32} {a1_count : Int32} {a1_victimWords_a : Nat → Int32} {a1_victimMasks_a : Nat → Int32} {a1_kinds_a : Nat → Int32} {t_held_a : Nat → Int32} {a1_otherWords_a : Nat → Int32} {a1_otherMasks_a : Nat → Int32} {x2 : Int32}
    (hrec12 : ∀ (st : ((Nat → Int32) × Int32)), rec12 st = some res → ∀  (H : Heap) (locs : List Loc) (ls : Array Slot), va_P D classes [(h_t, .inr (5, [.int t_words, v_t_bits, .ref h_t_held, .ref h_a1, .int t_latest])), (h_a1, .inr (3, [.ref h_a1_kinds, .ref h_a1_victimWords, .ref h_a1_victimMasks, .ref h_a1_otherWords, .ref h_a1_otherMasks, .int a1_count, v_a1_touchedWords, v_a1_bits])), (h_a1_victimWords, .inl (cI, n_a1_victimWords, .inl a1_victimWords_a)), (h_a1_victimMasks, .inl (cI, n_a1_victimMasks, .inl a1_victimMasks_a)), (h_a1_kinds, .inl (cI, n_a1_kinds, .inl a1_kinds_a)), (h_t_held, .inl (cI, n_t_held, .inl st.1)), (h_a1_otherWords, .inl (cI, n_a1_otherWords, .inl a1_otherWords_a)), (h_a1_otherMasks, .inl (cI, n_a1_otherMasks, .inl a1_otherMasks_a))] H → va_D A [(h_t, .inr (5, [.int t_words, v_t_bits, .ref h_t_held, .ref h_a1, .int t_latest])), (h_a1, .inr (3, [.ref h_a1_kinds, .ref h_a1_victimWords, .ref h_a1_victimMasks, .ref h_a1_otherWords, .ref h_a1_otherMasks, .int a1_count, v_a1_touchedWords, v_a1_bits])), (h_a1_victimWords, .inl (cI, n_a1_victimWords, .inl a1_victimWords_a)), (h_a1_victimMasks, .inl (cI, n_a1_victimMasks, .inl a1_victimMasks_a)), (h_a1_kinds, .inl (cI, n_a1_kinds, .inl a1_kinds_a)), (h_t_held, .inl (cI, n_t_held, .inl st.1)), (h_a1_otherWords, .inl (cI, n_a1_otherWords, .inl a1_otherWords_a)), (h_a1_otherMasks, .inl (cI, n_a1_otherMasks, .inl a1_otherMasks_a))] → va_S A s.heap H locs → lv_has ls 3 [(0, .ref h_t), (2, .int st.2)] → W p l e rm_Memory_begin s m args below meth c H locs 0 0 (MQ below (QW D (post_Memory_begin h_t h_a1 h_a1_victimWords h_a1_victimMasks h_a1_kinds h_t_held h_a1_otherWords h_a1_otherMasks v_t_bits v_t_faults v_a1_touchedWords v_a1_bits n_a1_victimWords n_a1_victimMasks n_a1_kinds n_t_held n_a1_otherWords n_a1_otherMasks t_words a1_count a1_victimWords_a a1_victimMasks_a a1_kinds_a a1_otherWords_a a1_otherMasks_a cI cB cJ res) A) args s 0 0 A) (F0 m 12 ls []))
    (hf : g_Memory_begin_12 n_a1_victimWords n_a1_victimMasks n_a1_kinds n_t_held n_a1_otherWords n_a1_otherMasks t_words t_latest a1_count a1_victimWords_a a1_victimMasks_a a1_kinds_a a1_otherWords_a a1_otherMasks_a rec12 (t_held_a, x2) = some res) {H : Heap} {locs : List Loc} {ls : Array Slot} (hP : va_P D classes [(h_t, .inr (5, [.int t_words, v_t_bits, .ref h_t_held, .ref h_a1, .int t_latest])), (h_a1, .inr (3, [.ref h_a1_kinds, .ref h_a1_victimWords, .ref h_a1_victimMasks, .ref h_a1_otherWords, .ref h_a1_otherMasks, .int a1_count, v_a1_touchedWords, v_a1_bits])), (h_a1_victimWords, .inl (cI, n_a1_victimWords, .inl a1_victimWords_a)), (h_a1_victimMasks, .inl (cI, n_a1_victimMasks, .inl a1_victimMasks_a)), (h_a1_kinds, .inl (cI, n_a1_kinds, .inl a1_kinds_a)), (h_t_held, .inl (cI, n_t_held, .inl t_held_a)), (h_a1_otherWords, .inl (cI, n_a1_otherWords, .inl a1_otherWords_a)), (h_a1_otherMasks, .inl (cI, n_a1_otherMasks, .inl a1_otherMasks_a))] H) (hD : va_D A [(h_t, .inr (5, [.int t_words, v_t_bits, .ref h_t_held, .ref h_a1, .int t_latest])), (h_a1, .inr (3, [.ref h_a1_kinds, .ref h_a1_victimWords, .ref h_a1_victimMasks, .ref h_a1_otherWords, .ref h_a1_otherMasks, .int a1_count, v_a1_touchedWords, v_a1_bits])), (h_a1_victimWords, .inl (cI, n_a1_victimWords, .inl a1_victimWords_a)), (h_a1_victimMasks, .inl (cI, n_a1_victimMasks, .inl a1_victimMasks_a)), (h_a1_kinds, .inl (cI, n_a1_kinds, .inl a1_kinds_a)), (h_t_held, .inl (cI, n_t_held, .inl t_held_a)), (h_a1_otherWords, .inl (cI, n_a1_otherWords, .inl a1_otherWords_a)), (h_a1_otherMasks, .inl (cI, n_a1_otherMasks, .inl a1_otherMasks_a))]) (hS : va_S A s.heap H locs) (hl : lv_has ls 3 [(0, .ref h_t), (2, .int x2)]) : W p l e rm_Memory_begin s m args below meth c H locs 0 0 (MQ below (QW D (post_Memory_begin h_t h_a1 h_a1_victimWords h_a1_victimMasks h_a1_kinds h_t_held h_a1_otherWords h_a1_otherMasks v_t_bits v_t_faults v_a1_touchedWords v_a1_bits n_a1_victimWords n_a1_victimMasks n_a1_kinds n_t_held n_a1_otherWords n_a1_otherMasks t_words a1_count a1_victimWords_a a1_victimMasks_a a1_kinds_a a1_otherWords_a a1_otherMasks_a cI cB cJ res) A) args s 0 0 A) (F0 m 12 ls []) := by
  obtain ⟨hx, hb, hml, hr, hlocks, hts, hown, hK, hin⟩ := id C0
  have hf : (((
  (if t_words ≤ x2 then
    (Option.bind (f_Memory_settle n_a1_victimWords n_a1_victimMasks n_a1_kinds n_t_held n_a1_otherWords n_a1_otherMasks a1_count a1_victimWords_a a1_victimMasks_a a1_kinds_a t_held_a a1_otherWords_a a1_otherMasks_a) fun q34_1 =>
    some (t_latest, q34_1))
  else
    (if inB x2 n_t_held = true then
    (rec12 ((upd t_held_a (Int32.toNatClampNeg x2) 0), (x2 + 1)))
    else none)))) : Option (Int32 × (Nat → Int32))) = some res := hf
  refine lv_iload_n hx hb d_Memory_begin_12 rfl (lv_at hl 1 rfl) ?_
  refine lv_aload_n hx hb d_Memory_begin_13 rfl (lv_at hl 0 rfl) ?_
  refine va_get (D := D) (ci := 5) (v := .int t_words) (C := R_Memory) (T := F_Memory) (N := 5) hx hb hts i_Memory hown hK.1 hP 0 rfl rfl 0 (by decide) (hts _ w_23) (fun _ h9 => h9) rfl d_Memory_begin_14 ?_
  refine lv_icmp_ge (tgt := 33) hx hb d_Memory_begin_17 (by decide) (fun cc17 => ?_) (fun cc17 => ?_)
  · have hf := ifT cc17 hf
    refine lv_aload_n hx hb d_Memory_begin_33 rfl (lv_at hl 0 rfl) ?_
    obtain ⟨q34_1, hc, hf⟩ := bindS hf
    refine mcV (n := 0) (As := []) (rest := []) (wr := []) hx hb hml hown hts hK (c_Memory_settle (l := l) (D := D) (cI := cI) (cB := cB) (cJ := cJ) (h_t := h_t) (h_t_faults := h_a1) (h_t_faults_victimWords := h_a1_victimWords) (h_t_faults_victimMasks := h_a1_victimMasks) (h_t_faults_kinds := h_a1_kinds) (h_t_held := h_t_held) (h_t_faults_otherWords := h_a1_otherWords) (h_t_faults_otherMasks := h_a1_otherMasks) (v_t_words := (.int t_words)) (v_t_bits := v_t_bits) (v_t_latest := (.int t_latest)) (v_t_faults_touchedWords := v_a1_touchedWords) (v_t_faults_bits := v_a1_bits) (n_t_faults_victimWords := n_a1_victimWords) (n_t_faults_victimMasks := n_a1_victimMasks) (n_t_faults_kinds := n_a1_kinds) (n_t_held := n_t_held) (n_t_faults_otherWords := n_a1_otherWords) (n_t_faults_otherMasks := n_a1_otherMasks) (t_faults_count := a1_count) (t_faults_victimWords_a := a1_victimWords_a) (t_faults_victimMasks_a := a1_victimMasks_a) (t_faults_kinds_a := a1_kinds_a) (t_held_a := t_held_a) (t_faults_otherWords_a := a1_otherWords_a) (t_faults_otherMasks_a := a1_otherMasks_a) (sz := H.size) (res := q34_1) (hf := hc)) w_214 w_215 w_216 w_41 w_217 (by decide +kernel) rfl rfl ⟨Nat.le_of_ble_eq_true rfl, Nat.le_of_ble_eq_true rfl⟩ hP hD hS hA [0, 1, 2, 3, 4, 5, 6, 7] [] rfl rfl (by decide) (by decide) (by decide) (ci := 5) 0 rfl rfl hl.1 rfl rfl (lv_room (Nat.le_of_ble_eq_true rfl)) d_Memory_begin_34 ⟨Nat.le_of_ble_eq_true rfl, Nat.le_of_ble_eq_true rfl⟩ (fun o ws' H locs hp hP hD hS => ?_)
    obtain ⟨rfl, rfl⟩ := hp
    have hP : va_P D classes [(h_t, .inr (5, [.int t_words, v_t_bits, .ref h_t_held, .ref h_a1, .int t_latest])), (h_a1, .inr (3, [.ref h_a1_kinds, .ref h_a1_victimWords, .ref h_a1_victimMasks, .ref h_a1_otherWords, .ref h_a1_otherMasks, .int a1_count, v_a1_touchedWords, v_a1_bits])), (h_a1_victimWords, .inl (cI, n_a1_victimWords, .inl a1_victimWords_a)), (h_a1_victimMasks, .inl (cI, n_a1_victimMasks, .inl a1_victimMasks_a)), (h_a1_kinds, .inl (cI, n_a1_kinds, .inl a1_kinds_a)), (h_t_held, .inl (cI, n_t_held, .inl q34_1)), (h_a1_otherWords, .inl (cI, n_a1_otherWords, .inl a1_otherWords_a)), (h_a1_otherMasks, .inl (cI, n_a1_otherMasks, .inl a1_otherMasks_a))] H := hP.sub [0, 1, 2, 3, 4, 5, 6, 7] rfl
    have hD : va_D A [(h_t, .inr (5, [.int t_words, v_t_bits, .ref h_t_held, .ref h_a1, .int t_latest])), (h_a1, .inr (3, [.ref h_a1_kinds, .ref h_a1_victimWords, .ref h_a1_victimMasks, .ref h_a1_otherWords, .ref h_a1_otherMasks, .int a1_count, v_a1_touchedWords, v_a1_bits])), (h_a1_victimWords, .inl (cI, n_a1_victimWords, .inl a1_victimWords_a)), (h_a1_victimMasks, .inl (cI, n_a1_victimMasks, .inl a1_victimMasks_a)), (h_a1_kinds, .inl (cI, n_a1_kinds, .inl a1_kinds_a)), (h_t_held, .inl (cI, n_t_held, .inl q34_1)), (h_a1_otherWords, .inl (cI, n_a1_otherWords, .inl a1_otherWords_a)), (h_a1_otherMasks, .inl (cI, n_a1_otherMasks, .inl a1_otherMasks_a))] := hD.sub [0, 1, 2, 3, 4, 5, 6, 7] (by decide) rfl
    obtain rfl := Option.some.inj hf
    exact ret_v hx hb hr hlocks hP hD hS ⟨rfl, rfl⟩ d_Memory_begin_37
  · have hf := ifF cc17 hf
    refine lv_aload_n hx hb d_Memory_begin_20 rfl (lv_at hl 0 rfl) ?_
    refine va_get (D := D) (ci := 5) (v := .ref h_t_held) (C := R_Memory) (T := F_Memory) (N := 5) hx hb hts i_Memory hown hK.1 hP 0 rfl rfl 2 (by decide) (hts _ w_25) (fun _ h9 => h9) rfl d_Memory_begin_21 ?_
    refine lv_iload_n hx hb d_Memory_begin_24 rfl (lv_at hl 1 rfl) ?_
    refine lv_iconst (v := 0) hx hb d_Memory_begin_25 (by decide) ?_
    obtain ⟨hin1, hf⟩ := ifG hf
    refine va_iast hx hb hK.1 hP hD hS 5 0 rfl rfl (inB_in hin1) d_Memory_begin_26 (fun H locs hP hD hS => ?_)
    have hP : va_P D classes [(h_t, .inr (5, [.int t_words, v_t_bits, .ref h_t_held, .ref h_a1, .int t_latest])), (h_a1, .inr (3, [.ref h_a1_kinds, .ref h_a1_victimWords, .ref h_a1_victimMasks, .ref h_a1_otherWords, .ref h_a1_otherMasks, .int a1_count, v_a1_touchedWords, v_a1_bits])), (h_a1_victimWords, .inl (cI, n_a1_victimWords, .inl a1_victimWords_a)), (h_a1_victimMasks, .inl (cI, n_a1_victimMasks, .inl a1_victimMasks_a)), (h_a1_kinds, .inl (cI, n_a1_kinds, .inl a1_kinds_a)), (h_t_held, .inl (cI, n_t_held, .inl (upd t_held_a (Int32.toNatClampNeg x2) 0))), (h_a1_otherWords, .inl (cI, n_a1_otherWords, .inl a1_otherWords_a)), (h_a1_otherMasks, .inl (cI, n_a1_otherMasks, .inl a1_otherMasks_a))] H := hP
    have hD : va_D A [(h_t, .inr (5, [.int t_words, v_t_bits, .ref h_t_held, .ref h_a1, .int t_latest])), (h_a1, .inr (3, [.ref h_a1_kinds, .ref h_a1_victimWords, .ref h_a1_victimMasks, .ref h_a1_otherWords, .ref h_a1_otherMasks, .int a1_count, v_a1_touchedWords, v_a1_bits])), (h_a1_victimWords, .inl (cI, n_a1_victimWords, .inl a1_victimWords_a)), (h_a1_victimMasks, .inl (cI, n_a1_victimMasks, .inl a1_victimMasks_a)), (h_a1_kinds, .inl (cI, n_a1_kinds, .inl a1_kinds_a)), (h_t_held, .inl (cI, n_t_held, .inl (upd t_held_a (Int32.toNatClampNeg x2) 0))), (h_a1_otherWords, .inl (cI, n_a1_otherWords, .inl a1_otherWords_a)), (h_a1_otherMasks, .inl (cI, n_a1_otherMasks, .inl a1_otherMasks_a))] := hD
    refine lv_iinc (v := (x2 + 1)) (lv' := [(2, .int (x2 + 1)), (0, .ref h_t)]) hx hb d_Memory_begin_27 hl (k := 1) rfl rfl (by decide) rfl (fun ls hl => ?_)
    refine lv_goto (tgt := 12) hx hb d_Memory_begin_30 (by decide) ?_
    exact hrec12 ((upd t_held_a (Int32.toNatClampNeg x2) 0), (x2 + 1)) hf  H locs ls hP hD hS (lv_sub hl [1, 0] rfl)
set_option maxHeartbeats 4000000 in
set_option maxRecDepth 100000 in
theorem k_Memory_begin_12 {p : Program} {l : Launch} {e : Env} {s : State} {m : MethodId} {args : Array Value} {below : List Frame} {meth : Method} {c : Code} {D : va_G} {cI cB cJ : ClassId} {A : Nat → Prop} (C0 : CX p s m args meth c D [(cI, .int), (cB, .byte), (cJ, .long)] R_Memory b_Memory_begin 3 none "begin") (hA : ∀ q, s.heap.size ≤ q → A q) {h_t h_a1 h_a1_victimWords h_a1_victimMasks h_a1_kinds h_t_held h_a1_otherWords h_a1_otherMasks : Nat} {v_t_bits v_t_faults v_a1_touchedWords v_a1_bits : Value} {res : Int32 × (Nat → Int32)} {n_a1_victimWords : Nat} {n_a1_victimMasks : Nat} {n_a1_kinds : Nat} {n_t_held : Nat} {n_a1_otherWords : Nat} {n_a1_otherMasks : Nat} {t_words : Int32} {t_latest : Int32} {a1_count : Int32} {a1_victimWords_a : Nat → Int32} {a1_victimMasks_a : Nat → Int32} {a1_kinds_a : Nat → Int32} {a1_otherWords_a : Nat → Int32} {a1_otherMasks_a : Nat → Int32}
    : ∀ (n : Nat) (st : ((Nat → Int32) × Int32)), lp (g_Memory_begin_12 n_a1_victimWords n_a1_victimMasks n_a1_kinds n_t_held n_a1_otherWords n_a1_otherMasks t_words t_latest a1_count a1_victimWords_a a1_victimMasks_a a1_kinds_a a1_otherWords_a a1_otherMasks_a) n st = some res → ∀  (H : Heap) (locs : List Loc) (ls : Array Slot), va_P D classes [(h_t, .inr (5, [.int t_words, v_t_bits, .ref h_t_held, .ref h_a1, .int t_latest])), (h_a1, .inr (3, [.ref h_a1_kinds, .ref h_a1_victimWords, .ref h_a1_victimMasks, .ref h_a1_otherWords, .ref h_a1_otherMasks, .int a1_count, v_a1_touchedWords, v_a1_bits])), (h_a1_victimWords, .inl (cI, n_a1_victimWords, .inl a1_victimWords_a)), (h_a1_victimMasks, .inl (cI, n_a1_victimMasks, .inl a1_victimMasks_a)), (h_a1_kinds, .inl (cI, n_a1_kinds, .inl a1_kinds_a)), (h_t_held, .inl (cI, n_t_held, .inl st.1)), (h_a1_otherWords, .inl (cI, n_a1_otherWords, .inl a1_otherWords_a)), (h_a1_otherMasks, .inl (cI, n_a1_otherMasks, .inl a1_otherMasks_a))] H → va_D A [(h_t, .inr (5, [.int t_words, v_t_bits, .ref h_t_held, .ref h_a1, .int t_latest])), (h_a1, .inr (3, [.ref h_a1_kinds, .ref h_a1_victimWords, .ref h_a1_victimMasks, .ref h_a1_otherWords, .ref h_a1_otherMasks, .int a1_count, v_a1_touchedWords, v_a1_bits])), (h_a1_victimWords, .inl (cI, n_a1_victimWords, .inl a1_victimWords_a)), (h_a1_victimMasks, .inl (cI, n_a1_victimMasks, .inl a1_victimMasks_a)), (h_a1_kinds, .inl (cI, n_a1_kinds, .inl a1_kinds_a)), (h_t_held, .inl (cI, n_t_held, .inl st.1)), (h_a1_otherWords, .inl (cI, n_a1_otherWords, .inl a1_otherWords_a)), (h_a1_otherMasks, .inl (cI, n_a1_otherMasks, .inl a1_otherMasks_a))] → va_S A s.heap H locs → lv_has ls 3 [(0, .ref h_t), (2, .int st.2)] → W p l e rm_Memory_begin s m args below meth c H locs 0 0 (MQ below (QW D (post_Memory_begin h_t h_a1 h_a1_victimWords h_a1_victimMasks h_a1_kinds h_t_held h_a1_otherWords h_a1_otherMasks v_t_bits v_t_faults v_a1_touchedWords v_a1_bits n_a1_victimWords n_a1_victimMasks n_a1_kinds n_t_held n_a1_otherWords n_a1_otherMasks t_words a1_count a1_victimWords_a a1_victimMasks_a a1_kinds_a a1_otherWords_a a1_otherMasks_a cI cB cJ res) A) args s 0 0 A) (F0 m 12 ls []) := by
  intro n
  induction n with
  | zero => intro st hf; exact absurd hf (by simp [lp])
  | succ n ih =>
    intro st hf  H locs ls hP hD hS hl
    exact kb_Memory_begin_12 C0 hA (rec12 := lp (g_Memory_begin_12 n_a1_victimWords n_a1_victimMasks n_a1_kinds n_t_held n_a1_otherWords n_a1_otherMasks t_words t_latest a1_count a1_victimWords_a a1_victimMasks_a a1_kinds_a a1_otherWords_a a1_otherMasks_a) n) (t_held_a := st.1) (x2 := st.2)  (fun st hf  H locs ls hP hD hS hl => ih st hf  H locs ls hP hD hS hl) hf hP hD hS hl
set_option maxHeartbeats 4000000 in
set_option maxRecDepth 100000 in
theorem c_Memory_begin (l : Launch) (D : va_G) (cI cB cJ : ClassId) (h_t h_a1 h_a1_victimWords h_a1_victimMasks h_a1_kinds h_t_held h_a1_otherWords h_a1_otherMasks : Nat) (v_t_bits v_t_faults v_a1_touchedWords v_a1_bits : Value) (n_a1_victimWords : Nat) (n_a1_victimMasks : Nat) (n_a1_kinds : Nat) (n_t_held : Nat) (n_a1_otherWords : Nat) (n_a1_otherMasks : Nat) (t_words : Int32) (t_latest : Int32) (a1_count : Int32) (a1_victimWords_a : Nat → Int32) (a1_victimMasks_a : Nat → Int32) (a1_kinds_a : Nat → Int32) (t_held_a : Nat → Int32) (a1_otherWords_a : Nat → Int32) (a1_otherMasks_a : Nat → Int32) (sz : Nat) (res : Int32 × (Nat → Int32)) (hf : f_Memory_begin n_a1_victimWords n_a1_victimMasks n_a1_kinds n_t_held n_a1_otherWords n_a1_otherMasks t_words a1_count a1_victimWords_a a1_victimMasks_a a1_kinds_a t_held_a a1_otherWords_a a1_otherMasks_a = some res) : Met l y_Memory_begin (.code y_Memory_begin b_Memory_begin 3 none :: TB) rm_Memory_begin (PcW D [(cI, .int), (cB, .byte), (cJ, .long)] [.ref h_t, .ref h_a1] [(h_t, .inr (5, [.int t_words, v_t_bits, .ref h_t_held, v_t_faults, .int t_latest])), (h_a1, .inr (3, [.ref h_a1_kinds, .ref h_a1_victimWords, .ref h_a1_victimMasks, .ref h_a1_otherWords, .ref h_a1_otherMasks, .int a1_count, v_a1_touchedWords, v_a1_bits])), (h_a1_victimWords, .inl (cI, n_a1_victimWords, .inl a1_victimWords_a)), (h_a1_victimMasks, .inl (cI, n_a1_victimMasks, .inl a1_victimMasks_a)), (h_a1_kinds, .inl (cI, n_a1_kinds, .inl a1_kinds_a)), (h_t_held, .inl (cI, n_t_held, .inl t_held_a)), (h_a1_otherWords, .inl (cI, n_a1_otherWords, .inl a1_otherWords_a)), (h_a1_otherMasks, .inl (cI, n_a1_otherMasks, .inl a1_otherMasks_a))] sz) (QW D (post_Memory_begin h_t h_a1 h_a1_victimWords h_a1_victimMasks h_a1_kinds h_t_held h_a1_otherWords h_a1_otherMasks v_t_bits v_t_faults v_a1_touchedWords v_a1_bits n_a1_victimWords n_a1_victimMasks n_a1_kinds n_t_held n_a1_otherWords n_a1_otherMasks t_words a1_count a1_victimWords_a a1_victimMasks_a a1_kinds_a a1_otherWords_a a1_otherMasks_a cI cB cJ res) (va_A [(h_t, .inr (5, [.int t_words, v_t_bits, .ref h_t_held, v_t_faults, .int t_latest])), (h_a1, .inr (3, [.ref h_a1_kinds, .ref h_a1_victimWords, .ref h_a1_victimMasks, .ref h_a1_otherWords, .ref h_a1_otherMasks, .int a1_count, v_a1_touchedWords, v_a1_bits])), (h_a1_victimWords, .inl (cI, n_a1_victimWords, .inl a1_victimWords_a)), (h_a1_victimMasks, .inl (cI, n_a1_victimMasks, .inl a1_victimMasks_a)), (h_a1_kinds, .inl (cI, n_a1_kinds, .inl a1_kinds_a)), (h_t_held, .inl (cI, n_t_held, .inl t_held_a)), (h_a1_otherWords, .inl (cI, n_a1_otherWords, .inl a1_otherWords_a)), (h_a1_otherMasks, .inl (cI, n_a1_otherMasks, .inl a1_otherMasks_a))] sz)) 0 0 (va_A [(h_t, .inr (5, [.int t_words, v_t_bits, .ref h_t_held, v_t_faults, .int t_latest])), (h_a1, .inr (3, [.ref h_a1_kinds, .ref h_a1_victimWords, .ref h_a1_victimMasks, .ref h_a1_otherWords, .ref h_a1_otherMasks, .int a1_count, v_a1_touchedWords, v_a1_bits])), (h_a1_victimWords, .inl (cI, n_a1_victimWords, .inl a1_victimWords_a)), (h_a1_victimMasks, .inl (cI, n_a1_victimMasks, .inl a1_victimMasks_a)), (h_a1_kinds, .inl (cI, n_a1_kinds, .inl a1_kinds_a)), (h_t_held, .inl (cI, n_t_held, .inl t_held_a)), (h_a1_otherWords, .inl (cI, n_a1_otherWords, .inl a1_otherWords_a)), (h_a1_otherMasks, .inl (cI, n_a1_otherMasks, .inl a1_otherMasks_a))] sz) := by
  refine entW ⟨by decide +kernel, rfl⟩ fun p e s m below meth c C0 hP hD hsz ls hl => ?_
  subst hsz
  generalize hAe : va_A [(h_t, .inr (5, [.int t_words, v_t_bits, .ref h_t_held, v_t_faults, .int t_latest])), (h_a1, .inr (3, [.ref h_a1_kinds, .ref h_a1_victimWords, .ref h_a1_victimMasks, .ref h_a1_otherWords, .ref h_a1_otherMasks, .int a1_count, v_a1_touchedWords, v_a1_bits])), (h_a1_victimWords, .inl (cI, n_a1_victimWords, .inl a1_victimWords_a)), (h_a1_victimMasks, .inl (cI, n_a1_victimMasks, .inl a1_victimMasks_a)), (h_a1_kinds, .inl (cI, n_a1_kinds, .inl a1_kinds_a)), (h_t_held, .inl (cI, n_t_held, .inl t_held_a)), (h_a1_otherWords, .inl (cI, n_a1_otherWords, .inl a1_otherWords_a)), (h_a1_otherMasks, .inl (cI, n_a1_otherMasks, .inl a1_otherMasks_a))] s.heap.size = A at hD ⊢
  have hA : ∀ q : Nat, s.heap.size ≤ q → A q := fun q h => by rw [← hAe]; exact Or.inr h
  clear hAe
  have hS : va_S A s.heap s.heap [] := va_S.rf
  have hl : lv_has ls 3 [(0, .ref h_t), (1, .ref h_a1)] := hl
  obtain ⟨hx, hb, hml, hr, hlocks, hts, hown, hK, hin⟩ := id C0
  have hf : (((
  (lp (g_Memory_begin_12 n_a1_victimWords n_a1_victimMasks n_a1_kinds n_t_held n_a1_otherWords n_a1_otherMasks t_words 0 a1_count a1_victimWords_a a1_victimMasks_a a1_kinds_a a1_otherWords_a a1_otherMasks_a) 100000 (t_held_a, 0)))) : Option (Int32 × (Nat → Int32))) = some res := hf
  obtain ⟨H, hH⟩ : ∃ H, H = s.heap := ⟨_, rfl⟩
  obtain ⟨locs, hlo⟩ : ∃ x : List Loc, x = [] := ⟨_, rfl⟩
  rw [← hlo] at hS ⊢
  have hP : va_P D classes [(h_t, .inr (5, [.int t_words, v_t_bits, .ref h_t_held, v_t_faults, .int t_latest])), (h_a1, .inr (3, [.ref h_a1_kinds, .ref h_a1_victimWords, .ref h_a1_victimMasks, .ref h_a1_otherWords, .ref h_a1_otherMasks, .int a1_count, v_a1_touchedWords, v_a1_bits])), (h_a1_victimWords, .inl (cI, n_a1_victimWords, .inl a1_victimWords_a)), (h_a1_victimMasks, .inl (cI, n_a1_victimMasks, .inl a1_victimMasks_a)), (h_a1_kinds, .inl (cI, n_a1_kinds, .inl a1_kinds_a)), (h_t_held, .inl (cI, n_t_held, .inl t_held_a)), (h_a1_otherWords, .inl (cI, n_a1_otherWords, .inl a1_otherWords_a)), (h_a1_otherMasks, .inl (cI, n_a1_otherMasks, .inl a1_otherMasks_a))] H := by rw [hH]; exact hP
  have hS : va_S A s.heap H locs := by rw [hH]; exact hS
  show W p l e rm_Memory_begin s m _ below meth c s.heap locs 0 0 (MQ below (QW D (post_Memory_begin h_t h_a1 h_a1_victimWords h_a1_victimMasks h_a1_kinds h_t_held h_a1_otherWords h_a1_otherMasks v_t_bits v_t_faults v_a1_touchedWords v_a1_bits n_a1_victimWords n_a1_victimMasks n_a1_kinds n_t_held n_a1_otherWords n_a1_otherMasks t_words a1_count a1_victimWords_a a1_victimMasks_a a1_kinds_a a1_otherWords_a a1_otherMasks_a cI cB cJ res) A) _ s 0 0 A) (F0 m 0 ls [])
  refine wheap hH ?_
  clear hH hlo
  refine lv_aload_n hx hb d_Memory_begin_0 rfl (lv_at hl 0 rfl) ?_
  refine lv_aload_n hx hb d_Memory_begin_1 rfl (lv_at hl 1 rfl) ?_
  refine va_put (D := D) (ci := 5) (v := .ref h_a1) (ty := .object "MarchTests$FaultList") (C := R_Memory) (T := F_Memory) (N := 5) hx hb hts i_Memory t_Memory t_Memory_ok n_Memory hown hK.1 hP hD hS 0 rfl rfl 3 (by decide) (hts _ w_32) (fun _ h9 => h9) rfl (t_Memory_ok 3 (by decide)) rfl rfl (Nat.le_of_ble_eq_true rfl) d_Memory_begin_2 (fun H locs hP hD hS => ?_)
  have hP : va_P D classes [(h_t, .inr (5, [.int t_words, v_t_bits, .ref h_t_held, .ref h_a1, .int t_latest])), (h_a1, .inr (3, [.ref h_a1_kinds, .ref h_a1_victimWords, .ref h_a1_victimMasks, .ref h_a1_otherWords, .ref h_a1_otherMasks, .int a1_count, v_a1_touchedWords, v_a1_bits])), (h_a1_victimWords, .inl (cI, n_a1_victimWords, .inl a1_victimWords_a)), (h_a1_victimMasks, .inl (cI, n_a1_victimMasks, .inl a1_victimMasks_a)), (h_a1_kinds, .inl (cI, n_a1_kinds, .inl a1_kinds_a)), (h_t_held, .inl (cI, n_t_held, .inl t_held_a)), (h_a1_otherWords, .inl (cI, n_a1_otherWords, .inl a1_otherWords_a)), (h_a1_otherMasks, .inl (cI, n_a1_otherMasks, .inl a1_otherMasks_a))] H := hP
  have hD : va_D A [(h_t, .inr (5, [.int t_words, v_t_bits, .ref h_t_held, .ref h_a1, .int t_latest])), (h_a1, .inr (3, [.ref h_a1_kinds, .ref h_a1_victimWords, .ref h_a1_victimMasks, .ref h_a1_otherWords, .ref h_a1_otherMasks, .int a1_count, v_a1_touchedWords, v_a1_bits])), (h_a1_victimWords, .inl (cI, n_a1_victimWords, .inl a1_victimWords_a)), (h_a1_victimMasks, .inl (cI, n_a1_victimMasks, .inl a1_victimMasks_a)), (h_a1_kinds, .inl (cI, n_a1_kinds, .inl a1_kinds_a)), (h_t_held, .inl (cI, n_t_held, .inl t_held_a)), (h_a1_otherWords, .inl (cI, n_a1_otherWords, .inl a1_otherWords_a)), (h_a1_otherMasks, .inl (cI, n_a1_otherMasks, .inl a1_otherMasks_a))] := hD
  refine lv_aload_n hx hb d_Memory_begin_5 rfl (lv_at hl 0 rfl) ?_
  refine lv_iconst (v := 0) hx hb d_Memory_begin_6 (by decide) ?_
  refine va_put (D := D) (ci := 5) (v := .int 0) (ty := .int) (C := R_Memory) (T := F_Memory) (N := 5) hx hb hts i_Memory t_Memory t_Memory_ok n_Memory hown hK.1 hP hD hS 0 rfl rfl 4 (by decide) (hts _ w_213) (fun _ h9 => h9) rfl (t_Memory_ok 4 (by decide)) rfl rfl (Nat.le_of_ble_eq_true rfl) d_Memory_begin_7 (fun H locs hP hD hS => ?_)
  have hP : va_P D classes [(h_t, .inr (5, [.int t_words, v_t_bits, .ref h_t_held, .ref h_a1, .int 0])), (h_a1, .inr (3, [.ref h_a1_kinds, .ref h_a1_victimWords, .ref h_a1_victimMasks, .ref h_a1_otherWords, .ref h_a1_otherMasks, .int a1_count, v_a1_touchedWords, v_a1_bits])), (h_a1_victimWords, .inl (cI, n_a1_victimWords, .inl a1_victimWords_a)), (h_a1_victimMasks, .inl (cI, n_a1_victimMasks, .inl a1_victimMasks_a)), (h_a1_kinds, .inl (cI, n_a1_kinds, .inl a1_kinds_a)), (h_t_held, .inl (cI, n_t_held, .inl t_held_a)), (h_a1_otherWords, .inl (cI, n_a1_otherWords, .inl a1_otherWords_a)), (h_a1_otherMasks, .inl (cI, n_a1_otherMasks, .inl a1_otherMasks_a))] H := hP
  have hD : va_D A [(h_t, .inr (5, [.int t_words, v_t_bits, .ref h_t_held, .ref h_a1, .int 0])), (h_a1, .inr (3, [.ref h_a1_kinds, .ref h_a1_victimWords, .ref h_a1_victimMasks, .ref h_a1_otherWords, .ref h_a1_otherMasks, .int a1_count, v_a1_touchedWords, v_a1_bits])), (h_a1_victimWords, .inl (cI, n_a1_victimWords, .inl a1_victimWords_a)), (h_a1_victimMasks, .inl (cI, n_a1_victimMasks, .inl a1_victimMasks_a)), (h_a1_kinds, .inl (cI, n_a1_kinds, .inl a1_kinds_a)), (h_t_held, .inl (cI, n_t_held, .inl t_held_a)), (h_a1_otherWords, .inl (cI, n_a1_otherWords, .inl a1_otherWords_a)), (h_a1_otherMasks, .inl (cI, n_a1_otherMasks, .inl a1_otherMasks_a))] := hD
  refine lv_iconst (v := 0) hx hb d_Memory_begin_10 (by decide) ?_
  refine lv_istore_n (lv' := [(2, .int 0), (0, .ref h_t), (1, .ref h_a1)]) hx hb d_Memory_begin_11 rfl hl (by decide) rfl (fun ls hl => ?_)
  exact k_Memory_begin_12 (s := s) C0 hA _ (t_held_a, 0) hf  H locs ls hP hD hS (lv_sub hl [1, 0] rfl)
def g_Memory_rest_2 (n_t_faults_victimWords : Nat) (n_t_faults_victimMasks : Nat) (n_t_faults_kinds : Nat) (n_t_held : Nat) (n_t_faults_otherWords : Nat) (n_t_faults_otherMasks : Nat) (t_faults_count : Int32) (t_faults_victimWords_a : Nat → Int32) (t_faults_victimMasks_a : Nat → Int32) (t_faults_kinds_a : Nat → Int32) (t_faults_otherWords_a : Nat → Int32) (t_faults_otherMasks_a : Nat → Int32) (rec2 : ((Nat → Int32) × Int32) → Option ((Nat → Int32))) (st : ((Nat → Int32) × Int32)) : Option ((Nat → Int32)) :=
  (if t_faults_count ≤ st.2 then
    (Option.bind (f_Memory_settle n_t_faults_victimWords n_t_faults_victimMasks n_t_faults_kinds n_t_held n_t_faults_otherWords n_t_faults_otherMasks t_faults_count t_faults_victimWords_a t_faults_victimMasks_a t_faults_kinds_a st.1 t_faults_otherWords_a t_faults_otherMasks_a) fun q61_1 =>
    some q61_1)
  else
    (if inB st.2 n_t_faults_kinds = true then
    (if (t_faults_kinds_a (Int32.toNatClampNeg st.2)) = 5 then
      (if inB st.2 n_t_faults_victimWords = true then
      (if inB (t_faults_victimWords_a (Int32.toNatClampNeg st.2)) n_t_held = true then
      (if inB st.2 n_t_faults_victimMasks = true then
      (if inB (t_faults_victimWords_a (Int32.toNatClampNeg st.2)) n_t_held = true then
      (rec2 ((upd st.1 (Int32.toNatClampNeg (t_faults_victimWords_a (Int32.toNatClampNeg st.2))) ((st.1 (Int32.toNatClampNeg (t_faults_victimWords_a (Int32.toNatClampNeg st.2)))) &&& ((t_faults_victimMasks_a (Int32.toNatClampNeg st.2)) ^^^ (-1)))), (st.2 + 1)))
      else none)
      else none)
      else none)
      else none)
    else
      (rec2 (st.1, (st.2 + 1))))
    else none))
def f_Memory_rest (n_t_faults_victimWords : Nat) (n_t_faults_victimMasks : Nat) (n_t_faults_kinds : Nat) (n_t_held : Nat) (n_t_faults_otherWords : Nat) (n_t_faults_otherMasks : Nat) (t_faults_count : Int32) (t_faults_victimWords_a : Nat → Int32) (t_faults_victimMasks_a : Nat → Int32) (t_faults_kinds_a : Nat → Int32) (t_held_a : Nat → Int32) (t_faults_otherWords_a : Nat → Int32) (t_faults_otherMasks_a : Nat → Int32) : Option ((Nat → Int32)) :=
  (lp (g_Memory_rest_2 n_t_faults_victimWords n_t_faults_victimMasks n_t_faults_kinds n_t_held n_t_faults_otherWords n_t_faults_otherMasks t_faults_count t_faults_victimWords_a t_faults_victimMasks_a t_faults_kinds_a t_faults_otherWords_a t_faults_otherMasks_a) 100000 (t_held_a, 0))
def post_Memory_rest (h_t h_t_faults h_t_faults_victimWords h_t_faults_victimMasks h_t_faults_kinds h_t_held h_t_faults_otherWords h_t_faults_otherMasks : Nat) (v_t_words v_t_bits v_t_latest v_t_faults_touchedWords v_t_faults_bits : Value) (n_t_faults_victimWords : Nat) (n_t_faults_victimMasks : Nat) (n_t_faults_kinds : Nat) (n_t_held : Nat) (n_t_faults_otherWords : Nat) (n_t_faults_otherMasks : Nat) (t_faults_count : Int32) (t_faults_victimWords_a : Nat → Int32) (t_faults_victimMasks_a : Nat → Int32) (t_faults_kinds_a : Nat → Int32) (t_faults_otherWords_a : Nat → Int32) (t_faults_otherMasks_a : Nat → Int32) (cI cB cJ : ClassId) (res : (Nat → Int32)) : Option Value → va_W → Prop := fun o ws' => o = none ∧ ws' = [(h_t, .inr (5, [v_t_words, v_t_bits, .ref h_t_held, .ref h_t_faults, v_t_latest])), (h_t_faults, .inr (3, [.ref h_t_faults_kinds, .ref h_t_faults_victimWords, .ref h_t_faults_victimMasks, .ref h_t_faults_otherWords, .ref h_t_faults_otherMasks, .int t_faults_count, v_t_faults_touchedWords, v_t_faults_bits])), (h_t_faults_victimWords, .inl (cI, n_t_faults_victimWords, .inl t_faults_victimWords_a)), (h_t_faults_victimMasks, .inl (cI, n_t_faults_victimMasks, .inl t_faults_victimMasks_a)), (h_t_faults_kinds, .inl (cI, n_t_faults_kinds, .inl t_faults_kinds_a)), (h_t_held, .inl (cI, n_t_held, .inl res)), (h_t_faults_otherWords, .inl (cI, n_t_faults_otherWords, .inl t_faults_otherWords_a)), (h_t_faults_otherMasks, .inl (cI, n_t_faults_otherMasks, .inl t_faults_otherMasks_a))]
abbrev rm_Memory_rest : Room := { frames := 1, cells := 0, slots := 0, locals := 23 }
set_option maxHeartbeats 4000000 in
set_option maxRecDepth 100000 in
theorem kb_Memory_rest_2 {p : Program} {l : Launch} {e : Env} {s : State} {m : MethodId} {args : Array Value} {below : List Frame} {meth : Method} {c : Code} {D : va_G} {cI cB cJ : ClassId} {A : Nat → Prop} (C0 : CX p s m args meth c D [(cI, .int), (cB, .byte), (cJ, .long)] R_Memory b_Memory_rest 2 none "rest") (hA : ∀ q, s.heap.size ≤ q → A q) {h_t h_t_faults h_t_faults_victimWords h_t_faults_victimMasks h_t_faults_kinds h_t_held h_t_faults_otherWords h_t_faults_otherMasks : Nat} {v_t_words v_t_bits v_t_latest v_t_faults_touchedWords v_t_faults_bits : Value} {res : (Nat → Int32)} {rec2 : ((Nat → Int32) × Int32) → Option ((Nat → Int32))} {n_t_faults_victimWords : Nat} {n_t_faults_victimMasks : Nat} {n_t_faults_kinds : Nat} {n_t_held : Nat} {n_t_faults_otherWords : Nat} {n_t_faults_otherMasks : Nat} {t_faults_count : Int32} {t_faults_victimWords_a : Nat → Int32} {t_faults_victimMasks_a : Nat → Int32} {t_faults_kinds_a : Nat → Int32} {t_held_a : Nat → Int32} {t_faults_otherWords_a : Nat → Int32} {t_faults_otherMasks_a : Nat → Int32} {x1 : Int32}
    (hrec2 : ∀ (st : ((Nat → Int32) × Int32)), rec2 st = some res → ∀  (H : Heap) (locs : List Loc) (ls : Array Slot), va_P D classes [(h_t, .inr (5, [v_t_words, v_t_bits, .ref h_t_held, .ref h_t_faults, v_t_latest])), (h_t_faults, .inr (3, [.ref h_t_faults_kinds, .ref h_t_faults_victimWords, .ref h_t_faults_victimMasks, .ref h_t_faults_otherWords, .ref h_t_faults_otherMasks, .int t_faults_count, v_t_faults_touchedWords, v_t_faults_bits])), (h_t_faults_victimWords, .inl (cI, n_t_faults_victimWords, .inl t_faults_victimWords_a)), (h_t_faults_victimMasks, .inl (cI, n_t_faults_victimMasks, .inl t_faults_victimMasks_a)), (h_t_faults_kinds, .inl (cI, n_t_faults_kinds, .inl t_faults_kinds_a)), (h_t_held, .inl (cI, n_t_held, .inl st.1)), (h_t_faults_otherWords, .inl (cI, n_t_faults_otherWords, .inl t_faults_otherWords_a)), (h_t_faults_otherMasks, .inl (cI, n_t_faults_otherMasks, .inl t_faults_otherMasks_a))] H → va_D A [(h_t, .inr (5, [v_t_words, v_t_bits, .ref h_t_held, .ref h_t_faults, v_t_latest])), (h_t_faults, .inr (3, [.ref h_t_faults_kinds, .ref h_t_faults_victimWords, .ref h_t_faults_victimMasks, .ref h_t_faults_otherWords, .ref h_t_faults_otherMasks, .int t_faults_count, v_t_faults_touchedWords, v_t_faults_bits])), (h_t_faults_victimWords, .inl (cI, n_t_faults_victimWords, .inl t_faults_victimWords_a)), (h_t_faults_victimMasks, .inl (cI, n_t_faults_victimMasks, .inl t_faults_victimMasks_a)), (h_t_faults_kinds, .inl (cI, n_t_faults_kinds, .inl t_faults_kinds_a)), (h_t_held, .inl (cI, n_t_held, .inl st.1)), (h_t_faults_otherWords, .inl (cI, n_t_faults_otherWords, .inl t_faults_otherWords_a)), (h_t_faults_otherMasks, .inl (cI, n_t_faults_otherMasks, .inl t_faults_otherMasks_a))] → va_S A s.heap H locs → lv_has ls 2 [(0, .ref h_t), (1, .int st.2)] → W p l e rm_Memory_rest s m args below meth c H locs 0 0 (MQ below (QW D (post_Memory_rest h_t h_t_faults h_t_faults_victimWords h_t_faults_victimMasks h_t_faults_kinds h_t_held h_t_faults_otherWords h_t_faults_otherMasks v_t_words v_t_bits v_t_latest v_t_faults_touchedWords v_t_faults_bits n_t_faults_victimWords n_t_faults_victimMasks n_t_faults_kinds n_t_held n_t_faults_otherWords n_t_faults_otherMasks t_faults_count t_faults_victimWords_a t_faults_victimMasks_a t_faults_kinds_a t_faults_otherWords_a t_faults_otherMasks_a cI cB cJ res) A) args s 0 0 A) (F0 m 2 ls []))
    (hf : g_Memory_rest_2 n_t_faults_victimWords n_t_faults_victimMasks n_t_faults_kinds n_t_held n_t_faults_otherWords n_t_faults_otherMasks t_faults_count t_faults_victimWords_a t_faults_victimMasks_a t_faults_kinds_a t_faults_otherWords_a t_faults_otherMasks_a rec2 (t_held_a, x1) = some res) {H : Heap} {locs : List Loc} {ls : Array Slot} (hP : va_P D classes [(h_t, .inr (5, [v_t_words, v_t_bits, .ref h_t_held, .ref h_t_faults, v_t_latest])), (h_t_faults, .inr (3, [.ref h_t_faults_kinds, .ref h_t_faults_victimWords, .ref h_t_faults_victimMasks, .ref h_t_faults_otherWords, .ref h_t_faults_otherMasks, .int t_faults_count, v_t_faults_touchedWords, v_t_faults_bits])), (h_t_faults_victimWords, .inl (cI, n_t_faults_victimWords, .inl t_faults_victimWords_a)), (h_t_faults_victimMasks, .inl (cI, n_t_faults_victimMasks, .inl t_faults_victimMasks_a)), (h_t_faults_kinds, .inl (cI, n_t_faults_kinds, .inl t_faults_kinds_a)), (h_t_held, .inl (cI, n_t_held, .inl t_held_a)), (h_t_faults_otherWords, .inl (cI, n_t_faults_otherWords, .inl t_faults_otherWords_a)), (h_t_faults_otherMasks, .inl (cI, n_t_faults_otherMasks, .inl t_faults_otherMasks_a))] H) (hD : va_D A [(h_t, .inr (5, [v_t_words, v_t_bits, .ref h_t_held, .ref h_t_faults, v_t_latest])), (h_t_faults, .inr (3, [.ref h_t_faults_kinds, .ref h_t_faults_victimWords, .ref h_t_faults_victimMasks, .ref h_t_faults_otherWords, .ref h_t_faults_otherMasks, .int t_faults_count, v_t_faults_touchedWords, v_t_faults_bits])), (h_t_faults_victimWords, .inl (cI, n_t_faults_victimWords, .inl t_faults_victimWords_a)), (h_t_faults_victimMasks, .inl (cI, n_t_faults_victimMasks, .inl t_faults_victimMasks_a)), (h_t_faults_kinds, .inl (cI, n_t_faults_kinds, .inl t_faults_kinds_a)), (h_t_held, .inl (cI, n_t_held, .inl t_held_a)), (h_t_faults_otherWords, .inl (cI, n_t_faults_otherWords, .inl t_faults_otherWords_a)), (h_t_faults_otherMasks, .inl (cI, n_t_faults_otherMasks, .inl t_faults_otherMasks_a))]) (hS : va_S A s.heap H locs) (hl : lv_has ls 2 [(0, .ref h_t), (1, .int x1)]) : W p l e rm_Memory_rest s m args below meth c H locs 0 0 (MQ below (QW D (post_Memory_rest h_t h_t_faults h_t_faults_victimWords h_t_faults_victimMasks h_t_faults_kinds h_t_held h_t_faults_otherWords h_t_faults_otherMasks v_t_words v_t_bits v_t_latest v_t_faults_touchedWords v_t_faults_bits n_t_faults_victimWords n_t_faults_victimMasks n_t_faults_kinds n_t_held n_t_faults_otherWords n_t_faults_otherMasks t_faults_count t_faults_victimWords_a t_faults_victimMasks_a t_faults_kinds_a t_faults_otherWords_a t_faults_otherMasks_a cI cB cJ res) A) args s 0 0 A) (F0 m 2 ls []) := by
  obtain ⟨hx, hb, hml, hr, hlocks, hts, hown, hK, hin⟩ := id C0
  have hf : (((
  (if t_faults_count ≤ x1 then
    (Option.bind (f_Memory_settle n_t_faults_victimWords n_t_faults_victimMasks n_t_faults_kinds n_t_held n_t_faults_otherWords n_t_faults_otherMasks t_faults_count t_faults_victimWords_a t_faults_victimMasks_a t_faults_kinds_a t_held_a t_faults_otherWords_a t_faults_otherMasks_a) fun q61_1 =>
    some q61_1)
  else
    (if inB x1 n_t_faults_kinds = true then
    (if (t_faults_kinds_a (Int32.toNatClampNeg x1)) = 5 then
      (if inB x1 n_t_faults_victimWords = true then
      (if inB (t_faults_victimWords_a (Int32.toNatClampNeg x1)) n_t_held = true then
      (if inB x1 n_t_faults_victimMasks = true then
      (if inB (t_faults_victimWords_a (Int32.toNatClampNeg x1)) n_t_held = true then
      (rec2 ((upd t_held_a (Int32.toNatClampNeg (t_faults_victimWords_a (Int32.toNatClampNeg x1))) ((t_held_a (Int32.toNatClampNeg (t_faults_victimWords_a (Int32.toNatClampNeg x1)))) &&& ((t_faults_victimMasks_a (Int32.toNatClampNeg x1)) ^^^ (-1)))), (x1 + 1)))
      else none)
      else none)
      else none)
      else none)
    else
      (rec2 (t_held_a, (x1 + 1))))
    else none)))) : Option ((Nat → Int32))) = some res := hf
  refine lv_iload_n hx hb d_Memory_rest_2 rfl (lv_at hl 1 rfl) ?_
  refine lv_aload_n hx hb d_Memory_rest_3 rfl (lv_at hl 0 rfl) ?_
  refine va_get (D := D) (ci := 5) (v := .ref h_t_faults) (C := R_Memory) (T := F_Memory) (N := 5) hx hb hts i_Memory hown hK.1 hP 0 rfl rfl 3 (by decide) (hts _ w_32) (fun _ h9 => h9) rfl d_Memory_rest_4 ?_
  refine va_get (D := D) (ci := 3) (v := .int t_faults_count) (C := R_FaultList) (T := F_FaultList) (N := 8) hx hb hts i_FaultList hown hK.1 hP 1 rfl rfl 5 (by decide) (hts _ w_207) (fun _ h9 => h9) rfl d_Memory_rest_7 ?_
  refine lv_icmp_ge (tgt := 60) hx hb d_Memory_rest_10 (by decide) (fun cc10 => ?_) (fun cc10 => ?_)
  · have hf := ifT cc10 hf
    refine lv_aload_n hx hb d_Memory_rest_60 rfl (lv_at hl 0 rfl) ?_
    obtain ⟨q61_1, hc, hf⟩ := bindS hf
    refine mcV (n := 0) (As := []) (rest := []) (wr := []) hx hb hml hown hts hK (c_Memory_settle (l := l) (D := D) (cI := cI) (cB := cB) (cJ := cJ) (h_t := h_t) (h_t_faults := h_t_faults) (h_t_faults_victimWords := h_t_faults_victimWords) (h_t_faults_victimMasks := h_t_faults_victimMasks) (h_t_faults_kinds := h_t_faults_kinds) (h_t_held := h_t_held) (h_t_faults_otherWords := h_t_faults_otherWords) (h_t_faults_otherMasks := h_t_faults_otherMasks) (v_t_words := v_t_words) (v_t_bits := v_t_bits) (v_t_latest := v_t_latest) (v_t_faults_touchedWords := v_t_faults_touchedWords) (v_t_faults_bits := v_t_faults_bits) (n_t_faults_victimWords := n_t_faults_victimWords) (n_t_faults_victimMasks := n_t_faults_victimMasks) (n_t_faults_kinds := n_t_faults_kinds) (n_t_held := n_t_held) (n_t_faults_otherWords := n_t_faults_otherWords) (n_t_faults_otherMasks := n_t_faults_otherMasks) (t_faults_count := t_faults_count) (t_faults_victimWords_a := t_faults_victimWords_a) (t_faults_victimMasks_a := t_faults_victimMasks_a) (t_faults_kinds_a := t_faults_kinds_a) (t_held_a := t_held_a) (t_faults_otherWords_a := t_faults_otherWords_a) (t_faults_otherMasks_a := t_faults_otherMasks_a) (sz := H.size) (res := q61_1) (hf := hc)) w_214 w_215 w_216 w_41 w_217 (by decide +kernel) rfl rfl ⟨Nat.le_of_ble_eq_true rfl, Nat.le_of_ble_eq_true rfl⟩ hP hD hS hA [0, 1, 2, 3, 4, 5, 6, 7] [] rfl rfl (by decide) (by decide) (by decide) (ci := 5) 0 rfl rfl hl.1 rfl rfl (lv_room (Nat.le_of_ble_eq_true rfl)) d_Memory_rest_61 ⟨Nat.le_of_ble_eq_true rfl, Nat.le_of_ble_eq_true rfl⟩ (fun o ws' H locs hp hP hD hS => ?_)
    obtain ⟨rfl, rfl⟩ := hp
    have hP : va_P D classes [(h_t, .inr (5, [v_t_words, v_t_bits, .ref h_t_held, .ref h_t_faults, v_t_latest])), (h_t_faults, .inr (3, [.ref h_t_faults_kinds, .ref h_t_faults_victimWords, .ref h_t_faults_victimMasks, .ref h_t_faults_otherWords, .ref h_t_faults_otherMasks, .int t_faults_count, v_t_faults_touchedWords, v_t_faults_bits])), (h_t_faults_victimWords, .inl (cI, n_t_faults_victimWords, .inl t_faults_victimWords_a)), (h_t_faults_victimMasks, .inl (cI, n_t_faults_victimMasks, .inl t_faults_victimMasks_a)), (h_t_faults_kinds, .inl (cI, n_t_faults_kinds, .inl t_faults_kinds_a)), (h_t_held, .inl (cI, n_t_held, .inl q61_1)), (h_t_faults_otherWords, .inl (cI, n_t_faults_otherWords, .inl t_faults_otherWords_a)), (h_t_faults_otherMasks, .inl (cI, n_t_faults_otherMasks, .inl t_faults_otherMasks_a))] H := hP.sub [0, 1, 2, 3, 4, 5, 6, 7] rfl
    have hD : va_D A [(h_t, .inr (5, [v_t_words, v_t_bits, .ref h_t_held, .ref h_t_faults, v_t_latest])), (h_t_faults, .inr (3, [.ref h_t_faults_kinds, .ref h_t_faults_victimWords, .ref h_t_faults_victimMasks, .ref h_t_faults_otherWords, .ref h_t_faults_otherMasks, .int t_faults_count, v_t_faults_touchedWords, v_t_faults_bits])), (h_t_faults_victimWords, .inl (cI, n_t_faults_victimWords, .inl t_faults_victimWords_a)), (h_t_faults_victimMasks, .inl (cI, n_t_faults_victimMasks, .inl t_faults_victimMasks_a)), (h_t_faults_kinds, .inl (cI, n_t_faults_kinds, .inl t_faults_kinds_a)), (h_t_held, .inl (cI, n_t_held, .inl q61_1)), (h_t_faults_otherWords, .inl (cI, n_t_faults_otherWords, .inl t_faults_otherWords_a)), (h_t_faults_otherMasks, .inl (cI, n_t_faults_otherMasks, .inl t_faults_otherMasks_a))] := hD.sub [0, 1, 2, 3, 4, 5, 6, 7] (by decide) rfl
    obtain rfl := Option.some.inj hf
    exact ret_v hx hb hr hlocks hP hD hS ⟨rfl, rfl⟩ d_Memory_rest_64
  · have hf := ifF cc10 hf
    refine lv_aload_n hx hb d_Memory_rest_13 rfl (lv_at hl 0 rfl) ?_
    refine va_get (D := D) (ci := 5) (v := .ref h_t_faults) (C := R_Memory) (T := F_Memory) (N := 5) hx hb hts i_Memory hown hK.1 hP 0 rfl rfl 3 (by decide) (hts _ w_32) (fun _ h9 => h9) rfl d_Memory_rest_14 ?_
    refine va_get (D := D) (ci := 3) (v := .ref h_t_faults_kinds) (C := R_FaultList) (T := F_FaultList) (N := 8) hx hb hts i_FaultList hown hK.1 hP 1 rfl rfl 0 (by decide) (hts _ w_210) (fun _ h9 => h9) rfl d_Memory_rest_17 ?_
    refine lv_iload_n hx hb d_Memory_rest_20 rfl (lv_at hl 1 rfl) ?_
    obtain ⟨hin1, hf⟩ := ifG hf
    refine va_iald hx hb hK.1 hP 4 0 rfl rfl (inB_in hin1) d_Memory_rest_21 ?_
    refine lv_iconst (v := 5) hx hb d_Memory_rest_22 (by decide) ?_
    refine lv_icmp_ne (tgt := 54) hx hb d_Memory_rest_23 (by decide) (fun cc23 => ?_) (fun cc23 => ?_)
    · have hf := ifF cc23 hf
      refine lv_iinc (v := (x1 + 1)) (lv' := [(1, .int (x1 + 1)), (0, .ref h_t)]) hx hb d_Memory_rest_54 hl (k := 1) rfl rfl (by decide) rfl (fun ls hl => ?_)
      refine lv_goto (tgt := 2) hx hb d_Memory_rest_57 (by decide) ?_
      exact hrec2 (t_held_a, (x1 + 1)) hf  H locs ls hP hD hS (lv_sub hl [1, 0] rfl)
    · have hf := ifT cc23 hf
      refine lv_aload_n hx hb d_Memory_rest_26 rfl (lv_at hl 0 rfl) ?_
      refine va_get (D := D) (ci := 5) (v := .ref h_t_held) (C := R_Memory) (T := F_Memory) (N := 5) hx hb hts i_Memory hown hK.1 hP 0 rfl rfl 2 (by decide) (hts _ w_25) (fun _ h9 => h9) rfl d_Memory_rest_27 ?_
      refine lv_aload_n hx hb d_Memory_rest_30 rfl (lv_at hl 0 rfl) ?_
      refine va_get (D := D) (ci := 5) (v := .ref h_t_faults) (C := R_Memory) (T := F_Memory) (N := 5) hx hb hts i_Memory hown hK.1 hP 0 rfl rfl 3 (by decide) (hts _ w_32) (fun _ h9 => h9) rfl d_Memory_rest_31 ?_
      refine va_get (D := D) (ci := 3) (v := .ref h_t_faults_victimWords) (C := R_FaultList) (T := F_FaultList) (N := 8) hx hb hts i_FaultList hown hK.1 hP 1 rfl rfl 1 (by decide) (hts _ w_208) (fun _ h9 => h9) rfl d_Memory_rest_34 ?_
      refine lv_iload_n hx hb d_Memory_rest_37 rfl (lv_at hl 1 rfl) ?_
      obtain ⟨hin1, hf⟩ := ifG hf
      refine va_iald hx hb hK.1 hP 2 0 rfl rfl (inB_in hin1) d_Memory_rest_38 ?_
      refine lv_dup2_11 hx hb d_Memory_rest_39 rfl rfl ?_
      obtain ⟨hin1, hf⟩ := ifG hf
      refine va_iald hx hb hK.1 hP 5 0 rfl rfl (inB_in hin1) d_Memory_rest_40 ?_
      refine lv_aload_n hx hb d_Memory_rest_41 rfl (lv_at hl 0 rfl) ?_
      refine va_get (D := D) (ci := 5) (v := .ref h_t_faults) (C := R_Memory) (T := F_Memory) (N := 5) hx hb hts i_Memory hown hK.1 hP 0 rfl rfl 3 (by decide) (hts _ w_32) (fun _ h9 => h9) rfl d_Memory_rest_42 ?_
      refine va_get (D := D) (ci := 3) (v := .ref h_t_faults_victimMasks) (C := R_FaultList) (T := F_FaultList) (N := 8) hx hb hts i_FaultList hown hK.1 hP 1 rfl rfl 2 (by decide) (hts _ w_209) (fun _ h9 => h9) rfl d_Memory_rest_45 ?_
      refine lv_iload_n hx hb d_Memory_rest_48 rfl (lv_at hl 1 rfl) ?_
      obtain ⟨hin1, hf⟩ := ifG hf
      refine va_iald hx hb hK.1 hP 3 0 rfl rfl (inB_in hin1) d_Memory_rest_49 ?_
      refine lv_iconst (v := (-1)) hx hb d_Memory_rest_50 (by decide) ?_
      refine lv_ixor hx hb d_Memory_rest_51 ?_
      refine lv_iand hx hb d_Memory_rest_52 ?_
      obtain ⟨hin1, hf⟩ := ifG hf
      refine va_iast hx hb hK.1 hP hD hS 5 0 rfl rfl (inB_in hin1) d_Memory_rest_53 (fun H locs hP hD hS => ?_)
      have hP : va_P D classes [(h_t, .inr (5, [v_t_words, v_t_bits, .ref h_t_held, .ref h_t_faults, v_t_latest])), (h_t_faults, .inr (3, [.ref h_t_faults_kinds, .ref h_t_faults_victimWords, .ref h_t_faults_victimMasks, .ref h_t_faults_otherWords, .ref h_t_faults_otherMasks, .int t_faults_count, v_t_faults_touchedWords, v_t_faults_bits])), (h_t_faults_victimWords, .inl (cI, n_t_faults_victimWords, .inl t_faults_victimWords_a)), (h_t_faults_victimMasks, .inl (cI, n_t_faults_victimMasks, .inl t_faults_victimMasks_a)), (h_t_faults_kinds, .inl (cI, n_t_faults_kinds, .inl t_faults_kinds_a)), (h_t_held, .inl (cI, n_t_held, .inl (upd t_held_a (Int32.toNatClampNeg (t_faults_victimWords_a (Int32.toNatClampNeg x1))) ((t_held_a (Int32.toNatClampNeg (t_faults_victimWords_a (Int32.toNatClampNeg x1)))) &&& ((t_faults_victimMasks_a (Int32.toNatClampNeg x1)) ^^^ (-1)))))), (h_t_faults_otherWords, .inl (cI, n_t_faults_otherWords, .inl t_faults_otherWords_a)), (h_t_faults_otherMasks, .inl (cI, n_t_faults_otherMasks, .inl t_faults_otherMasks_a))] H := hP
      have hD : va_D A [(h_t, .inr (5, [v_t_words, v_t_bits, .ref h_t_held, .ref h_t_faults, v_t_latest])), (h_t_faults, .inr (3, [.ref h_t_faults_kinds, .ref h_t_faults_victimWords, .ref h_t_faults_victimMasks, .ref h_t_faults_otherWords, .ref h_t_faults_otherMasks, .int t_faults_count, v_t_faults_touchedWords, v_t_faults_bits])), (h_t_faults_victimWords, .inl (cI, n_t_faults_victimWords, .inl t_faults_victimWords_a)), (h_t_faults_victimMasks, .inl (cI, n_t_faults_victimMasks, .inl t_faults_victimMasks_a)), (h_t_faults_kinds, .inl (cI, n_t_faults_kinds, .inl t_faults_kinds_a)), (h_t_held, .inl (cI, n_t_held, .inl (upd t_held_a (Int32.toNatClampNeg (t_faults_victimWords_a (Int32.toNatClampNeg x1))) ((t_held_a (Int32.toNatClampNeg (t_faults_victimWords_a (Int32.toNatClampNeg x1)))) &&& ((t_faults_victimMasks_a (Int32.toNatClampNeg x1)) ^^^ (-1)))))), (h_t_faults_otherWords, .inl (cI, n_t_faults_otherWords, .inl t_faults_otherWords_a)), (h_t_faults_otherMasks, .inl (cI, n_t_faults_otherMasks, .inl t_faults_otherMasks_a))] := hD
      refine lv_iinc (v := (x1 + 1)) (lv' := [(1, .int (x1 + 1)), (0, .ref h_t)]) hx hb d_Memory_rest_54 hl (k := 1) rfl rfl (by decide) rfl (fun ls hl => ?_)
      refine lv_goto (tgt := 2) hx hb d_Memory_rest_57 (by decide) ?_
      exact hrec2 ((upd t_held_a (Int32.toNatClampNeg (t_faults_victimWords_a (Int32.toNatClampNeg x1))) ((t_held_a (Int32.toNatClampNeg (t_faults_victimWords_a (Int32.toNatClampNeg x1)))) &&& ((t_faults_victimMasks_a (Int32.toNatClampNeg x1)) ^^^ (-1)))), (x1 + 1)) hf  H locs ls hP hD hS (lv_sub hl [1, 0] rfl)
set_option maxHeartbeats 4000000 in
set_option maxRecDepth 100000 in
theorem k_Memory_rest_2 {p : Program} {l : Launch} {e : Env} {s : State} {m : MethodId} {args : Array Value} {below : List Frame} {meth : Method} {c : Code} {D : va_G} {cI cB cJ : ClassId} {A : Nat → Prop} (C0 : CX p s m args meth c D [(cI, .int), (cB, .byte), (cJ, .long)] R_Memory b_Memory_rest 2 none "rest") (hA : ∀ q, s.heap.size ≤ q → A q) {h_t h_t_faults h_t_faults_victimWords h_t_faults_victimMasks h_t_faults_kinds h_t_held h_t_faults_otherWords h_t_faults_otherMasks : Nat} {v_t_words v_t_bits v_t_latest v_t_faults_touchedWords v_t_faults_bits : Value} {res : (Nat → Int32)} {n_t_faults_victimWords : Nat} {n_t_faults_victimMasks : Nat} {n_t_faults_kinds : Nat} {n_t_held : Nat} {n_t_faults_otherWords : Nat} {n_t_faults_otherMasks : Nat} {t_faults_count : Int32} {t_faults_victimWords_a : Nat → Int32} {t_faults_victimMasks_a : Nat → Int32} {t_faults_kinds_a : Nat → Int32} {t_faults_otherWords_a : Nat → Int32} {t_faults_otherMasks_a : Nat → Int32}
    : ∀ (n : Nat) (st : ((Nat → Int32) × Int32)), lp (g_Memory_rest_2 n_t_faults_victimWords n_t_faults_victimMasks n_t_faults_kinds n_t_held n_t_faults_otherWords n_t_faults_otherMasks t_faults_count t_faults_victimWords_a t_faults_victimMasks_a t_faults_kinds_a t_faults_otherWords_a t_faults_otherMasks_a) n st = some res → ∀  (H : Heap) (locs : List Loc) (ls : Array Slot), va_P D classes [(h_t, .inr (5, [v_t_words, v_t_bits, .ref h_t_held, .ref h_t_faults, v_t_latest])), (h_t_faults, .inr (3, [.ref h_t_faults_kinds, .ref h_t_faults_victimWords, .ref h_t_faults_victimMasks, .ref h_t_faults_otherWords, .ref h_t_faults_otherMasks, .int t_faults_count, v_t_faults_touchedWords, v_t_faults_bits])), (h_t_faults_victimWords, .inl (cI, n_t_faults_victimWords, .inl t_faults_victimWords_a)), (h_t_faults_victimMasks, .inl (cI, n_t_faults_victimMasks, .inl t_faults_victimMasks_a)), (h_t_faults_kinds, .inl (cI, n_t_faults_kinds, .inl t_faults_kinds_a)), (h_t_held, .inl (cI, n_t_held, .inl st.1)), (h_t_faults_otherWords, .inl (cI, n_t_faults_otherWords, .inl t_faults_otherWords_a)), (h_t_faults_otherMasks, .inl (cI, n_t_faults_otherMasks, .inl t_faults_otherMasks_a))] H → va_D A [(h_t, .inr (5, [v_t_words, v_t_bits, .ref h_t_held, .ref h_t_faults, v_t_latest])), (h_t_faults, .inr (3, [.ref h_t_faults_kinds, .ref h_t_faults_victimWords, .ref h_t_faults_victimMasks, .ref h_t_faults_otherWords, .ref h_t_faults_otherMasks, .int t_faults_count, v_t_faults_touchedWords, v_t_faults_bits])), (h_t_faults_victimWords, .inl (cI, n_t_faults_victimWords, .inl t_faults_victimWords_a)), (h_t_faults_victimMasks, .inl (cI, n_t_faults_victimMasks, .inl t_faults_victimMasks_a)), (h_t_faults_kinds, .inl (cI, n_t_faults_kinds, .inl t_faults_kinds_a)), (h_t_held, .inl (cI, n_t_held, .inl st.1)), (h_t_faults_otherWords, .inl (cI, n_t_faults_otherWords, .inl t_faults_otherWords_a)), (h_t_faults_otherMasks, .inl (cI, n_t_faults_otherMasks, .inl t_faults_otherMasks_a))] → va_S A s.heap H locs → lv_has ls 2 [(0, .ref h_t), (1, .int st.2)] → W p l e rm_Memory_rest s m args below meth c H locs 0 0 (MQ below (QW D (post_Memory_rest h_t h_t_faults h_t_faults_victimWords h_t_faults_victimMasks h_t_faults_kinds h_t_held h_t_faults_otherWords h_t_faults_otherMasks v_t_words v_t_bits v_t_latest v_t_faults_touchedWords v_t_faults_bits n_t_faults_victimWords n_t_faults_victimMasks n_t_faults_kinds n_t_held n_t_faults_otherWords n_t_faults_otherMasks t_faults_count t_faults_victimWords_a t_faults_victimMasks_a t_faults_kinds_a t_faults_otherWords_a t_faults_otherMasks_a cI cB cJ res) A) args s 0 0 A) (F0 m 2 ls []) := by
  intro n
  induction n with
  | zero => intro st hf; exact absurd hf (by simp [lp])
  | succ n ih =>
    intro st hf  H locs ls hP hD hS hl
    exact kb_Memory_rest_2 C0 hA (rec2 := lp (g_Memory_rest_2 n_t_faults_victimWords n_t_faults_victimMasks n_t_faults_kinds n_t_held n_t_faults_otherWords n_t_faults_otherMasks t_faults_count t_faults_victimWords_a t_faults_victimMasks_a t_faults_kinds_a t_faults_otherWords_a t_faults_otherMasks_a) n) (t_held_a := st.1) (x1 := st.2)  (fun st hf  H locs ls hP hD hS hl => ih st hf  H locs ls hP hD hS hl) hf hP hD hS hl
set_option maxHeartbeats 4000000 in
set_option maxRecDepth 100000 in
theorem c_Memory_rest (l : Launch) (D : va_G) (cI cB cJ : ClassId) (h_t h_t_faults h_t_faults_victimWords h_t_faults_victimMasks h_t_faults_kinds h_t_held h_t_faults_otherWords h_t_faults_otherMasks : Nat) (v_t_words v_t_bits v_t_latest v_t_faults_touchedWords v_t_faults_bits : Value) (n_t_faults_victimWords : Nat) (n_t_faults_victimMasks : Nat) (n_t_faults_kinds : Nat) (n_t_held : Nat) (n_t_faults_otherWords : Nat) (n_t_faults_otherMasks : Nat) (t_faults_count : Int32) (t_faults_victimWords_a : Nat → Int32) (t_faults_victimMasks_a : Nat → Int32) (t_faults_kinds_a : Nat → Int32) (t_held_a : Nat → Int32) (t_faults_otherWords_a : Nat → Int32) (t_faults_otherMasks_a : Nat → Int32) (sz : Nat) (res : (Nat → Int32)) (hf : f_Memory_rest n_t_faults_victimWords n_t_faults_victimMasks n_t_faults_kinds n_t_held n_t_faults_otherWords n_t_faults_otherMasks t_faults_count t_faults_victimWords_a t_faults_victimMasks_a t_faults_kinds_a t_held_a t_faults_otherWords_a t_faults_otherMasks_a = some res) : Met l y_Memory_rest (.code y_Memory_rest b_Memory_rest 2 none :: TB) rm_Memory_rest (PcW D [(cI, .int), (cB, .byte), (cJ, .long)] [.ref h_t] [(h_t, .inr (5, [v_t_words, v_t_bits, .ref h_t_held, .ref h_t_faults, v_t_latest])), (h_t_faults, .inr (3, [.ref h_t_faults_kinds, .ref h_t_faults_victimWords, .ref h_t_faults_victimMasks, .ref h_t_faults_otherWords, .ref h_t_faults_otherMasks, .int t_faults_count, v_t_faults_touchedWords, v_t_faults_bits])), (h_t_faults_victimWords, .inl (cI, n_t_faults_victimWords, .inl t_faults_victimWords_a)), (h_t_faults_victimMasks, .inl (cI, n_t_faults_victimMasks, .inl t_faults_victimMasks_a)), (h_t_faults_kinds, .inl (cI, n_t_faults_kinds, .inl t_faults_kinds_a)), (h_t_held, .inl (cI, n_t_held, .inl t_held_a)), (h_t_faults_otherWords, .inl (cI, n_t_faults_otherWords, .inl t_faults_otherWords_a)), (h_t_faults_otherMasks, .inl (cI, n_t_faults_otherMasks, .inl t_faults_otherMasks_a))] sz) (QW D (post_Memory_rest h_t h_t_faults h_t_faults_victimWords h_t_faults_victimMasks h_t_faults_kinds h_t_held h_t_faults_otherWords h_t_faults_otherMasks v_t_words v_t_bits v_t_latest v_t_faults_touchedWords v_t_faults_bits n_t_faults_victimWords n_t_faults_victimMasks n_t_faults_kinds n_t_held n_t_faults_otherWords n_t_faults_otherMasks t_faults_count t_faults_victimWords_a t_faults_victimMasks_a t_faults_kinds_a t_faults_otherWords_a t_faults_otherMasks_a cI cB cJ res) (va_A [(h_t, .inr (5, [v_t_words, v_t_bits, .ref h_t_held, .ref h_t_faults, v_t_latest])), (h_t_faults, .inr (3, [.ref h_t_faults_kinds, .ref h_t_faults_victimWords, .ref h_t_faults_victimMasks, .ref h_t_faults_otherWords, .ref h_t_faults_otherMasks, .int t_faults_count, v_t_faults_touchedWords, v_t_faults_bits])), (h_t_faults_victimWords, .inl (cI, n_t_faults_victimWords, .inl t_faults_victimWords_a)), (h_t_faults_victimMasks, .inl (cI, n_t_faults_victimMasks, .inl t_faults_victimMasks_a)), (h_t_faults_kinds, .inl (cI, n_t_faults_kinds, .inl t_faults_kinds_a)), (h_t_held, .inl (cI, n_t_held, .inl t_held_a)), (h_t_faults_otherWords, .inl (cI, n_t_faults_otherWords, .inl t_faults_otherWords_a)), (h_t_faults_otherMasks, .inl (cI, n_t_faults_otherMasks, .inl t_faults_otherMasks_a))] sz)) 0 0 (va_A [(h_t, .inr (5, [v_t_words, v_t_bits, .ref h_t_held, .ref h_t_faults, v_t_latest])), (h_t_faults, .inr (3, [.ref h_t_faults_kinds, .ref h_t_faults_victimWords, .ref h_t_faults_victimMasks, .ref h_t_faults_otherWords, .ref h_t_faults_otherMasks, .int t_faults_count, v_t_faults_touchedWords, v_t_faults_bits])), (h_t_faults_victimWords, .inl (cI, n_t_faults_victimWords, .inl t_faults_victimWords_a)), (h_t_faults_victimMasks, .inl (cI, n_t_faults_victimMasks, .inl t_faults_victimMasks_a)), (h_t_faults_kinds, .inl (cI, n_t_faults_kinds, .inl t_faults_kinds_a)), (h_t_held, .inl (cI, n_t_held, .inl t_held_a)), (h_t_faults_otherWords, .inl (cI, n_t_faults_otherWords, .inl t_faults_otherWords_a)), (h_t_faults_otherMasks, .inl (cI, n_t_faults_otherMasks, .inl t_faults_otherMasks_a))] sz) := by
  refine entW ⟨by decide +kernel, rfl⟩ fun p e s m below meth c C0 hP hD hsz ls hl => ?_
  subst hsz
  generalize hAe : va_A [(h_t, .inr (5, [v_t_words, v_t_bits, .ref h_t_held, .ref h_t_faults, v_t_latest])), (h_t_faults, .inr (3, [.ref h_t_faults_kinds, .ref h_t_faults_victimWords, .ref h_t_faults_victimMasks, .ref h_t_faults_otherWords, .ref h_t_faults_otherMasks, .int t_faults_count, v_t_faults_touchedWords, v_t_faults_bits])), (h_t_faults_victimWords, .inl (cI, n_t_faults_victimWords, .inl t_faults_victimWords_a)), (h_t_faults_victimMasks, .inl (cI, n_t_faults_victimMasks, .inl t_faults_victimMasks_a)), (h_t_faults_kinds, .inl (cI, n_t_faults_kinds, .inl t_faults_kinds_a)), (h_t_held, .inl (cI, n_t_held, .inl t_held_a)), (h_t_faults_otherWords, .inl (cI, n_t_faults_otherWords, .inl t_faults_otherWords_a)), (h_t_faults_otherMasks, .inl (cI, n_t_faults_otherMasks, .inl t_faults_otherMasks_a))] s.heap.size = A at hD ⊢
  have hA : ∀ q : Nat, s.heap.size ≤ q → A q := fun q h => by rw [← hAe]; exact Or.inr h
  clear hAe
  have hS : va_S A s.heap s.heap [] := va_S.rf
  have hl : lv_has ls 2 [(0, .ref h_t)] := hl
  obtain ⟨hx, hb, hml, hr, hlocks, hts, hown, hK, hin⟩ := id C0
  have hf : (((
  (lp (g_Memory_rest_2 n_t_faults_victimWords n_t_faults_victimMasks n_t_faults_kinds n_t_held n_t_faults_otherWords n_t_faults_otherMasks t_faults_count t_faults_victimWords_a t_faults_victimMasks_a t_faults_kinds_a t_faults_otherWords_a t_faults_otherMasks_a) 100000 (t_held_a, 0)))) : Option ((Nat → Int32))) = some res := hf
  obtain ⟨H, hH⟩ : ∃ H, H = s.heap := ⟨_, rfl⟩
  obtain ⟨locs, hlo⟩ : ∃ x : List Loc, x = [] := ⟨_, rfl⟩
  rw [← hlo] at hS ⊢
  have hP : va_P D classes [(h_t, .inr (5, [v_t_words, v_t_bits, .ref h_t_held, .ref h_t_faults, v_t_latest])), (h_t_faults, .inr (3, [.ref h_t_faults_kinds, .ref h_t_faults_victimWords, .ref h_t_faults_victimMasks, .ref h_t_faults_otherWords, .ref h_t_faults_otherMasks, .int t_faults_count, v_t_faults_touchedWords, v_t_faults_bits])), (h_t_faults_victimWords, .inl (cI, n_t_faults_victimWords, .inl t_faults_victimWords_a)), (h_t_faults_victimMasks, .inl (cI, n_t_faults_victimMasks, .inl t_faults_victimMasks_a)), (h_t_faults_kinds, .inl (cI, n_t_faults_kinds, .inl t_faults_kinds_a)), (h_t_held, .inl (cI, n_t_held, .inl t_held_a)), (h_t_faults_otherWords, .inl (cI, n_t_faults_otherWords, .inl t_faults_otherWords_a)), (h_t_faults_otherMasks, .inl (cI, n_t_faults_otherMasks, .inl t_faults_otherMasks_a))] H := by rw [hH]; exact hP
  have hS : va_S A s.heap H locs := by rw [hH]; exact hS
  show W p l e rm_Memory_rest s m _ below meth c s.heap locs 0 0 (MQ below (QW D (post_Memory_rest h_t h_t_faults h_t_faults_victimWords h_t_faults_victimMasks h_t_faults_kinds h_t_held h_t_faults_otherWords h_t_faults_otherMasks v_t_words v_t_bits v_t_latest v_t_faults_touchedWords v_t_faults_bits n_t_faults_victimWords n_t_faults_victimMasks n_t_faults_kinds n_t_held n_t_faults_otherWords n_t_faults_otherMasks t_faults_count t_faults_victimWords_a t_faults_victimMasks_a t_faults_kinds_a t_faults_otherWords_a t_faults_otherMasks_a cI cB cJ res) A) _ s 0 0 A) (F0 m 0 ls [])
  refine wheap hH ?_
  clear hH hlo
  refine lv_iconst (v := 0) hx hb d_Memory_rest_0 (by decide) ?_
  refine lv_istore_n (lv' := [(1, .int 0), (0, .ref h_t)]) hx hb d_Memory_rest_1 rfl hl (by decide) rfl (fun ls hl => ?_)
  exact k_Memory_rest_2 (s := s) C0 hA _ (t_held_a, 0) hf  H locs ls hP hD hS (lv_sub hl [1, 0] rfl)
def f_FaultList_touches (t_touchedWords : Int32) (a1 : Int32) : Option (Int32) :=
  (if ((t_touchedWords >>> (a1 &&& 31)) &&& 1) = 0 then
    some 0
  else
    some 1)
def post_FaultList_touches (h_t : Nat) (v_t_kinds v_t_victimWords v_t_victimMasks v_t_otherWords v_t_otherMasks v_t_count v_t_bits : Value) (t_touchedWords : Int32) (cI cB cJ : ClassId) (res : Int32) : Option Value → va_W → Prop := fun o ws' => o = some (.int res) ∧ ws' = [(h_t, .inr (3, [v_t_kinds, v_t_victimWords, v_t_victimMasks, v_t_otherWords, v_t_otherMasks, v_t_count, .int t_touchedWords, v_t_bits]))]
abbrev rm_FaultList_touches : Room := { frames := 0, cells := 0, slots := 0, locals := 0 }
set_option maxHeartbeats 4000000 in
set_option maxRecDepth 100000 in
theorem c_FaultList_touches (l : Launch) (D : va_G) (cI cB cJ : ClassId) (h_t : Nat) (v_t_kinds v_t_victimWords v_t_victimMasks v_t_otherWords v_t_otherMasks v_t_count v_t_bits : Value) (t_touchedWords : Int32) (a1 : Int32) (sz : Nat) (res : Int32) (hf : f_FaultList_touches t_touchedWords a1 = some res) : Met l y_FaultList_touches (.code y_FaultList_touches b_FaultList_touches 2 (some .boolean) :: TB) rm_FaultList_touches (PcW D [(cI, .int), (cB, .byte), (cJ, .long)] [.ref h_t, .int a1] [(h_t, .inr (3, [v_t_kinds, v_t_victimWords, v_t_victimMasks, v_t_otherWords, v_t_otherMasks, v_t_count, .int t_touchedWords, v_t_bits]))] sz) (QW D (post_FaultList_touches h_t v_t_kinds v_t_victimWords v_t_victimMasks v_t_otherWords v_t_otherMasks v_t_count v_t_bits t_touchedWords cI cB cJ res) (va_A [(h_t, .inr (3, [v_t_kinds, v_t_victimWords, v_t_victimMasks, v_t_otherWords, v_t_otherMasks, v_t_count, .int t_touchedWords, v_t_bits]))] sz)) 0 0 (va_A [(h_t, .inr (3, [v_t_kinds, v_t_victimWords, v_t_victimMasks, v_t_otherWords, v_t_otherMasks, v_t_count, .int t_touchedWords, v_t_bits]))] sz) := by
  refine entW ⟨by decide +kernel, rfl⟩ fun p e s m below meth c C0 hP hD hsz ls hl => ?_
  subst hsz
  generalize hAe : va_A [(h_t, .inr (3, [v_t_kinds, v_t_victimWords, v_t_victimMasks, v_t_otherWords, v_t_otherMasks, v_t_count, .int t_touchedWords, v_t_bits]))] s.heap.size = A at hD ⊢
  have hA : ∀ q : Nat, s.heap.size ≤ q → A q := fun q h => by rw [← hAe]; exact Or.inr h
  clear hAe
  have hS : va_S A s.heap s.heap [] := va_S.rf
  have hl : lv_has ls 2 [(0, .ref h_t), (1, .int a1)] := hl
  obtain ⟨hx, hb, hml, hr, hlocks, hts, hown, hK, hin⟩ := id C0
  have hf : (((
  (if ((t_touchedWords >>> (a1 &&& 31)) &&& 1) = 0 then
    some 0
  else
    some 1))) : Option (Int32)) = some res := hf
  obtain ⟨H, hH⟩ : ∃ H, H = s.heap := ⟨_, rfl⟩
  obtain ⟨locs, hlo⟩ : ∃ x : List Loc, x = [] := ⟨_, rfl⟩
  rw [← hlo] at hS ⊢
  have hP : va_P D classes [(h_t, .inr (3, [v_t_kinds, v_t_victimWords, v_t_victimMasks, v_t_otherWords, v_t_otherMasks, v_t_count, .int t_touchedWords, v_t_bits]))] H := by rw [hH]; exact hP
  have hS : va_S A s.heap H locs := by rw [hH]; exact hS
  show W p l e rm_FaultList_touches s m _ below meth c s.heap locs 0 0 (MQ below (QW D (post_FaultList_touches h_t v_t_kinds v_t_victimWords v_t_victimMasks v_t_otherWords v_t_otherMasks v_t_count v_t_bits t_touchedWords cI cB cJ res) A) _ s 0 0 A) (F0 m 0 ls [])
  refine wheap hH ?_
  clear hH hlo
  refine lv_aload_n hx hb d_FaultList_touches_0 rfl (lv_at hl 0 rfl) ?_
  refine va_get (D := D) (ci := 3) (v := .int t_touchedWords) (C := R_FaultList) (T := F_FaultList) (N := 8) hx hb hts i_FaultList hown hK.1 hP 0 rfl rfl 6 (by decide) (hts _ w_175) (fun _ h9 => h9) rfl d_FaultList_touches_1 ?_
  refine lv_iload_n hx hb d_FaultList_touches_4 rfl (lv_at hl 1 rfl) ?_
  refine lv_ishr hx hb d_FaultList_touches_5 ?_
  refine lv_iconst (v := 1) hx hb d_FaultList_touches_6 (by decide) ?_
  refine lv_iand hx hb d_FaultList_touches_7 ?_
  refine lv_if_eq (tgt := 15) hx hb d_FaultList_touches_8 (by decide) (fun cc8 => ?_) (fun cc8 => ?_)
  · have hf := ifT cc8 hf
    refine lv_iconst (v := 0) hx hb d_FaultList_touches_15 (by decide) ?_
    obtain rfl := Option.some.inj hf
    exact ret_z hx hb hr rfl hlocks hP hD hS ⟨rfl, rfl⟩ d_FaultList_touches_16
  · have hf := ifF cc8 hf
    refine lv_iconst (v := 1) hx hb d_FaultList_touches_11 (by decide) ?_
    refine lv_goto (tgt := 16) hx hb d_FaultList_touches_12 (by decide) ?_
    obtain rfl := Option.some.inj hf
    exact ret_z hx hb hr rfl hlocks hP hD hS ⟨rfl, rfl⟩ d_FaultList_touches_16
def f_FaultList_isVictim (n_t_victimWords : Nat) (n_t_victimMasks : Nat) (t_victimWords_a : Nat → Int32) (t_victimMasks_a : Nat → Int32) (a1 : Int32) (a2 : Int32) (a3 : Int32) : Option (Int32) :=
  (if inB a1 n_t_victimWords = true then
  (if (t_victimWords_a (Int32.toNatClampNeg a1)) = a2 then
    (if inB a1 n_t_victimMasks = true then
    (if (t_victimMasks_a (Int32.toNatClampNeg a1)) = a3 then
      some 1
    else
      some 0)
    else none)
  else
    some 0)
  else none)
def post_FaultList_isVictim (h_t h_t_victimWords h_t_victimMasks : Nat) (v_t_kinds v_t_otherWords v_t_otherMasks v_t_count v_t_touchedWords v_t_bits : Value) (n_t_victimWords : Nat) (n_t_victimMasks : Nat) (t_victimWords_a : Nat → Int32) (t_victimMasks_a : Nat → Int32) (cI cB cJ : ClassId) (res : Int32) : Option Value → va_W → Prop := fun o ws' => o = some (.int res) ∧ ws' = [(h_t, .inr (3, [v_t_kinds, .ref h_t_victimWords, .ref h_t_victimMasks, v_t_otherWords, v_t_otherMasks, v_t_count, v_t_touchedWords, v_t_bits])), (h_t_victimWords, .inl (cI, n_t_victimWords, .inl t_victimWords_a)), (h_t_victimMasks, .inl (cI, n_t_victimMasks, .inl t_victimMasks_a))]
abbrev rm_FaultList_isVictim : Room := { frames := 0, cells := 0, slots := 0, locals := 0 }
set_option maxHeartbeats 4000000 in
set_option maxRecDepth 100000 in
theorem c_FaultList_isVictim (l : Launch) (D : va_G) (cI cB cJ : ClassId) (h_t h_t_victimWords h_t_victimMasks : Nat) (v_t_kinds v_t_otherWords v_t_otherMasks v_t_count v_t_touchedWords v_t_bits : Value) (n_t_victimWords : Nat) (n_t_victimMasks : Nat) (t_victimWords_a : Nat → Int32) (t_victimMasks_a : Nat → Int32) (a1 : Int32) (a2 : Int32) (a3 : Int32) (sz : Nat) (res : Int32) (hf : f_FaultList_isVictim n_t_victimWords n_t_victimMasks t_victimWords_a t_victimMasks_a a1 a2 a3 = some res) : Met l y_FaultList_isVictim (.code y_FaultList_isVictim b_FaultList_isVictim 4 (some .boolean) :: TB) rm_FaultList_isVictim (PcW D [(cI, .int), (cB, .byte), (cJ, .long)] [.ref h_t, .int a1, .int a2, .int a3] [(h_t, .inr (3, [v_t_kinds, .ref h_t_victimWords, .ref h_t_victimMasks, v_t_otherWords, v_t_otherMasks, v_t_count, v_t_touchedWords, v_t_bits])), (h_t_victimWords, .inl (cI, n_t_victimWords, .inl t_victimWords_a)), (h_t_victimMasks, .inl (cI, n_t_victimMasks, .inl t_victimMasks_a))] sz) (QW D (post_FaultList_isVictim h_t h_t_victimWords h_t_victimMasks v_t_kinds v_t_otherWords v_t_otherMasks v_t_count v_t_touchedWords v_t_bits n_t_victimWords n_t_victimMasks t_victimWords_a t_victimMasks_a cI cB cJ res) (va_A [(h_t, .inr (3, [v_t_kinds, .ref h_t_victimWords, .ref h_t_victimMasks, v_t_otherWords, v_t_otherMasks, v_t_count, v_t_touchedWords, v_t_bits])), (h_t_victimWords, .inl (cI, n_t_victimWords, .inl t_victimWords_a)), (h_t_victimMasks, .inl (cI, n_t_victimMasks, .inl t_victimMasks_a))] sz)) 0 0 (va_A [(h_t, .inr (3, [v_t_kinds, .ref h_t_victimWords, .ref h_t_victimMasks, v_t_otherWords, v_t_otherMasks, v_t_count, v_t_touchedWords, v_t_bits])), (h_t_victimWords, .inl (cI, n_t_victimWords, .inl t_victimWords_a)), (h_t_victimMasks, .inl (cI, n_t_victimMasks, .inl t_victimMasks_a))] sz) := by
  refine entW ⟨by decide +kernel, rfl⟩ fun p e s m below meth c C0 hP hD hsz ls hl => ?_
  subst hsz
  generalize hAe : va_A [(h_t, .inr (3, [v_t_kinds, .ref h_t_victimWords, .ref h_t_victimMasks, v_t_otherWords, v_t_otherMasks, v_t_count, v_t_touchedWords, v_t_bits])), (h_t_victimWords, .inl (cI, n_t_victimWords, .inl t_victimWords_a)), (h_t_victimMasks, .inl (cI, n_t_victimMasks, .inl t_victimMasks_a))] s.heap.size = A at hD ⊢
  have hA : ∀ q : Nat, s.heap.size ≤ q → A q := fun q h => by rw [← hAe]; exact Or.inr h
  clear hAe
  have hS : va_S A s.heap s.heap [] := va_S.rf
  have hl : lv_has ls 4 [(0, .ref h_t), (1, .int a1), (2, .int a2), (3, .int a3)] := hl
  obtain ⟨hx, hb, hml, hr, hlocks, hts, hown, hK, hin⟩ := id C0
  have hf : (((
  (if inB a1 n_t_victimWords = true then
  (if (t_victimWords_a (Int32.toNatClampNeg a1)) = a2 then
    (if inB a1 n_t_victimMasks = true then
    (if (t_victimMasks_a (Int32.toNatClampNeg a1)) = a3 then
      some 1
    else
      some 0)
    else none)
  else
    some 0)
  else none))) : Option (Int32)) = some res := hf
  obtain ⟨H, hH⟩ : ∃ H, H = s.heap := ⟨_, rfl⟩
  obtain ⟨locs, hlo⟩ : ∃ x : List Loc, x = [] := ⟨_, rfl⟩
  rw [← hlo] at hS ⊢
  have hP : va_P D classes [(h_t, .inr (3, [v_t_kinds, .ref h_t_victimWords, .ref h_t_victimMasks, v_t_otherWords, v_t_otherMasks, v_t_count, v_t_touchedWords, v_t_bits])), (h_t_victimWords, .inl (cI, n_t_victimWords, .inl t_victimWords_a)), (h_t_victimMasks, .inl (cI, n_t_victimMasks, .inl t_victimMasks_a))] H := by rw [hH]; exact hP
  have hS : va_S A s.heap H locs := by rw [hH]; exact hS
  show W p l e rm_FaultList_isVictim s m _ below meth c s.heap locs 0 0 (MQ below (QW D (post_FaultList_isVictim h_t h_t_victimWords h_t_victimMasks v_t_kinds v_t_otherWords v_t_otherMasks v_t_count v_t_touchedWords v_t_bits n_t_victimWords n_t_victimMasks t_victimWords_a t_victimMasks_a cI cB cJ res) A) _ s 0 0 A) (F0 m 0 ls [])
  refine wheap hH ?_
  clear hH hlo
  refine lv_aload_n hx hb d_FaultList_isVictim_0 rfl (lv_at hl 0 rfl) ?_
  refine va_get (D := D) (ci := 3) (v := .ref h_t_victimWords) (C := R_FaultList) (T := F_FaultList) (N := 8) hx hb hts i_FaultList hown hK.1 hP 0 rfl rfl 1 (by decide) (hts _ w_12) (fun _ h9 => h9) rfl d_FaultList_isVictim_1 ?_
  refine lv_iload_n hx hb d_FaultList_isVictim_4 rfl (lv_at hl 1 rfl) ?_
  obtain ⟨hin1, hf⟩ := ifG hf
  refine va_iald hx hb hK.1 hP 1 0 rfl rfl (inB_in hin1) d_FaultList_isVictim_5 ?_
  refine lv_iload_n hx hb d_FaultList_isVictim_6 rfl (lv_at hl 2 rfl) ?_
  refine lv_icmp_ne (tgt := 24) hx hb d_FaultList_isVictim_7 (by decide) (fun cc7 => ?_) (fun cc7 => ?_)
  · have hf := ifF cc7 hf
    refine lv_iconst (v := 0) hx hb d_FaultList_isVictim_24 (by decide) ?_
    obtain rfl := Option.some.inj hf
    exact ret_z hx hb hr rfl hlocks hP hD hS ⟨rfl, rfl⟩ d_FaultList_isVictim_25
  · have hf := ifT cc7 hf
    refine lv_aload_n hx hb d_FaultList_isVictim_10 rfl (lv_at hl 0 rfl) ?_
    refine va_get (D := D) (ci := 3) (v := .ref h_t_victimMasks) (C := R_FaultList) (T := F_FaultList) (N := 8) hx hb hts i_FaultList hown hK.1 hP 0 rfl rfl 2 (by decide) (hts _ w_13) (fun _ h9 => h9) rfl d_FaultList_isVictim_11 ?_
    refine lv_iload_n hx hb d_FaultList_isVictim_14 rfl (lv_at hl 1 rfl) ?_
    obtain ⟨hin1, hf⟩ := ifG hf
    refine va_iald hx hb hK.1 hP 2 0 rfl rfl (inB_in hin1) d_FaultList_isVictim_15 ?_
    refine lv_iload_n hx hb d_FaultList_isVictim_16 rfl (lv_at hl 3 rfl) ?_
    refine lv_icmp_ne (tgt := 24) hx hb d_FaultList_isVictim_17 (by decide) (fun cc17 => ?_) (fun cc17 => ?_)
    · have hf := ifF cc17 hf
      refine lv_iconst (v := 0) hx hb d_FaultList_isVictim_24 (by decide) ?_
      obtain rfl := Option.some.inj hf
      exact ret_z hx hb hr rfl hlocks hP hD hS ⟨rfl, rfl⟩ d_FaultList_isVictim_25
    · have hf := ifT cc17 hf
      refine lv_iconst (v := 1) hx hb d_FaultList_isVictim_20 (by decide) ?_
      refine lv_goto (tgt := 25) hx hb d_FaultList_isVictim_21 (by decide) ?_
      obtain rfl := Option.some.inj hf
      exact ret_z hx hb hr rfl hlocks hP hD hS ⟨rfl, rfl⟩ d_FaultList_isVictim_25
def f_Memory_struckValue (a1 : Int32) (a2 : Int32) (a3 : Int32) (a4 : Int32) (a5 : Int32) : Option (Int32) :=
  (if a1 = 0 then
    some 0
  else
    (if a1 = 1 then
      some a2
    else
      (if a1 = 2 then
        (if a4 = 0 then
          some 0
        else
          some a5)
      else
        (if a1 = 3 then
          (if a4 = 0 then
            some a5
          else
            some a2)
        else
          (if a1 = 4 then
            some a4
          else
            (if a1 = 5 then
              some a5
            else
              (if a1 = 6 then
                some a5
              else
                (if a1 = 7 then
                  some a5
                else
                  (if a1 = 8 then
                    some a5
                  else
                    (if a1 = 9 then
                      (if a3 = a4 then
                        some (a4 ^^^ a2)
                      else
                        some a5)
                    else
                      some a5))))))))))
def post_Memory_struckValue (cI cB cJ : ClassId) (res : Int32) : Option Value → va_W → Prop := fun o ws' => o = some (.int res) ∧ ws' = []
abbrev rm_Memory_struckValue : Room := { frames := 0, cells := 0, slots := 0, locals := 0 }
set_option maxHeartbeats 4000000 in
set_option maxRecDepth 100000 in
theorem c_Memory_struckValue (l : Launch) (D : va_G) (cI cB cJ : ClassId)   (a1 : Int32) (a2 : Int32) (a3 : Int32) (a4 : Int32) (a5 : Int32) (sz : Nat) (res : Int32) (hf : f_Memory_struckValue a1 a2 a3 a4 a5 = some res) : Met l y_Memory_struckValue (.code y_Memory_struckValue b_Memory_struckValue 5 (some .int) :: TB) rm_Memory_struckValue (PcW D [(cI, .int), (cB, .byte), (cJ, .long)] [.int a1, .int a2, .int a3, .int a4, .int a5] [] sz) (QW D (post_Memory_struckValue cI cB cJ res) (va_A [] sz)) 0 0 (va_A [] sz) := by
  refine entW ⟨by decide +kernel, rfl⟩ fun p e s m below meth c C0 hP hD hsz ls hl => ?_
  subst hsz
  generalize hAe : va_A [] s.heap.size = A at hD ⊢
  have hA : ∀ q : Nat, s.heap.size ≤ q → A q := fun q h => by rw [← hAe]; exact Or.inr h
  clear hAe
  have hS : va_S A s.heap s.heap [] := va_S.rf
  have hl : lv_has ls 5 [(0, .int a1), (1, .int a2), (2, .int a3), (3, .int a4), (4, .int a5)] := hl
  obtain ⟨hx, hb, hml, hr, hlocks, hts, hown, hK, hin⟩ := id C0
  have hf : (((
  (if a1 = 0 then
    some 0
  else
    (if a1 = 1 then
      some a2
    else
      (if a1 = 2 then
        (if a4 = 0 then
          some 0
        else
          some a5)
      else
        (if a1 = 3 then
          (if a4 = 0 then
            some a5
          else
            some a2)
        else
          (if a1 = 4 then
            some a4
          else
            (if a1 = 5 then
              some a5
            else
              (if a1 = 6 then
                some a5
              else
                (if a1 = 7 then
                  some a5
                else
                  (if a1 = 8 then
                    some a5
                  else
                    (if a1 = 9 then
                      (if a3 = a4 then
                        some (a4 ^^^ a2)
                      else
                        some a5)
                    else
                      some a5)))))))))))) : Option (Int32)) = some res := hf
  obtain ⟨H, hH⟩ : ∃ H, H = s.heap := ⟨_, rfl⟩
  obtain ⟨locs, hlo⟩ : ∃ x : List Loc, x = [] := ⟨_, rfl⟩
  rw [← hlo] at hS ⊢
  have hP : va_P D classes [] H := by rw [hH]; exact hP
  have hS : va_S A s.heap H locs := by rw [hH]; exact hS
  show W p l e rm_Memory_struckValue s m _ below meth c s.heap locs 0 0 (MQ below (QW D (post_Memory_struckValue cI cB cJ res) A) _ s 0 0 A) (F0 m 0 ls [])
  refine wheap hH ?_
  clear hH hlo
  refine lv_iload_n hx hb d_Memory_struckValue_0 rfl (lv_at hl 0 rfl) ?_
  by_cases cs : a1 = 0
  · have hf := ifT cs hf
    refine lv_tableIn (off := 55) (tgt := 56) hx hb d_Memory_struckValue_1 (by rw [cs]; decide) (by rw [cs]; decide) (by rw [cs] <;> rfl) (by decide) ?_
    refine lv_iconst (v := 0) hx hb d_Memory_struckValue_56 (by decide) ?_
    obtain rfl := Option.some.inj hf
    exact ret_i hx hb hr hlocks hP hD hS ⟨rfl, rfl⟩ d_Memory_struckValue_57
  · have hf := ifF cs hf
    have cs0 := cs
    by_cases cs : a1 = 1
    · have hf := ifT cs hf
      refine lv_tableIn (off := 57) (tgt := 58) hx hb d_Memory_struckValue_1 (by rw [cs]; decide) (by rw [cs]; decide) (by rw [cs] <;> rfl) (by decide) ?_
      refine lv_iload_n hx hb d_Memory_struckValue_58 rfl (lv_at hl 1 rfl) ?_
      obtain rfl := Option.some.inj hf
      exact ret_i hx hb hr hlocks hP hD hS ⟨rfl, rfl⟩ d_Memory_struckValue_59
    · have hf := ifF cs hf
      have cs1 := cs
      by_cases cs : a1 = 2
      · have hf := ifT cs hf
        refine lv_tableIn (off := 59) (tgt := 60) hx hb d_Memory_struckValue_1 (by rw [cs]; decide) (by rw [cs]; decide) (by rw [cs] <;> rfl) (by decide) ?_
        refine lv_iload_n hx hb d_Memory_struckValue_60 rfl (lv_at hl 3 rfl) ?_
        refine lv_if_ne (tgt := 68) hx hb d_Memory_struckValue_61 (by decide) (fun cc61 => ?_) (fun cc61 => ?_)
        · have hf := ifF cc61 hf
          refine lv_iload hx hb d_Memory_struckValue_68 (lv_at hl 4 rfl) ?_
          obtain rfl := Option.some.inj hf
          exact ret_i hx hb hr hlocks hP hD hS ⟨rfl, rfl⟩ d_Memory_struckValue_70
        · have hf := ifT cc61 hf
          refine lv_iconst (v := 0) hx hb d_Memory_struckValue_64 (by decide) ?_
          refine lv_goto (tgt := 70) hx hb d_Memory_struckValue_65 (by decide) ?_
          obtain rfl := Option.some.inj hf
          exact ret_i hx hb hr hlocks hP hD hS ⟨rfl, rfl⟩ d_Memory_struckValue_70
      · have hf := ifF cs hf
        have cs2 := cs
        by_cases cs : a1 = 3
        · have hf := ifT cs hf
          refine lv_tableIn (off := 70) (tgt := 71) hx hb d_Memory_struckValue_1 (by rw [cs]; decide) (by rw [cs]; decide) (by rw [cs] <;> rfl) (by decide) ?_
          refine lv_iload_n hx hb d_Memory_struckValue_71 rfl (lv_at hl 3 rfl) ?_
          refine lv_if_eq (tgt := 79) hx hb d_Memory_struckValue_72 (by decide) (fun cc72 => ?_) (fun cc72 => ?_)
          · have hf := ifT cc72 hf
            refine lv_iload hx hb d_Memory_struckValue_79 (lv_at hl 4 rfl) ?_
            obtain rfl := Option.some.inj hf
            exact ret_i hx hb hr hlocks hP hD hS ⟨rfl, rfl⟩ d_Memory_struckValue_81
          · have hf := ifF cc72 hf
            refine lv_iload_n hx hb d_Memory_struckValue_75 rfl (lv_at hl 1 rfl) ?_
            refine lv_goto (tgt := 81) hx hb d_Memory_struckValue_76 (by decide) ?_
            obtain rfl := Option.some.inj hf
            exact ret_i hx hb hr hlocks hP hD hS ⟨rfl, rfl⟩ d_Memory_struckValue_81
        · have hf := ifF cs hf
          have cs3 := cs
          by_cases cs : a1 = 4
          · have hf := ifT cs hf
            refine lv_tableIn (off := 81) (tgt := 82) hx hb d_Memory_struckValue_1 (by rw [cs]; decide) (by rw [cs]; decide) (by rw [cs] <;> rfl) (by decide) ?_
            refine lv_iload_n hx hb d_Memory_struckValue_82 rfl (lv_at hl 3 rfl) ?_
            obtain rfl := Option.some.inj hf
            exact ret_i hx hb hr hlocks hP hD hS ⟨rfl, rfl⟩ d_Memory_struckValue_83
          · have hf := ifF cs hf
            have cs4 := cs
            by_cases cs : a1 = 5
            · have hf := ifT cs hf
              refine lv_tableIn (off := 97) (tgt := 98) hx hb d_Memory_struckValue_1 (by rw [cs]; decide) (by rw [cs]; decide) (by rw [cs] <;> rfl) (by decide) ?_
              refine lv_iload hx hb d_Memory_struckValue_98 (lv_at hl 4 rfl) ?_
              obtain rfl := Option.some.inj hf
              exact ret_i hx hb hr hlocks hP hD hS ⟨rfl, rfl⟩ d_Memory_struckValue_100
            · have hf := ifF cs hf
              have cs5 := cs
              by_cases cs : a1 = 6
              · have hf := ifT cs hf
                refine lv_tableIn (off := 97) (tgt := 98) hx hb d_Memory_struckValue_1 (by rw [cs]; decide) (by rw [cs]; decide) (by rw [cs] <;> rfl) (by decide) ?_
                refine lv_iload hx hb d_Memory_struckValue_98 (lv_at hl 4 rfl) ?_
                obtain rfl := Option.some.inj hf
                exact ret_i hx hb hr hlocks hP hD hS ⟨rfl, rfl⟩ d_Memory_struckValue_100
              · have hf := ifF cs hf
                have cs6 := cs
                by_cases cs : a1 = 7
                · have hf := ifT cs hf
                  refine lv_tableIn (off := 97) (tgt := 98) hx hb d_Memory_struckValue_1 (by rw [cs]; decide) (by rw [cs]; decide) (by rw [cs] <;> rfl) (by decide) ?_
                  refine lv_iload hx hb d_Memory_struckValue_98 (lv_at hl 4 rfl) ?_
                  obtain rfl := Option.some.inj hf
                  exact ret_i hx hb hr hlocks hP hD hS ⟨rfl, rfl⟩ d_Memory_struckValue_100
                · have hf := ifF cs hf
                  have cs7 := cs
                  by_cases cs : a1 = 8
                  · have hf := ifT cs hf
                    refine lv_tableIn (off := 97) (tgt := 98) hx hb d_Memory_struckValue_1 (by rw [cs]; decide) (by rw [cs]; decide) (by rw [cs] <;> rfl) (by decide) ?_
                    refine lv_iload hx hb d_Memory_struckValue_98 (lv_at hl 4 rfl) ?_
                    obtain rfl := Option.some.inj hf
                    exact ret_i hx hb hr hlocks hP hD hS ⟨rfl, rfl⟩ d_Memory_struckValue_100
                  · have hf := ifF cs hf
                    have cs8 := cs
                    by_cases cs : a1 = 9
                    · have hf := ifT cs hf
                      refine lv_tableIn (off := 83) (tgt := 84) hx hb d_Memory_struckValue_1 (by rw [cs]; decide) (by rw [cs]; decide) (by rw [cs] <;> rfl) (by decide) ?_
                      refine lv_iload_n hx hb d_Memory_struckValue_84 rfl (lv_at hl 2 rfl) ?_
                      refine lv_iload_n hx hb d_Memory_struckValue_85 rfl (lv_at hl 3 rfl) ?_
                      refine lv_icmp_ne (tgt := 95) hx hb d_Memory_struckValue_86 (by decide) (fun cc86 => ?_) (fun cc86 => ?_)
                      · have hf := ifF cc86 hf
                        refine lv_iload hx hb d_Memory_struckValue_95 (lv_at hl 4 rfl) ?_
                        obtain rfl := Option.some.inj hf
                        exact ret_i hx hb hr hlocks hP hD hS ⟨rfl, rfl⟩ d_Memory_struckValue_97
                      · have hf := ifT cc86 hf
                        refine lv_iload_n hx hb d_Memory_struckValue_89 rfl (lv_at hl 3 rfl) ?_
                        refine lv_iload_n hx hb d_Memory_struckValue_90 rfl (lv_at hl 1 rfl) ?_
                        refine lv_ixor hx hb d_Memory_struckValue_91 ?_
                        refine lv_goto (tgt := 97) hx hb d_Memory_struckValue_92 (by decide) ?_
                        obtain rfl := Option.some.inj hf
                        exact ret_i hx hb hr hlocks hP hD hS ⟨rfl, rfl⟩ d_Memory_struckValue_97
                    · have hf := ifF cs hf
                      have cs9 := cs
                      refine lv_tableOut (tgt := 98) hx hb d_Memory_struckValue_1 (by have n0 := lv_neT (a := 0) cs0 (by decide); have n1 := lv_neT (a := 1) cs1 (by decide); have n2 := lv_neT (a := 2) cs2 (by decide); have n3 := lv_neT (a := 3) cs3 (by decide); have n4 := lv_neT (a := 4) cs4 (by decide); have n5 := lv_neT (a := 5) cs5 (by decide); have n6 := lv_neT (a := 6) cs6 (by decide); have n7 := lv_neT (a := 7) cs7 (by decide); have n8 := lv_neT (a := 8) cs8 (by decide); have n9 := lv_neT (a := 9) cs9 (by decide); omega) (by decide) ?_
                      refine lv_iload hx hb d_Memory_struckValue_98 (lv_at hl 4 rfl) ?_
                      obtain rfl := Option.some.inj hf
                      exact ret_i hx hb hr hlocks hP hD hS ⟨rfl, rfl⟩ d_Memory_struckValue_100
def g_Memory_valueToStore_16 (n_t_faults_victimWords : Nat) (n_t_faults_victimMasks : Nat) (n_t_faults_kinds : Nat) (t_faults_count : Int32) (t_faults_victimWords_a : Nat → Int32) (t_faults_victimMasks_a : Nat → Int32) (t_faults_kinds_a : Nat → Int32) (x1 : Int32) (x2 : Int32) (x3 : Int32) (x4 : Int32) (rec16 : (Int32 × Int32) → Option (Int32)) (st : (Int32 × Int32)) : Option (Int32) :=
  (if t_faults_count ≤ st.2 then
    some st.1
  else
    (Option.bind (f_FaultList_isVictim n_t_faults_victimWords n_t_faults_victimMasks t_faults_victimWords_a t_faults_victimMasks_a st.2 x1 x2) fun q36_1 =>
    (if q36_1 = 0 then
      (rec16 (st.1, (st.2 + 1)))
    else
      (if inB st.2 n_t_faults_kinds = true then
      (Option.bind (f_Memory_struckValue (t_faults_kinds_a (Int32.toNatClampNeg st.2)) x2 x3 x4 st.1) fun q58_2 =>
      (rec16 (q58_2, (st.2 + 1))))
      else none))))
def f_Memory_valueToStore (n_t_held : Nat) (n_t_faults_victimWords : Nat) (n_t_faults_victimMasks : Nat) (n_t_faults_kinds : Nat) (t_held_a : Nat → Int32) (t_faults_count : Int32) (t_faults_victimWords_a : Nat → Int32) (t_faults_victimMasks_a : Nat → Int32) (t_faults_kinds_a : Nat → Int32) (a1 : Int32) (a2 : Int32) (a3 : Int32) : Option (Int32) :=
  (if inB a1 n_t_held = true then
  (lp (g_Memory_valueToStore_16 n_t_faults_victimWords n_t_faults_victimMasks n_t_faults_kinds t_faults_count t_faults_victimWords_a t_faults_victimMasks_a t_faults_kinds_a a1 a2 a3 ((t_held_a (Int32.toNatClampNeg a1)) &&& a2)) 100000 (a3, 0))
  else none)
def post_Memory_valueToStore (h_t h_t_held h_t_faults h_t_faults_victimWords h_t_faults_victimMasks h_t_faults_kinds : Nat) (v_t_words v_t_bits v_t_latest v_t_faults_otherWords v_t_faults_otherMasks v_t_faults_touchedWords v_t_faults_bits : Value) (n_t_held : Nat) (n_t_faults_victimWords : Nat) (n_t_faults_victimMasks : Nat) (n_t_faults_kinds : Nat) (t_held_a : Nat → Int32) (t_faults_count : Int32) (t_faults_victimWords_a : Nat → Int32) (t_faults_victimMasks_a : Nat → Int32) (t_faults_kinds_a : Nat → Int32) (cI cB cJ : ClassId) (res : Int32) : Option Value → va_W → Prop := fun o ws' => o = some (.int res) ∧ ws' = [(h_t, .inr (5, [v_t_words, v_t_bits, .ref h_t_held, .ref h_t_faults, v_t_latest])), (h_t_held, .inl (cI, n_t_held, .inl t_held_a)), (h_t_faults, .inr (3, [.ref h_t_faults_kinds, .ref h_t_faults_victimWords, .ref h_t_faults_victimMasks, v_t_faults_otherWords, v_t_faults_otherMasks, .int t_faults_count, v_t_faults_touchedWords, v_t_faults_bits])), (h_t_faults_victimWords, .inl (cI, n_t_faults_victimWords, .inl t_faults_victimWords_a)), (h_t_faults_victimMasks, .inl (cI, n_t_faults_victimMasks, .inl t_faults_victimMasks_a)), (h_t_faults_kinds, .inl (cI, n_t_faults_kinds, .inl t_faults_kinds_a))]
abbrev rm_Memory_valueToStore : Room := { frames := 1, cells := 0, slots := 0, locals := 24 }
set_option maxHeartbeats 4000000 in
set_option maxRecDepth 100000 in
theorem kb_Memory_valueToStore_16 {p : Program} {l : Launch} {e : Env} {s : State} {m : MethodId} {args : Array Value} {below : List Frame} {meth : Method} {c : Code} {D : va_G} {cI cB cJ : ClassId} {A : Nat → Prop} (C0 : CX p s m args meth c D [(cI, .int), (cB, .byte), (cJ, .long)] R_Memory b_Memory_valueToStore 7 (some .int) "valueToStore") (hA : ∀ q, s.heap.size ≤ q → A q) {h_t h_t_held h_t_faults h_t_faults_victimWords h_t_faults_victimMasks h_t_faults_kinds : Nat} {v_t_words v_t_bits v_t_latest v_t_faults_otherWords v_t_faults_otherMasks v_t_faults_touchedWords v_t_faults_bits : Value} {res : Int32} {rec16 : (Int32 × Int32) → Option (Int32)} {n_t_held : Nat} {n_t_faults_victimWords : Nat} {n_t_faults_victimMasks : Nat} {n_t_faults_kinds : Nat} {t_held_a : Nat → Int32} {t_faults_count : Int32} {t_faults_victimWords_a : Nat → Int32} {t_faults_victimMasks_a : Nat → Int32} {t_faults_kinds_a : Nat → Int32} {x1 : Int32} {x2 : Int32} {x3 : Int32} {x4 : Int32} {x5 : Int32} {x6 : Int32}
    (hrec16 : ∀ (st : (Int32 × Int32)), rec16 st = some res → ∀  (H : Heap) (locs : List Loc) (ls : Array Slot), va_P D classes [(h_t, .inr (5, [v_t_words, v_t_bits, .ref h_t_held, .ref h_t_faults, v_t_latest])), (h_t_held, .inl (cI, n_t_held, .inl t_held_a)), (h_t_faults, .inr (3, [.ref h_t_faults_kinds, .ref h_t_faults_victimWords, .ref h_t_faults_victimMasks, v_t_faults_otherWords, v_t_faults_otherMasks, .int t_faults_count, v_t_faults_touchedWords, v_t_faults_bits])), (h_t_faults_victimWords, .inl (cI, n_t_faults_victimWords, .inl t_faults_victimWords_a)), (h_t_faults_victimMasks, .inl (cI, n_t_faults_victimMasks, .inl t_faults_victimMasks_a)), (h_t_faults_kinds, .inl (cI, n_t_faults_kinds, .inl t_faults_kinds_a))] H → va_D A [(h_t, .inr (5, [v_t_words, v_t_bits, .ref h_t_held, .ref h_t_faults, v_t_latest])), (h_t_held, .inl (cI, n_t_held, .inl t_held_a)), (h_t_faults, .inr (3, [.ref h_t_faults_kinds, .ref h_t_faults_victimWords, .ref h_t_faults_victimMasks, v_t_faults_otherWords, v_t_faults_otherMasks, .int t_faults_count, v_t_faults_touchedWords, v_t_faults_bits])), (h_t_faults_victimWords, .inl (cI, n_t_faults_victimWords, .inl t_faults_victimWords_a)), (h_t_faults_victimMasks, .inl (cI, n_t_faults_victimMasks, .inl t_faults_victimMasks_a)), (h_t_faults_kinds, .inl (cI, n_t_faults_kinds, .inl t_faults_kinds_a))] → va_S A s.heap H locs → lv_has ls 7 [(0, .ref h_t), (1, .int x1), (2, .int x2), (3, .int x3), (4, .int x4), (5, .int st.1), (6, .int st.2)] → W p l e rm_Memory_valueToStore s m args below meth c H locs 0 0 (MQ below (QW D (post_Memory_valueToStore h_t h_t_held h_t_faults h_t_faults_victimWords h_t_faults_victimMasks h_t_faults_kinds v_t_words v_t_bits v_t_latest v_t_faults_otherWords v_t_faults_otherMasks v_t_faults_touchedWords v_t_faults_bits n_t_held n_t_faults_victimWords n_t_faults_victimMasks n_t_faults_kinds t_held_a t_faults_count t_faults_victimWords_a t_faults_victimMasks_a t_faults_kinds_a cI cB cJ res) A) args s 0 0 A) (F0 m 16 ls []))
    (hf : g_Memory_valueToStore_16 n_t_faults_victimWords n_t_faults_victimMasks n_t_faults_kinds t_faults_count t_faults_victimWords_a t_faults_victimMasks_a t_faults_kinds_a x1 x2 x3 x4 rec16 (x5, x6) = some res) {H : Heap} {locs : List Loc} {ls : Array Slot} (hP : va_P D classes [(h_t, .inr (5, [v_t_words, v_t_bits, .ref h_t_held, .ref h_t_faults, v_t_latest])), (h_t_held, .inl (cI, n_t_held, .inl t_held_a)), (h_t_faults, .inr (3, [.ref h_t_faults_kinds, .ref h_t_faults_victimWords, .ref h_t_faults_victimMasks, v_t_faults_otherWords, v_t_faults_otherMasks, .int t_faults_count, v_t_faults_touchedWords, v_t_faults_bits])), (h_t_faults_victimWords, .inl (cI, n_t_faults_victimWords, .inl t_faults_victimWords_a)), (h_t_faults_victimMasks, .inl (cI, n_t_faults_victimMasks, .inl t_faults_victimMasks_a)), (h_t_faults_kinds, .inl (cI, n_t_faults_kinds, .inl t_faults_kinds_a))] H) (hD : va_D A [(h_t, .inr (5, [v_t_words, v_t_bits, .ref h_t_held, .ref h_t_faults, v_t_latest])), (h_t_held, .inl (cI, n_t_held, .inl t_held_a)), (h_t_faults, .inr (3, [.ref h_t_faults_kinds, .ref h_t_faults_victimWords, .ref h_t_faults_victimMasks, v_t_faults_otherWords, v_t_faults_otherMasks, .int t_faults_count, v_t_faults_touchedWords, v_t_faults_bits])), (h_t_faults_victimWords, .inl (cI, n_t_faults_victimWords, .inl t_faults_victimWords_a)), (h_t_faults_victimMasks, .inl (cI, n_t_faults_victimMasks, .inl t_faults_victimMasks_a)), (h_t_faults_kinds, .inl (cI, n_t_faults_kinds, .inl t_faults_kinds_a))]) (hS : va_S A s.heap H locs) (hl : lv_has ls 7 [(0, .ref h_t), (1, .int x1), (2, .int x2), (3, .int x3), (4, .int x4), (5, .int x5), (6, .int x6)]) : W p l e rm_Memory_valueToStore s m args below meth c H locs 0 0 (MQ below (QW D (post_Memory_valueToStore h_t h_t_held h_t_faults h_t_faults_victimWords h_t_faults_victimMasks h_t_faults_kinds v_t_words v_t_bits v_t_latest v_t_faults_otherWords v_t_faults_otherMasks v_t_faults_touchedWords v_t_faults_bits n_t_held n_t_faults_victimWords n_t_faults_victimMasks n_t_faults_kinds t_held_a t_faults_count t_faults_victimWords_a t_faults_victimMasks_a t_faults_kinds_a cI cB cJ res) A) args s 0 0 A) (F0 m 16 ls []) := by
  obtain ⟨hx, hb, hml, hr, hlocks, hts, hown, hK, hin⟩ := id C0
  have hf : (((
  (if t_faults_count ≤ x6 then
    some x5
  else
    (Option.bind (f_FaultList_isVictim n_t_faults_victimWords n_t_faults_victimMasks t_faults_victimWords_a t_faults_victimMasks_a x6 x1 x2) fun q36_1 =>
    (if q36_1 = 0 then
      (rec16 (x5, (x6 + 1)))
    else
      (if inB x6 n_t_faults_kinds = true then
      (Option.bind (f_Memory_struckValue (t_faults_kinds_a (Int32.toNatClampNeg x6)) x2 x3 x4 x5) fun q58_2 =>
      (rec16 (q58_2, (x6 + 1))))
      else none)))))) : Option (Int32)) = some res := hf
  refine lv_iload hx hb d_Memory_valueToStore_16 (lv_at hl 6 rfl) ?_
  refine lv_aload_n hx hb d_Memory_valueToStore_18 rfl (lv_at hl 0 rfl) ?_
  refine va_get (D := D) (ci := 5) (v := .ref h_t_faults) (C := R_Memory) (T := F_Memory) (N := 5) hx hb hts i_Memory hown hK.1 hP 0 rfl rfl 3 (by decide) (hts _ w_32) (fun _ h9 => h9) rfl d_Memory_valueToStore_19 ?_
  refine va_get (D := D) (ci := 3) (v := .int t_faults_count) (C := R_FaultList) (T := F_FaultList) (N := 8) hx hb hts i_FaultList hown hK.1 hP 2 rfl rfl 5 (by decide) (hts _ w_207) (fun _ h9 => h9) rfl d_Memory_valueToStore_22 ?_
  refine lv_icmp_ge (tgt := 69) hx hb d_Memory_valueToStore_25 (by decide) (fun cc25 => ?_) (fun cc25 => ?_)
  · have hf := ifT cc25 hf
    refine lv_iload hx hb d_Memory_valueToStore_69 (lv_at hl 5 rfl) ?_
    obtain rfl := Option.some.inj hf
    exact ret_i hx hb hr hlocks hP hD hS ⟨rfl, rfl⟩ d_Memory_valueToStore_71
  · have hf := ifF cc25 hf
    refine lv_aload_n hx hb d_Memory_valueToStore_28 rfl (lv_at hl 0 rfl) ?_
    refine va_get (D := D) (ci := 5) (v := .ref h_t_faults) (C := R_Memory) (T := F_Memory) (N := 5) hx hb hts i_Memory hown hK.1 hP 0 rfl rfl 3 (by decide) (hts _ w_32) (fun _ h9 => h9) rfl d_Memory_valueToStore_29 ?_
    refine lv_iload hx hb d_Memory_valueToStore_32 (lv_at hl 6 rfl) ?_
    refine lv_iload_n hx hb d_Memory_valueToStore_34 rfl (lv_at hl 1 rfl) ?_
    refine lv_iload_n hx hb d_Memory_valueToStore_35 rfl (lv_at hl 2 rfl) ?_
    obtain ⟨q36_1, hc, hf⟩ := bindS hf
    refine mcV (n := 3) (As := [.int x6, .int x1, .int x2]) (rest := []) (wr := [(h_t, .inr (5, [v_t_words, v_t_bits, .ref h_t_held, .ref h_t_faults, v_t_latest])), (h_t_held, .inl (cI, n_t_held, .inl t_held_a)), (h_t_faults_kinds, .inl (cI, n_t_faults_kinds, .inl t_faults_kinds_a))]) hx hb hml hown hts hK (c_FaultList_isVictim (l := l) (D := D) (cI := cI) (cB := cB) (cJ := cJ) (h_t := h_t_faults) (h_t_victimWords := h_t_faults_victimWords) (h_t_victimMasks := h_t_faults_victimMasks) (v_t_kinds := (.ref h_t_faults_kinds)) (v_t_otherWords := v_t_faults_otherWords) (v_t_otherMasks := v_t_faults_otherMasks) (v_t_count := (.int t_faults_count)) (v_t_touchedWords := v_t_faults_touchedWords) (v_t_bits := v_t_faults_bits) (n_t_victimWords := n_t_faults_victimWords) (n_t_victimMasks := n_t_faults_victimMasks) (t_victimWords_a := t_faults_victimWords_a) (t_victimMasks_a := t_faults_victimMasks_a) (a1 := x6) (a2 := x1) (a3 := x2) (sz := H.size) (res := q36_1) (hf := hc)) w_218 w_219 w_220 w_28 w_221 (by decide +kernel) rfl rfl ⟨Nat.le_of_ble_eq_true rfl, Nat.le_of_ble_eq_true rfl⟩ hP hD hS hA [2, 3, 4] [0, 1, 5] rfl rfl (by decide) (by decide) (by decide) (ci := 3) 0 rfl rfl hl.1 rfl rfl (lv_room (Nat.le_of_ble_eq_true rfl)) d_Memory_valueToStore_36 ⟨Nat.le_of_ble_eq_true rfl, Nat.le_of_ble_eq_true rfl⟩ (fun o ws' H locs hp hP hD hS => ?_)
    obtain ⟨rfl, rfl⟩ := hp
    have hP : va_P D classes [(h_t, .inr (5, [v_t_words, v_t_bits, .ref h_t_held, .ref h_t_faults, v_t_latest])), (h_t_held, .inl (cI, n_t_held, .inl t_held_a)), (h_t_faults, .inr (3, [.ref h_t_faults_kinds, .ref h_t_faults_victimWords, .ref h_t_faults_victimMasks, v_t_faults_otherWords, v_t_faults_otherMasks, .int t_faults_count, v_t_faults_touchedWords, v_t_faults_bits])), (h_t_faults_victimWords, .inl (cI, n_t_faults_victimWords, .inl t_faults_victimWords_a)), (h_t_faults_victimMasks, .inl (cI, n_t_faults_victimMasks, .inl t_faults_victimMasks_a)), (h_t_faults_kinds, .inl (cI, n_t_faults_kinds, .inl t_faults_kinds_a))] H := hP.sub [0, 1, 3, 4, 5, 2] rfl
    have hD : va_D A [(h_t, .inr (5, [v_t_words, v_t_bits, .ref h_t_held, .ref h_t_faults, v_t_latest])), (h_t_held, .inl (cI, n_t_held, .inl t_held_a)), (h_t_faults, .inr (3, [.ref h_t_faults_kinds, .ref h_t_faults_victimWords, .ref h_t_faults_victimMasks, v_t_faults_otherWords, v_t_faults_otherMasks, .int t_faults_count, v_t_faults_touchedWords, v_t_faults_bits])), (h_t_faults_victimWords, .inl (cI, n_t_faults_victimWords, .inl t_faults_victimWords_a)), (h_t_faults_victimMasks, .inl (cI, n_t_faults_victimMasks, .inl t_faults_victimMasks_a)), (h_t_faults_kinds, .inl (cI, n_t_faults_kinds, .inl t_faults_kinds_a))] := hD.sub [0, 1, 3, 4, 5, 2] (by decide) rfl
    refine lv_if_eq (tgt := 63) hx hb d_Memory_valueToStore_39 (by decide) (fun cc39 => ?_) (fun cc39 => ?_)
    · have hf := ifT cc39 hf
      refine lv_iinc (v := (x6 + 1)) (lv' := [(6, .int (x6 + 1)), (0, .ref h_t), (1, .int x1), (2, .int x2), (3, .int x3), (4, .int x4), (5, .int x5)]) hx hb d_Memory_valueToStore_63 hl (k := 6) rfl rfl (by decide) rfl (fun ls hl => ?_)
      refine lv_goto (tgt := 16) hx hb d_Memory_valueToStore_66 (by decide) ?_
      exact hrec16 (x5, (x6 + 1)) hf  H locs ls hP hD hS (lv_sub hl [1, 2, 3, 4, 5, 6, 0] rfl)
    · have hf := ifF cc39 hf
      refine lv_aload_n hx hb d_Memory_valueToStore_42 rfl (lv_at hl 0 rfl) ?_
      refine va_get (D := D) (ci := 5) (v := .ref h_t_faults) (C := R_Memory) (T := F_Memory) (N := 5) hx hb hts i_Memory hown hK.1 hP 0 rfl rfl 3 (by decide) (hts _ w_32) (fun _ h9 => h9) rfl d_Memory_valueToStore_43 ?_
      refine va_get (D := D) (ci := 3) (v := .ref h_t_faults_kinds) (C := R_FaultList) (T := F_FaultList) (N := 8) hx hb hts i_FaultList hown hK.1 hP 2 rfl rfl 0 (by decide) (hts _ w_210) (fun _ h9 => h9) rfl d_Memory_valueToStore_46 ?_
      refine lv_iload hx hb d_Memory_valueToStore_49 (lv_at hl 6 rfl) ?_
      obtain ⟨hin1, hf⟩ := ifG hf
      refine va_iald hx hb hK.1 hP 5 0 rfl rfl (inB_in hin1) d_Memory_valueToStore_51 ?_
      refine lv_iload_n hx hb d_Memory_valueToStore_52 rfl (lv_at hl 2 rfl) ?_
      refine lv_iload_n hx hb d_Memory_valueToStore_53 rfl (lv_at hl 3 rfl) ?_
      refine lv_iload hx hb d_Memory_valueToStore_54 (lv_at hl 4 rfl) ?_
      refine lv_iload hx hb d_Memory_valueToStore_56 (lv_at hl 5 rfl) ?_
      obtain ⟨q58_2, hc, hf⟩ := bindS hf
      refine mcS (n := 5) (As := [.int (t_faults_kinds_a (Int32.toNatClampNeg x6)), .int x2, .int x3, .int x4, .int x5]) (rest := []) (wr := [(h_t, .inr (5, [v_t_words, v_t_bits, .ref h_t_held, .ref h_t_faults, v_t_latest])), (h_t_held, .inl (cI, n_t_held, .inl t_held_a)), (h_t_faults, .inr (3, [.ref h_t_faults_kinds, .ref h_t_faults_victimWords, .ref h_t_faults_victimMasks, v_t_faults_otherWords, v_t_faults_otherMasks, .int t_faults_count, v_t_faults_touchedWords, v_t_faults_bits])), (h_t_faults_victimWords, .inl (cI, n_t_faults_victimWords, .inl t_faults_victimWords_a)), (h_t_faults_victimMasks, .inl (cI, n_t_faults_victimMasks, .inl t_faults_victimMasks_a)), (h_t_faults_kinds, .inl (cI, n_t_faults_kinds, .inl t_faults_kinds_a))]) hx hb hml hown hts hK (c_Memory_struckValue (l := l) (D := D) (cI := cI) (cB := cB) (cJ := cJ) (a1 := (t_faults_kinds_a (Int32.toNatClampNeg x6))) (a2 := x2) (a3 := x3) (a4 := x4) (a5 := x5) (sz := H.size) (res := q58_2) (hf := hc)) w_222 w_223 w_41 w_224 (by decide +kernel) rfl rfl ⟨Nat.le_of_ble_eq_true rfl, Nat.le_of_ble_eq_true rfl⟩ hP hD hS hA [] [0, 1, 2, 3, 4, 5] rfl rfl (by decide) (by decide) (by decide) hl.1 rfl rfl (lv_room (Nat.le_of_ble_eq_true rfl)) d_Memory_valueToStore_58 ⟨Nat.le_of_ble_eq_true rfl, Nat.le_of_ble_eq_true rfl⟩ (fun o ws' H locs hp hP hD hS => ?_)
      obtain ⟨rfl, rfl⟩ := hp
      have hP : va_P D classes [(h_t, .inr (5, [v_t_words, v_t_bits, .ref h_t_held, .ref h_t_faults, v_t_latest])), (h_t_held, .inl (cI, n_t_held, .inl t_held_a)), (h_t_faults, .inr (3, [.ref h_t_faults_kinds, .ref h_t_faults_victimWords, .ref h_t_faults_victimMasks, v_t_faults_otherWords, v_t_faults_otherMasks, .int t_faults_count, v_t_faults_touchedWords, v_t_faults_bits])), (h_t_faults_victimWords, .inl (cI, n_t_faults_victimWords, .inl t_faults_victimWords_a)), (h_t_faults_victimMasks, .inl (cI, n_t_faults_victimMasks, .inl t_faults_victimMasks_a)), (h_t_faults_kinds, .inl (cI, n_t_faults_kinds, .inl t_faults_kinds_a))] H := hP.sub [0, 1, 2, 3, 4, 5] rfl
      have hD : va_D A [(h_t, .inr (5, [v_t_words, v_t_bits, .ref h_t_held, .ref h_t_faults, v_t_latest])), (h_t_held, .inl (cI, n_t_held, .inl t_held_a)), (h_t_faults, .inr (3, [.ref h_t_faults_kinds, .ref h_t_faults_victimWords, .ref h_t_faults_victimMasks, v_t_faults_otherWords, v_t_faults_otherMasks, .int t_faults_count, v_t_faults_touchedWords, v_t_faults_bits])), (h_t_faults_victimWords, .inl (cI, n_t_faults_victimWords, .inl t_faults_victimWords_a)), (h_t_faults_victimMasks, .inl (cI, n_t_faults_victimMasks, .inl t_faults_victimMasks_a)), (h_t_faults_kinds, .inl (cI, n_t_faults_kinds, .inl t_faults_kinds_a))] := hD.sub [0, 1, 2, 3, 4, 5] (by decide) rfl
      refine lv_istore (lv' := [(5, .int q58_2), (0, .ref h_t), (1, .int x1), (2, .int x2), (3, .int x3), (4, .int x4), (6, .int x6)]) hx hb d_Memory_valueToStore_61 hl (by decide) rfl (fun ls hl => ?_)
      refine lv_iinc (v := (x6 + 1)) (lv' := [(6, .int (x6 + 1)), (5, .int q58_2), (0, .ref h_t), (1, .int x1), (2, .int x2), (3, .int x3), (4, .int x4)]) hx hb d_Memory_valueToStore_63 hl (k := 6) rfl rfl (by decide) rfl (fun ls hl => ?_)
      refine lv_goto (tgt := 16) hx hb d_Memory_valueToStore_66 (by decide) ?_
      exact hrec16 (q58_2, (x6 + 1)) hf  H locs ls hP hD hS (lv_sub hl [2, 3, 4, 5, 6, 1, 0] rfl)
set_option maxHeartbeats 4000000 in
set_option maxRecDepth 100000 in
theorem k_Memory_valueToStore_16 {p : Program} {l : Launch} {e : Env} {s : State} {m : MethodId} {args : Array Value} {below : List Frame} {meth : Method} {c : Code} {D : va_G} {cI cB cJ : ClassId} {A : Nat → Prop} (C0 : CX p s m args meth c D [(cI, .int), (cB, .byte), (cJ, .long)] R_Memory b_Memory_valueToStore 7 (some .int) "valueToStore") (hA : ∀ q, s.heap.size ≤ q → A q) {h_t h_t_held h_t_faults h_t_faults_victimWords h_t_faults_victimMasks h_t_faults_kinds : Nat} {v_t_words v_t_bits v_t_latest v_t_faults_otherWords v_t_faults_otherMasks v_t_faults_touchedWords v_t_faults_bits : Value} {res : Int32} {n_t_held : Nat} {n_t_faults_victimWords : Nat} {n_t_faults_victimMasks : Nat} {n_t_faults_kinds : Nat} {t_held_a : Nat → Int32} {t_faults_count : Int32} {t_faults_victimWords_a : Nat → Int32} {t_faults_victimMasks_a : Nat → Int32} {t_faults_kinds_a : Nat → Int32} {x1 : Int32} {x2 : Int32} {x3 : Int32} {x4 : Int32}
    : ∀ (n : Nat) (st : (Int32 × Int32)), lp (g_Memory_valueToStore_16 n_t_faults_victimWords n_t_faults_victimMasks n_t_faults_kinds t_faults_count t_faults_victimWords_a t_faults_victimMasks_a t_faults_kinds_a x1 x2 x3 x4) n st = some res → ∀  (H : Heap) (locs : List Loc) (ls : Array Slot), va_P D classes [(h_t, .inr (5, [v_t_words, v_t_bits, .ref h_t_held, .ref h_t_faults, v_t_latest])), (h_t_held, .inl (cI, n_t_held, .inl t_held_a)), (h_t_faults, .inr (3, [.ref h_t_faults_kinds, .ref h_t_faults_victimWords, .ref h_t_faults_victimMasks, v_t_faults_otherWords, v_t_faults_otherMasks, .int t_faults_count, v_t_faults_touchedWords, v_t_faults_bits])), (h_t_faults_victimWords, .inl (cI, n_t_faults_victimWords, .inl t_faults_victimWords_a)), (h_t_faults_victimMasks, .inl (cI, n_t_faults_victimMasks, .inl t_faults_victimMasks_a)), (h_t_faults_kinds, .inl (cI, n_t_faults_kinds, .inl t_faults_kinds_a))] H → va_D A [(h_t, .inr (5, [v_t_words, v_t_bits, .ref h_t_held, .ref h_t_faults, v_t_latest])), (h_t_held, .inl (cI, n_t_held, .inl t_held_a)), (h_t_faults, .inr (3, [.ref h_t_faults_kinds, .ref h_t_faults_victimWords, .ref h_t_faults_victimMasks, v_t_faults_otherWords, v_t_faults_otherMasks, .int t_faults_count, v_t_faults_touchedWords, v_t_faults_bits])), (h_t_faults_victimWords, .inl (cI, n_t_faults_victimWords, .inl t_faults_victimWords_a)), (h_t_faults_victimMasks, .inl (cI, n_t_faults_victimMasks, .inl t_faults_victimMasks_a)), (h_t_faults_kinds, .inl (cI, n_t_faults_kinds, .inl t_faults_kinds_a))] → va_S A s.heap H locs → lv_has ls 7 [(0, .ref h_t), (1, .int x1), (2, .int x2), (3, .int x3), (4, .int x4), (5, .int st.1), (6, .int st.2)] → W p l e rm_Memory_valueToStore s m args below meth c H locs 0 0 (MQ below (QW D (post_Memory_valueToStore h_t h_t_held h_t_faults h_t_faults_victimWords h_t_faults_victimMasks h_t_faults_kinds v_t_words v_t_bits v_t_latest v_t_faults_otherWords v_t_faults_otherMasks v_t_faults_touchedWords v_t_faults_bits n_t_held n_t_faults_victimWords n_t_faults_victimMasks n_t_faults_kinds t_held_a t_faults_count t_faults_victimWords_a t_faults_victimMasks_a t_faults_kinds_a cI cB cJ res) A) args s 0 0 A) (F0 m 16 ls []) := by
  intro n
  induction n with
  | zero => intro st hf; exact absurd hf (by simp [lp])
  | succ n ih =>
    intro st hf  H locs ls hP hD hS hl
    exact kb_Memory_valueToStore_16 C0 hA (rec16 := lp (g_Memory_valueToStore_16 n_t_faults_victimWords n_t_faults_victimMasks n_t_faults_kinds t_faults_count t_faults_victimWords_a t_faults_victimMasks_a t_faults_kinds_a x1 x2 x3 x4) n) (x5 := st.1) (x6 := st.2)  (fun st hf  H locs ls hP hD hS hl => ih st hf  H locs ls hP hD hS hl) hf hP hD hS hl
set_option maxHeartbeats 4000000 in
set_option maxRecDepth 100000 in
theorem c_Memory_valueToStore (l : Launch) (D : va_G) (cI cB cJ : ClassId) (h_t h_t_held h_t_faults h_t_faults_victimWords h_t_faults_victimMasks h_t_faults_kinds : Nat) (v_t_words v_t_bits v_t_latest v_t_faults_otherWords v_t_faults_otherMasks v_t_faults_touchedWords v_t_faults_bits : Value) (n_t_held : Nat) (n_t_faults_victimWords : Nat) (n_t_faults_victimMasks : Nat) (n_t_faults_kinds : Nat) (t_held_a : Nat → Int32) (t_faults_count : Int32) (t_faults_victimWords_a : Nat → Int32) (t_faults_victimMasks_a : Nat → Int32) (t_faults_kinds_a : Nat → Int32) (a1 : Int32) (a2 : Int32) (a3 : Int32) (sz : Nat) (res : Int32) (hf : f_Memory_valueToStore n_t_held n_t_faults_victimWords n_t_faults_victimMasks n_t_faults_kinds t_held_a t_faults_count t_faults_victimWords_a t_faults_victimMasks_a t_faults_kinds_a a1 a2 a3 = some res) : Met l y_Memory_valueToStore (.code y_Memory_valueToStore b_Memory_valueToStore 7 (some .int) :: TB) rm_Memory_valueToStore (PcW D [(cI, .int), (cB, .byte), (cJ, .long)] [.ref h_t, .int a1, .int a2, .int a3] [(h_t, .inr (5, [v_t_words, v_t_bits, .ref h_t_held, .ref h_t_faults, v_t_latest])), (h_t_held, .inl (cI, n_t_held, .inl t_held_a)), (h_t_faults, .inr (3, [.ref h_t_faults_kinds, .ref h_t_faults_victimWords, .ref h_t_faults_victimMasks, v_t_faults_otherWords, v_t_faults_otherMasks, .int t_faults_count, v_t_faults_touchedWords, v_t_faults_bits])), (h_t_faults_victimWords, .inl (cI, n_t_faults_victimWords, .inl t_faults_victimWords_a)), (h_t_faults_victimMasks, .inl (cI, n_t_faults_victimMasks, .inl t_faults_victimMasks_a)), (h_t_faults_kinds, .inl (cI, n_t_faults_kinds, .inl t_faults_kinds_a))] sz) (QW D (post_Memory_valueToStore h_t h_t_held h_t_faults h_t_faults_victimWords h_t_faults_victimMasks h_t_faults_kinds v_t_words v_t_bits v_t_latest v_t_faults_otherWords v_t_faults_otherMasks v_t_faults_touchedWords v_t_faults_bits n_t_held n_t_faults_victimWords n_t_faults_victimMasks n_t_faults_kinds t_held_a t_faults_count t_faults_victimWords_a t_faults_victimMasks_a t_faults_kinds_a cI cB cJ res) (va_A [(h_t, .inr (5, [v_t_words, v_t_bits, .ref h_t_held, .ref h_t_faults, v_t_latest])), (h_t_held, .inl (cI, n_t_held, .inl t_held_a)), (h_t_faults, .inr (3, [.ref h_t_faults_kinds, .ref h_t_faults_victimWords, .ref h_t_faults_victimMasks, v_t_faults_otherWords, v_t_faults_otherMasks, .int t_faults_count, v_t_faults_touchedWords, v_t_faults_bits])), (h_t_faults_victimWords, .inl (cI, n_t_faults_victimWords, .inl t_faults_victimWords_a)), (h_t_faults_victimMasks, .inl (cI, n_t_faults_victimMasks, .inl t_faults_victimMasks_a)), (h_t_faults_kinds, .inl (cI, n_t_faults_kinds, .inl t_faults_kinds_a))] sz)) 0 0 (va_A [(h_t, .inr (5, [v_t_words, v_t_bits, .ref h_t_held, .ref h_t_faults, v_t_latest])), (h_t_held, .inl (cI, n_t_held, .inl t_held_a)), (h_t_faults, .inr (3, [.ref h_t_faults_kinds, .ref h_t_faults_victimWords, .ref h_t_faults_victimMasks, v_t_faults_otherWords, v_t_faults_otherMasks, .int t_faults_count, v_t_faults_touchedWords, v_t_faults_bits])), (h_t_faults_victimWords, .inl (cI, n_t_faults_victimWords, .inl t_faults_victimWords_a)), (h_t_faults_victimMasks, .inl (cI, n_t_faults_victimMasks, .inl t_faults_victimMasks_a)), (h_t_faults_kinds, .inl (cI, n_t_faults_kinds, .inl t_faults_kinds_a))] sz) := by
  refine entW ⟨by decide +kernel, rfl⟩ fun p e s m below meth c C0 hP hD hsz ls hl => ?_
  subst hsz
  generalize hAe : va_A [(h_t, .inr (5, [v_t_words, v_t_bits, .ref h_t_held, .ref h_t_faults, v_t_latest])), (h_t_held, .inl (cI, n_t_held, .inl t_held_a)), (h_t_faults, .inr (3, [.ref h_t_faults_kinds, .ref h_t_faults_victimWords, .ref h_t_faults_victimMasks, v_t_faults_otherWords, v_t_faults_otherMasks, .int t_faults_count, v_t_faults_touchedWords, v_t_faults_bits])), (h_t_faults_victimWords, .inl (cI, n_t_faults_victimWords, .inl t_faults_victimWords_a)), (h_t_faults_victimMasks, .inl (cI, n_t_faults_victimMasks, .inl t_faults_victimMasks_a)), (h_t_faults_kinds, .inl (cI, n_t_faults_kinds, .inl t_faults_kinds_a))] s.heap.size = A at hD ⊢
  have hA : ∀ q : Nat, s.heap.size ≤ q → A q := fun q h => by rw [← hAe]; exact Or.inr h
  clear hAe
  have hS : va_S A s.heap s.heap [] := va_S.rf
  have hl : lv_has ls 7 [(0, .ref h_t), (1, .int a1), (2, .int a2), (3, .int a3)] := hl
  obtain ⟨hx, hb, hml, hr, hlocks, hts, hown, hK, hin⟩ := id C0
  have hf : (((
  (if inB a1 n_t_held = true then
  (lp (g_Memory_valueToStore_16 n_t_faults_victimWords n_t_faults_victimMasks n_t_faults_kinds t_faults_count t_faults_victimWords_a t_faults_victimMasks_a t_faults_kinds_a a1 a2 a3 ((t_held_a (Int32.toNatClampNeg a1)) &&& a2)) 100000 (a3, 0))
  else none))) : Option (Int32)) = some res := hf
  obtain ⟨H, hH⟩ : ∃ H, H = s.heap := ⟨_, rfl⟩
  obtain ⟨locs, hlo⟩ : ∃ x : List Loc, x = [] := ⟨_, rfl⟩
  rw [← hlo] at hS ⊢
  have hP : va_P D classes [(h_t, .inr (5, [v_t_words, v_t_bits, .ref h_t_held, .ref h_t_faults, v_t_latest])), (h_t_held, .inl (cI, n_t_held, .inl t_held_a)), (h_t_faults, .inr (3, [.ref h_t_faults_kinds, .ref h_t_faults_victimWords, .ref h_t_faults_victimMasks, v_t_faults_otherWords, v_t_faults_otherMasks, .int t_faults_count, v_t_faults_touchedWords, v_t_faults_bits])), (h_t_faults_victimWords, .inl (cI, n_t_faults_victimWords, .inl t_faults_victimWords_a)), (h_t_faults_victimMasks, .inl (cI, n_t_faults_victimMasks, .inl t_faults_victimMasks_a)), (h_t_faults_kinds, .inl (cI, n_t_faults_kinds, .inl t_faults_kinds_a))] H := by rw [hH]; exact hP
  have hS : va_S A s.heap H locs := by rw [hH]; exact hS
  show W p l e rm_Memory_valueToStore s m _ below meth c s.heap locs 0 0 (MQ below (QW D (post_Memory_valueToStore h_t h_t_held h_t_faults h_t_faults_victimWords h_t_faults_victimMasks h_t_faults_kinds v_t_words v_t_bits v_t_latest v_t_faults_otherWords v_t_faults_otherMasks v_t_faults_touchedWords v_t_faults_bits n_t_held n_t_faults_victimWords n_t_faults_victimMasks n_t_faults_kinds t_held_a t_faults_count t_faults_victimWords_a t_faults_victimMasks_a t_faults_kinds_a cI cB cJ res) A) _ s 0 0 A) (F0 m 0 ls [])
  refine wheap hH ?_
  clear hH hlo
  refine lv_aload_n hx hb d_Memory_valueToStore_0 rfl (lv_at hl 0 rfl) ?_
  refine va_get (D := D) (ci := 5) (v := .ref h_t_held) (C := R_Memory) (T := F_Memory) (N := 5) hx hb hts i_Memory hown hK.1 hP 0 rfl rfl 2 (by decide) (hts _ w_25) (fun _ h9 => h9) rfl d_Memory_valueToStore_1 ?_
  refine lv_iload_n hx hb d_Memory_valueToStore_4 rfl (lv_at hl 1 rfl) ?_
  obtain ⟨hin1, hf⟩ := ifG hf
  refine va_iald hx hb hK.1 hP 1 0 rfl rfl (inB_in hin1) d_Memory_valueToStore_5 ?_
  refine lv_iload_n hx hb d_Memory_valueToStore_6 rfl (lv_at hl 2 rfl) ?_
  refine lv_iand hx hb d_Memory_valueToStore_7 ?_
  refine lv_istore (lv' := [(4, .int ((t_held_a (Int32.toNatClampNeg a1)) &&& a2)), (0, .ref h_t), (1, .int a1), (2, .int a2), (3, .int a3)]) hx hb d_Memory_valueToStore_8 hl (by decide) rfl (fun ls hl => ?_)
  refine lv_iload_n hx hb d_Memory_valueToStore_10 rfl (lv_at hl 4 rfl) ?_
  refine lv_istore (lv' := [(5, .int a3), (4, .int ((t_held_a (Int32.toNatClampNeg a1)) &&& a2)), (0, .ref h_t), (1, .int a1), (2, .int a2), (3, .int a3)]) hx hb d_Memory_valueToStore_11 hl (by decide) rfl (fun ls hl => ?_)
  refine lv_iconst (v := 0) hx hb d_Memory_valueToStore_13 (by decide) ?_
  refine lv_istore (lv' := [(6, .int 0), (5, .int a3), (4, .int ((t_held_a (Int32.toNatClampNeg a1)) &&& a2)), (0, .ref h_t), (1, .int a1), (2, .int a2), (3, .int a3)]) hx hb d_Memory_valueToStore_14 hl (by decide) rfl (fun ls hl => ?_)
  exact k_Memory_valueToStore_16 (s := s) C0 hA _ (a3, 0) hf  H locs ls hP hD hS (lv_sub hl [3, 4, 5, 6, 2, 1, 0] rfl)
def f_FaultList_isOther (n_t_otherWords : Nat) (n_t_otherMasks : Nat) (t_otherWords_a : Nat → Int32) (t_otherMasks_a : Nat → Int32) (a1 : Int32) (a2 : Int32) (a3 : Int32) : Option (Int32) :=
  (if inB a1 n_t_otherWords = true then
  (if (t_otherWords_a (Int32.toNatClampNeg a1)) = a2 then
    (if inB a1 n_t_otherMasks = true then
    (if (t_otherMasks_a (Int32.toNatClampNeg a1)) = a3 then
      some 1
    else
      some 0)
    else none)
  else
    some 0)
  else none)
def post_FaultList_isOther (h_t h_t_otherWords h_t_otherMasks : Nat) (v_t_kinds v_t_victimWords v_t_victimMasks v_t_count v_t_touchedWords v_t_bits : Value) (n_t_otherWords : Nat) (n_t_otherMasks : Nat) (t_otherWords_a : Nat → Int32) (t_otherMasks_a : Nat → Int32) (cI cB cJ : ClassId) (res : Int32) : Option Value → va_W → Prop := fun o ws' => o = some (.int res) ∧ ws' = [(h_t, .inr (3, [v_t_kinds, v_t_victimWords, v_t_victimMasks, .ref h_t_otherWords, .ref h_t_otherMasks, v_t_count, v_t_touchedWords, v_t_bits])), (h_t_otherWords, .inl (cI, n_t_otherWords, .inl t_otherWords_a)), (h_t_otherMasks, .inl (cI, n_t_otherMasks, .inl t_otherMasks_a))]
abbrev rm_FaultList_isOther : Room := { frames := 0, cells := 0, slots := 0, locals := 0 }
set_option maxHeartbeats 4000000 in
set_option maxRecDepth 100000 in
theorem c_FaultList_isOther (l : Launch) (D : va_G) (cI cB cJ : ClassId) (h_t h_t_otherWords h_t_otherMasks : Nat) (v_t_kinds v_t_victimWords v_t_victimMasks v_t_count v_t_touchedWords v_t_bits : Value) (n_t_otherWords : Nat) (n_t_otherMasks : Nat) (t_otherWords_a : Nat → Int32) (t_otherMasks_a : Nat → Int32) (a1 : Int32) (a2 : Int32) (a3 : Int32) (sz : Nat) (res : Int32) (hf : f_FaultList_isOther n_t_otherWords n_t_otherMasks t_otherWords_a t_otherMasks_a a1 a2 a3 = some res) : Met l y_FaultList_isOther (.code y_FaultList_isOther b_FaultList_isOther 4 (some .boolean) :: TB) rm_FaultList_isOther (PcW D [(cI, .int), (cB, .byte), (cJ, .long)] [.ref h_t, .int a1, .int a2, .int a3] [(h_t, .inr (3, [v_t_kinds, v_t_victimWords, v_t_victimMasks, .ref h_t_otherWords, .ref h_t_otherMasks, v_t_count, v_t_touchedWords, v_t_bits])), (h_t_otherWords, .inl (cI, n_t_otherWords, .inl t_otherWords_a)), (h_t_otherMasks, .inl (cI, n_t_otherMasks, .inl t_otherMasks_a))] sz) (QW D (post_FaultList_isOther h_t h_t_otherWords h_t_otherMasks v_t_kinds v_t_victimWords v_t_victimMasks v_t_count v_t_touchedWords v_t_bits n_t_otherWords n_t_otherMasks t_otherWords_a t_otherMasks_a cI cB cJ res) (va_A [(h_t, .inr (3, [v_t_kinds, v_t_victimWords, v_t_victimMasks, .ref h_t_otherWords, .ref h_t_otherMasks, v_t_count, v_t_touchedWords, v_t_bits])), (h_t_otherWords, .inl (cI, n_t_otherWords, .inl t_otherWords_a)), (h_t_otherMasks, .inl (cI, n_t_otherMasks, .inl t_otherMasks_a))] sz)) 0 0 (va_A [(h_t, .inr (3, [v_t_kinds, v_t_victimWords, v_t_victimMasks, .ref h_t_otherWords, .ref h_t_otherMasks, v_t_count, v_t_touchedWords, v_t_bits])), (h_t_otherWords, .inl (cI, n_t_otherWords, .inl t_otherWords_a)), (h_t_otherMasks, .inl (cI, n_t_otherMasks, .inl t_otherMasks_a))] sz) := by
  refine entW ⟨by decide +kernel, rfl⟩ fun p e s m below meth c C0 hP hD hsz ls hl => ?_
  subst hsz
  generalize hAe : va_A [(h_t, .inr (3, [v_t_kinds, v_t_victimWords, v_t_victimMasks, .ref h_t_otherWords, .ref h_t_otherMasks, v_t_count, v_t_touchedWords, v_t_bits])), (h_t_otherWords, .inl (cI, n_t_otherWords, .inl t_otherWords_a)), (h_t_otherMasks, .inl (cI, n_t_otherMasks, .inl t_otherMasks_a))] s.heap.size = A at hD ⊢
  have hA : ∀ q : Nat, s.heap.size ≤ q → A q := fun q h => by rw [← hAe]; exact Or.inr h
  clear hAe
  have hS : va_S A s.heap s.heap [] := va_S.rf
  have hl : lv_has ls 4 [(0, .ref h_t), (1, .int a1), (2, .int a2), (3, .int a3)] := hl
  obtain ⟨hx, hb, hml, hr, hlocks, hts, hown, hK, hin⟩ := id C0
  have hf : (((
  (if inB a1 n_t_otherWords = true then
  (if (t_otherWords_a (Int32.toNatClampNeg a1)) = a2 then
    (if inB a1 n_t_otherMasks = true then
    (if (t_otherMasks_a (Int32.toNatClampNeg a1)) = a3 then
      some 1
    else
      some 0)
    else none)
  else
    some 0)
  else none))) : Option (Int32)) = some res := hf
  obtain ⟨H, hH⟩ : ∃ H, H = s.heap := ⟨_, rfl⟩
  obtain ⟨locs, hlo⟩ : ∃ x : List Loc, x = [] := ⟨_, rfl⟩
  rw [← hlo] at hS ⊢
  have hP : va_P D classes [(h_t, .inr (3, [v_t_kinds, v_t_victimWords, v_t_victimMasks, .ref h_t_otherWords, .ref h_t_otherMasks, v_t_count, v_t_touchedWords, v_t_bits])), (h_t_otherWords, .inl (cI, n_t_otherWords, .inl t_otherWords_a)), (h_t_otherMasks, .inl (cI, n_t_otherMasks, .inl t_otherMasks_a))] H := by rw [hH]; exact hP
  have hS : va_S A s.heap H locs := by rw [hH]; exact hS
  show W p l e rm_FaultList_isOther s m _ below meth c s.heap locs 0 0 (MQ below (QW D (post_FaultList_isOther h_t h_t_otherWords h_t_otherMasks v_t_kinds v_t_victimWords v_t_victimMasks v_t_count v_t_touchedWords v_t_bits n_t_otherWords n_t_otherMasks t_otherWords_a t_otherMasks_a cI cB cJ res) A) _ s 0 0 A) (F0 m 0 ls [])
  refine wheap hH ?_
  clear hH hlo
  refine lv_aload_n hx hb d_FaultList_isOther_0 rfl (lv_at hl 0 rfl) ?_
  refine va_get (D := D) (ci := 3) (v := .ref h_t_otherWords) (C := R_FaultList) (T := F_FaultList) (N := 8) hx hb hts i_FaultList hown hK.1 hP 0 rfl rfl 3 (by decide) (hts _ w_14) (fun _ h9 => h9) rfl d_FaultList_isOther_1 ?_
  refine lv_iload_n hx hb d_FaultList_isOther_4 rfl (lv_at hl 1 rfl) ?_
  obtain ⟨hin1, hf⟩ := ifG hf
  refine va_iald hx hb hK.1 hP 1 0 rfl rfl (inB_in hin1) d_FaultList_isOther_5 ?_
  refine lv_iload_n hx hb d_FaultList_isOther_6 rfl (lv_at hl 2 rfl) ?_
  refine lv_icmp_ne (tgt := 24) hx hb d_FaultList_isOther_7 (by decide) (fun cc7 => ?_) (fun cc7 => ?_)
  · have hf := ifF cc7 hf
    refine lv_iconst (v := 0) hx hb d_FaultList_isOther_24 (by decide) ?_
    obtain rfl := Option.some.inj hf
    exact ret_z hx hb hr rfl hlocks hP hD hS ⟨rfl, rfl⟩ d_FaultList_isOther_25
  · have hf := ifT cc7 hf
    refine lv_aload_n hx hb d_FaultList_isOther_10 rfl (lv_at hl 0 rfl) ?_
    refine va_get (D := D) (ci := 3) (v := .ref h_t_otherMasks) (C := R_FaultList) (T := F_FaultList) (N := 8) hx hb hts i_FaultList hown hK.1 hP 0 rfl rfl 4 (by decide) (hts _ w_15) (fun _ h9 => h9) rfl d_FaultList_isOther_11 ?_
    refine lv_iload_n hx hb d_FaultList_isOther_14 rfl (lv_at hl 1 rfl) ?_
    obtain ⟨hin1, hf⟩ := ifG hf
    refine va_iald hx hb hK.1 hP 2 0 rfl rfl (inB_in hin1) d_FaultList_isOther_15 ?_
    refine lv_iload_n hx hb d_FaultList_isOther_16 rfl (lv_at hl 3 rfl) ?_
    refine lv_icmp_ne (tgt := 24) hx hb d_FaultList_isOther_17 (by decide) (fun cc17 => ?_) (fun cc17 => ?_)
    · have hf := ifF cc17 hf
      refine lv_iconst (v := 0) hx hb d_FaultList_isOther_24 (by decide) ?_
      obtain rfl := Option.some.inj hf
      exact ret_z hx hb hr rfl hlocks hP hD hS ⟨rfl, rfl⟩ d_FaultList_isOther_25
    · have hf := ifT cc17 hf
      refine lv_iconst (v := 1) hx hb d_FaultList_isOther_20 (by decide) ?_
      refine lv_goto (tgt := 25) hx hb d_FaultList_isOther_21 (by decide) ?_
      obtain rfl := Option.some.inj hf
      exact ret_z hx hb hr rfl hlocks hP hD hS ⟨rfl, rfl⟩ d_FaultList_isOther_25
