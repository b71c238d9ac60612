def f_Failures_clear  : Option (Int32) :=
  some 0
def post_Failures_clear (h_t : Nat) (v_t_parts : Value) (cI cB cJ : ClassId) (res : Int32) : Option Value → va_W → Prop := fun o ws' => o = none ∧ ws' = [(h_t, .inr (2, [v_t_parts, .int res]))]
abbrev rm_Failures_clear : Room := { frames := 0, cells := 0, slots := 0, locals := 0 }
set_option maxHeartbeats 4000000 in
set_option maxRecDepth 100000 in
theorem c_Failures_clear (l : Launch) (D : va_G) (cI cB cJ : ClassId) (h_t : Nat) (v_t_parts : Value) (t_count : Int32) (sz : Nat) (res : Int32) (hf : f_Failures_clear = some res) : Met l y_Failures_clear (.code y_Failures_clear b_Failures_clear 1 none :: TB) rm_Failures_clear (PcW D [(cI, .int), (cB, .byte), (cJ, .long)] [.ref h_t] [(h_t, .inr (2, [v_t_parts, .int t_count]))] sz) (QW D (post_Failures_clear h_t v_t_parts cI cB cJ res) (va_A [(h_t, .inr (2, [v_t_parts, .int t_count]))] sz)) 0 0 (va_A [(h_t, .inr (2, [v_t_parts, .int t_count]))] sz) := by
  refine entW ⟨by decide +kernel, rfl⟩ fun p e s m below meth c C0 hP hD hsz ls hl => ?_
  subst hsz
  generalize hAe : va_A [(h_t, .inr (2, [v_t_parts, .int t_count]))] s.heap.size = A at hD ⊢
  have hA : ∀ q : Nat, s.heap.size ≤ q → A q := fun q h => by rw [← hAe]; exact Or.inr h
  clear hAe
  have hS : va_S A s.heap s.heap [] := va_S.rf
  have hl : lv_has ls 1 [(0, .ref h_t)] := hl
  obtain ⟨hx, hb, hml, hr, hlocks, hts, hown, hK, hin⟩ := id C0
  have hf : (((
  some 0)) : Option (Int32)) = some res := hf
  obtain ⟨H, hH⟩ : ∃ H, H = s.heap := ⟨_, rfl⟩
  obtain ⟨locs, hlo⟩ : ∃ x : List Loc, x = [] := ⟨_, rfl⟩
  rw [← hlo] at hS ⊢
  have hP : va_P D classes [(h_t, .inr (2, [v_t_parts, .int t_count]))] H := by rw [hH]; exact hP
  have hS : va_S A s.heap H locs := by rw [hH]; exact hS
  show W p l e rm_Failures_clear s m _ below meth c s.heap locs 0 0 (MQ below (QW D (post_Failures_clear h_t v_t_parts cI cB cJ res) A) _ s 0 0 A) (F0 m 0 ls [])
  refine wheap hH ?_
  clear hH hlo
  refine lv_aload_n hx hb d_Failures_clear_0 rfl (lv_at hl 0 rfl) ?_
  refine lv_iconst (v := 0) hx hb d_Failures_clear_1 (by decide) ?_
  refine va_put (D := D) (ci := 2) (v := .int 0) (ty := .int) (C := R_Failures) (T := F_Failures) (N := 2) hx hb hts i_Failures t_Failures t_Failures_ok n_Failures hown hK.1 hP hD hS 0 rfl rfl 1 (by decide) (hts _ w_206) (fun _ h9 => h9) rfl (t_Failures_ok 1 (by decide)) rfl rfl (Nat.le_of_ble_eq_true rfl) d_Failures_clear_2 (fun H locs hP hD hS => ?_)
  have hP : va_P D classes [(h_t, .inr (2, [v_t_parts, .int 0]))] H := hP
  have hD : va_D A [(h_t, .inr (2, [v_t_parts, .int 0]))] := hD
  obtain rfl := Option.some.inj hf
  exact ret_v hx hb hr hlocks hP hD hS ⟨rfl, rfl⟩ d_Failures_clear_5
def f_Tester_reversed (a1 : Int32) : Option (Int32) :=
  some (((((a1 &&& 1) <<< (3 &&& 31)) ||| ((a1 &&& 2) <<< (1 &&& 31))) ||| ((a1 &&& 4) >>> (1 &&& 31))) ||| ((a1 &&& 8) >>> (3 &&& 31)))
def post_Tester_reversed (cI cB cJ : ClassId) (res : Int32) : Option Value → va_W → Prop := fun o ws' => o = some (.int res) ∧ ws' = []
abbrev rm_Tester_reversed : Room := { frames := 0, cells := 0, slots := 0, locals := 0 }
set_option maxHeartbeats 4000000 in
set_option maxRecDepth 100000 in
theorem c_Tester_reversed (l : Launch) (D : va_G) (cI cB cJ : ClassId)   (a1 : Int32) (sz : Nat) (res : Int32) (hf : f_Tester_reversed a1 = some res) : Met l y_Tester_reversed (.code y_Tester_reversed b_Tester_reversed 1 (some .int) :: TB) rm_Tester_reversed (PcW D [(cI, .int), (cB, .byte), (cJ, .long)] [.int a1] [] sz) (QW D (post_Tester_reversed cI cB cJ res) (va_A [] sz)) 0 0 (va_A [] sz) := by
  refine entW ⟨by decide +kernel, rfl⟩ fun p e s m below meth c C0 hP hD hsz ls hl => ?_
  subst hsz
  generalize hAe : va_A [] s.heap.size = A at hD ⊢
  have hA : ∀ q : Nat, s.heap.size ≤ q → A q := fun q h => by rw [← hAe]; exact Or.inr h
  clear hAe
  have hS : va_S A s.heap s.heap [] := va_S.rf
  have hl : lv_has ls 1 [(0, .int a1)] := hl
  obtain ⟨hx, hb, hml, hr, hlocks, hts, hown, hK, hin⟩ := id C0
  have hf : (((
  some (((((a1 &&& 1) <<< (3 &&& 31)) ||| ((a1 &&& 2) <<< (1 &&& 31))) ||| ((a1 &&& 4) >>> (1 &&& 31))) ||| ((a1 &&& 8) >>> (3 &&& 31))))) : Option (Int32)) = some res := hf
  obtain ⟨H, hH⟩ : ∃ H, H = s.heap := ⟨_, rfl⟩
  obtain ⟨locs, hlo⟩ : ∃ x : List Loc, x = [] := ⟨_, rfl⟩
  rw [← hlo] at hS ⊢
  have hP : va_P D classes [] H := by rw [hH]; exact hP
  have hS : va_S A s.heap H locs := by rw [hH]; exact hS
  show W p l e rm_Tester_reversed s m _ below meth c s.heap locs 0 0 (MQ below (QW D (post_Tester_reversed cI cB cJ res) A) _ s 0 0 A) (F0 m 0 ls [])
  refine wheap hH ?_
  clear hH hlo
  refine lv_iload_n hx hb d_Tester_reversed_0 rfl (lv_at hl 0 rfl) ?_
  refine lv_iconst (v := 1) hx hb d_Tester_reversed_1 (by decide) ?_
  refine lv_iand hx hb d_Tester_reversed_2 ?_
  refine lv_iconst (v := 3) hx hb d_Tester_reversed_3 (by decide) ?_
  refine lv_ishl hx hb d_Tester_reversed_4 ?_
  refine lv_iload_n hx hb d_Tester_reversed_5 rfl (lv_at hl 0 rfl) ?_
  refine lv_iconst (v := 2) hx hb d_Tester_reversed_6 (by decide) ?_
  refine lv_iand hx hb d_Tester_reversed_7 ?_
  refine lv_iconst (v := 1) hx hb d_Tester_reversed_8 (by decide) ?_
  refine lv_ishl hx hb d_Tester_reversed_9 ?_
  refine lv_ior hx hb d_Tester_reversed_10 ?_
  refine lv_iload_n hx hb d_Tester_reversed_11 rfl (lv_at hl 0 rfl) ?_
  refine lv_iconst (v := 4) hx hb d_Tester_reversed_12 (by decide) ?_
  refine lv_iand hx hb d_Tester_reversed_13 ?_
  refine lv_iconst (v := 1) hx hb d_Tester_reversed_14 (by decide) ?_
  refine lv_ishr hx hb d_Tester_reversed_15 ?_
  refine lv_ior hx hb d_Tester_reversed_16 ?_
  refine lv_iload_n hx hb d_Tester_reversed_17 rfl (lv_at hl 0 rfl) ?_
  refine lv_bipush (v := 8) hx hb d_Tester_reversed_18 (by decide) ?_
  refine lv_iand hx hb d_Tester_reversed_20 ?_
  refine lv_iconst (v := 3) hx hb d_Tester_reversed_21 (by decide) ?_
  refine lv_ishr hx hb d_Tester_reversed_22 ?_
  refine lv_ior hx hb d_Tester_reversed_23 ?_
  obtain rfl := Option.some.inj hf
  exact ret_i hx hb hr hlocks hP hD hS ⟨rfl, rfl⟩ d_Tester_reversed_24
def f_Tester_zeroIn_11 (t_groundKind : Int32) (s0 : Int32) : Option (Int32) :=
  (if t_groundKind = 1 then
    (if s0 = 0 then
      some 10
    else
      some (-11))
  else
    (if t_groundKind = 2 then
      (if s0 = 0 then
        some 0
      else
        some (-1))
    else
      (if t_groundKind = 3 then
        some 10
      else
        some 0)))
def f_Tester_zeroIn (t_groundKind : Int32) (a1 : Int32) : Option (Int32) :=
  (if (a1 &&& 1) = 0 then
    (f_Tester_zeroIn_11 t_groundKind 0)
  else
    (f_Tester_zeroIn_11 t_groundKind 1))
def post_Tester_zeroIn (h_t : Nat) (v_t_failures v_t_ports v_t_words v_t_allBits v_t_memory v_t_scrambled v_t_wordAt v_t_zeroOf : Value) (t_groundKind : Int32) (cI cB cJ : ClassId) (res : Int32) : Option Value → va_W → Prop := fun o ws' => o = some (.int res) ∧ ws' = [(h_t, .inr (8, [v_t_failures, v_t_ports, .int t_groundKind, v_t_words, v_t_allBits, v_t_memory, v_t_scrambled, v_t_wordAt, v_t_zeroOf]))]
abbrev rm_Tester_zeroIn : Room := { frames := 0, cells := 0, slots := 0, locals := 0 }
set_option maxHeartbeats 4000000 in
set_option maxRecDepth 100000 in
theorem k_Tester_zeroIn_11 {p : Program} {l : Launch} {e : Env} {s : State} {m : MethodId} {args : Array Value} {below : List Frame} {meth : Method} {c : Code} {D : va_G} {cI cB cJ : ClassId} {A : Nat → Prop} (C0 : CX p s m args meth c D [(cI, .int), (cB, .byte), (cJ, .long)] R_Tester b_Tester_zeroIn 3 (some .int) "zeroIn") (hA : ∀ q, s.heap.size ≤ q → A q) {h_t : Nat} {v_t_failures v_t_ports v_t_words v_t_allBits v_t_memory v_t_scrambled v_t_wordAt v_t_zeroOf : Value} {res : Int32} {t_groundKind : Int32} {s0 : Int32}
    (hf : f_Tester_zeroIn_11 t_groundKind s0 = some res) {H : Heap} {locs : List Loc} {ls : Array Slot} (hP : va_P D classes [(h_t, .inr (8, [v_t_failures, v_t_ports, .int t_groundKind, v_t_words, v_t_allBits, v_t_memory, v_t_scrambled, v_t_wordAt, v_t_zeroOf]))] H) (hD : va_D A [(h_t, .inr (8, [v_t_failures, v_t_ports, .int t_groundKind, v_t_words, v_t_allBits, v_t_memory, v_t_scrambled, v_t_wordAt, v_t_zeroOf]))]) (hS : va_S A s.heap H locs) (hl : lv_has ls 3 [(0, .ref h_t)]) : W p l e rm_Tester_zeroIn s m args below meth c H locs 0 0 (MQ below (QW D (post_Tester_zeroIn h_t v_t_failures v_t_ports v_t_words v_t_allBits v_t_memory v_t_scrambled v_t_wordAt v_t_zeroOf t_groundKind cI cB cJ res) A) args s 0 0 A) (F0 m 11 ls [.int s0]) := by
  obtain ⟨hx, hb, hml, hr, hlocks, hts, hown, hK, hin⟩ := id C0
  have hf : (((
  (if t_groundKind = 1 then
    (if s0 = 0 then
      some 10
    else
      some (-11))
  else
    (if t_groundKind = 2 then
      (if s0 = 0 then
        some 0
      else
        some (-1))
    else
      (if t_groundKind = 3 then
        some 10
      else
        some 0))))) : Option (Int32)) = some res := hf
  refine lv_istore_n (lv' := [(2, .int s0), (0, .ref h_t)]) hx hb d_Tester_zeroIn_11 rfl hl (by decide) rfl (fun ls hl => ?_)
  refine lv_aload_n hx hb d_Tester_zeroIn_12 rfl (lv_at hl 1 rfl) ?_
  refine va_get (D := D) (ci := 8) (v := .int t_groundKind) (C := R_Tester) (T := F_Tester) (N := 9) hx hb hts i_Tester hown hK.1 hP 0 rfl rfl 2 (by decide) (hts _ w_207) (fun _ h9 => h9) rfl d_Tester_zeroIn_13 ?_
  by_cases cs : t_groundKind = 1
  · have hf := ifT cs hf
    refine lv_tableIn (off := 28) (tgt := 44) hx hb d_Tester_zeroIn_16 (by rw [cs]; decide) (by rw [cs]; decide) (by rw [cs] <;> rfl) (by decide) ?_
    refine lv_iload_n hx hb d_Tester_zeroIn_44 rfl (lv_at hl 0 rfl) ?_
    refine lv_if_eq (tgt := 53) hx hb d_Tester_zeroIn_45 (by decide) (fun cc45 => ?_) (fun cc45 => ?_)
    · have hf := ifT cc45 hf
      refine lv_bipush (v := 10) hx hb d_Tester_zeroIn_53 (by decide) ?_
      obtain rfl := Option.some.inj hf
      exact ret_i hx hb hr hlocks hP hD hS ⟨rfl, rfl⟩ d_Tester_zeroIn_55
    · have hf := ifF cc45 hf
      refine lv_bipush (v := (-11)) hx hb d_Tester_zeroIn_48 (by decide) ?_
      refine lv_goto (tgt := 55) hx hb d_Tester_zeroIn_50 (by decide) ?_
      obtain rfl := Option.some.inj hf
      exact ret_i hx hb hr hlocks hP hD hS ⟨rfl, rfl⟩ d_Tester_zeroIn_55
  · have hf := ifF cs hf
    have cs0 := cs
    by_cases cs : t_groundKind = 2
    · have hf := ifT cs hf
      refine lv_tableIn (off := 40) (tgt := 56) hx hb d_Tester_zeroIn_16 (by rw [cs]; decide) (by rw [cs]; decide) (by rw [cs] <;> rfl) (by decide) ?_
      refine lv_iload_n hx hb d_Tester_zeroIn_56 rfl (lv_at hl 0 rfl) ?_
      refine lv_if_eq (tgt := 64) hx hb d_Tester_zeroIn_57 (by decide) (fun cc57 => ?_) (fun cc57 => ?_)
      · have hf := ifT cc57 hf
        refine lv_iconst (v := 0) hx hb d_Tester_zeroIn_64 (by decide) ?_
        obtain rfl := Option.some.inj hf
        exact ret_i hx hb hr hlocks hP hD hS ⟨rfl, rfl⟩ d_Tester_zeroIn_65
      · have hf := ifF cc57 hf
        refine lv_iconst (v := (-1)) hx hb d_Tester_zeroIn_60 (by decide) ?_
        refine lv_goto (tgt := 65) hx hb d_Tester_zeroIn_61 (by decide) ?_
        obtain rfl := Option.some.inj hf
        exact ret_i hx hb hr hlocks hP hD hS ⟨rfl, rfl⟩ d_Tester_zeroIn_65
    · have hf := ifF cs hf
      have cs1 := cs
      by_cases cs : t_groundKind = 3
      · have hf := ifT cs hf
        refine lv_tableIn (off := 50) (tgt := 66) hx hb d_Tester_zeroIn_16 (by rw [cs]; decide) (by rw [cs]; decide) (by rw [cs] <;> rfl) (by decide) ?_
        refine lv_bipush (v := 10) hx hb d_Tester_zeroIn_66 (by decide) ?_
        obtain rfl := Option.some.inj hf
        exact ret_i hx hb hr hlocks hP hD hS ⟨rfl, rfl⟩ d_Tester_zeroIn_68
      · have hf := ifF cs hf
        have cs2 := cs
        refine lv_tableOut (tgt := 69) hx hb d_Tester_zeroIn_16 (by have n0 := lv_neT (a := 1) cs0 (by decide); have n1 := lv_neT (a := 2) cs1 (by decide); have n2 := lv_neT (a := 3) cs2 (by decide); omega) (by decide) ?_
        refine lv_iconst (v := 0) hx hb d_Tester_zeroIn_69 (by decide) ?_
        obtain rfl := Option.some.inj hf
        exact ret_i hx hb hr hlocks hP hD hS ⟨rfl, rfl⟩ d_Tester_zeroIn_70
set_option maxHeartbeats 4000000 in
set_option maxRecDepth 100000 in
theorem c_Tester_zeroIn (l : Launch) (D : va_G) (cI cB cJ : ClassId) (h_t : Nat) (v_t_failures v_t_ports v_t_words v_t_allBits v_t_memory v_t_scrambled v_t_wordAt v_t_zeroOf : Value) (t_groundKind : Int32) (a1 : Int32) (sz : Nat) (res : Int32) (hf : f_Tester_zeroIn t_groundKind a1 = some res) : Met l y_Tester_zeroIn (.code y_Tester_zeroIn b_Tester_zeroIn 3 (some .int) :: TB) rm_Tester_zeroIn (PcW D [(cI, .int), (cB, .byte), (cJ, .long)] [.ref h_t, .int a1] [(h_t, .inr (8, [v_t_failures, v_t_ports, .int t_groundKind, v_t_words, v_t_allBits, v_t_memory, v_t_scrambled, v_t_wordAt, v_t_zeroOf]))] sz) (QW D (post_Tester_zeroIn h_t v_t_failures v_t_ports v_t_words v_t_allBits v_t_memory v_t_scrambled v_t_wordAt v_t_zeroOf t_groundKind cI cB cJ res) (va_A [(h_t, .inr (8, [v_t_failures, v_t_ports, .int t_groundKind, v_t_words, v_t_allBits, v_t_memory, v_t_scrambled, v_t_wordAt, v_t_zeroOf]))] sz)) 0 0 (va_A [(h_t, .inr (8, [v_t_failures, v_t_ports, .int t_groundKind, v_t_words, v_t_allBits, v_t_memory, v_t_scrambled, v_t_wordAt, v_t_zeroOf]))] sz) := by
  refine entW ⟨by decide +kernel, rfl⟩ fun p e s m below meth c C0 hP hD hsz ls hl => ?_
  subst hsz
  generalize hAe : va_A [(h_t, .inr (8, [v_t_failures, v_t_ports, .int t_groundKind, v_t_words, v_t_allBits, v_t_memory, v_t_scrambled, v_t_wordAt, v_t_zeroOf]))] s.heap.size = A at hD ⊢
  have hA : ∀ q : Nat, s.heap.size ≤ q → A q := fun q h => by rw [← hAe]; exact Or.inr h
  clear hAe
  have hS : va_S A s.heap s.heap [] := va_S.rf
  have hl : lv_has ls 3 [(0, .ref h_t), (1, .int a1)] := hl
  obtain ⟨hx, hb, hml, hr, hlocks, hts, hown, hK, hin⟩ := id C0
  have hf : (((
  (if (a1 &&& 1) = 0 then
    (f_Tester_zeroIn_11 t_groundKind 0)
  else
    (f_Tester_zeroIn_11 t_groundKind 1)))) : Option (Int32)) = some res := hf
  obtain ⟨H, hH⟩ : ∃ H, H = s.heap := ⟨_, rfl⟩
  obtain ⟨locs, hlo⟩ : ∃ x : List Loc, x = [] := ⟨_, rfl⟩
  rw [← hlo] at hS ⊢
  have hP : va_P D classes [(h_t, .inr (8, [v_t_failures, v_t_ports, .int t_groundKind, v_t_words, v_t_allBits, v_t_memory, v_t_scrambled, v_t_wordAt, v_t_zeroOf]))] H := by rw [hH]; exact hP
  have hS : va_S A s.heap H locs := by rw [hH]; exact hS
  show W p l e rm_Tester_zeroIn s m _ below meth c s.heap locs 0 0 (MQ below (QW D (post_Tester_zeroIn h_t v_t_failures v_t_ports v_t_words v_t_allBits v_t_memory v_t_scrambled v_t_wordAt v_t_zeroOf t_groundKind cI cB cJ res) A) _ s 0 0 A) (F0 m 0 ls [])
  refine wheap hH ?_
  clear hH hlo
  refine lv_iload_n hx hb d_Tester_zeroIn_0 rfl (lv_at hl 1 rfl) ?_
  refine lv_iconst (v := 1) hx hb d_Tester_zeroIn_1 (by decide) ?_
  refine lv_iand hx hb d_Tester_zeroIn_2 ?_
  refine lv_if_eq (tgt := 10) hx hb d_Tester_zeroIn_3 (by decide) (fun cc3 => ?_) (fun cc3 => ?_)
  · have hf := ifT cc3 hf
    refine lv_iconst (v := 0) hx hb d_Tester_zeroIn_10 (by decide) ?_
    exact k_Tester_zeroIn_11 (s := s) C0 hA hf hP hD hS (lv_sub hl [0] rfl)
  · have hf := ifF cc3 hf
    refine lv_iconst (v := 1) hx hb d_Tester_zeroIn_6 (by decide) ?_
    refine lv_goto (tgt := 11) hx hb d_Tester_zeroIn_7 (by decide) ?_
    exact k_Tester_zeroIn_11 (s := s) C0 hA hf hP hD hS (lv_sub hl [0] rfl)
def g_Tester_prepare_86 (n_t_zeroOf : Nat) (t_groundKind : Int32) (t_words : Int32) (t_allBits : Int32) (t_wordAt_a : Nat → Int32) (rec86 : ((Nat → Int32) × Int32) → Option ((Nat → Int32) × (Nat → Int32))) (st : ((Nat → Int32) × Int32)) : Option ((Nat → Int32) × (Nat → Int32)) :=
  (if t_words ≤ st.2 then
    some (st.1, t_wordAt_a)
  else
    (Option.bind (f_Tester_zeroIn t_groundKind st.2) fun q101_1 =>
    (if inB st.2 n_t_zeroOf = true then
    (rec86 ((upd st.1 (Int32.toNatClampNeg st.2) (q101_1 &&& t_allBits)), (st.2 + 1)))
    else none)))
def f_Tester_prepare_38 (n_t_scrambled : Nat) (n_t_wordAt : Nat) (t_words : Int32) (t_zeroOf_a : Nat → Int32) (t_scrambled_a : Nat → Int32) (t_wordAt_a : Nat → Int32) (s0 : Int32) (x2 : Int32) (x3 : Int32) (rec4 : ((Nat → Int32) × (Nat → Int32) × Int32 × Int32) → Option ((Nat → Int32) × (Nat → Int32))) : Option ((Nat → Int32) × (Nat → Int32)) :=
  (if s0 < 0 then
    (rec4 (t_zeroOf_a, t_wordAt_a, x2, (x3 + 1)))
  else
    (if t_words ≤ s0 then
      (rec4 (t_zeroOf_a, t_wordAt_a, x2, (x3 + 1)))
    else
      (if t_words ≤ x2 then
        (rec4 (t_zeroOf_a, t_wordAt_a, x2, (x3 + 1)))
      else
        (if inB s0 n_t_scrambled = true then
        (if inB x2 n_t_wordAt = true then
        (rec4 (t_zeroOf_a, (upd t_wordAt_a (Int32.toNatClampNeg x2) (t_scrambled_a (Int32.toNatClampNeg s0))), (x2 + 1), (x3 + 1)))
        else none)
        else none))))
def g_Tester_prepare_4 (n_t_zeroOf : Nat) (n_t_scrambled : Nat) (n_t_wordAt : Nat) (t_groundKind : Int32) (t_words : Int32) (t_allBits : Int32) (t_scrambled_a : Nat → Int32) (x1 : Int32) (rec4 : ((Nat → Int32) × (Nat → Int32) × Int32 × Int32) → Option ((Nat → Int32) × (Nat → Int32))) (st : ((Nat → Int32) × (Nat → Int32) × Int32 × Int32)) : Option ((Nat → Int32) × (Nat → Int32)) :=
  (if 16 ≤ st.2.2.2 then
    (lp (g_Tester_prepare_86 n_t_zeroOf t_groundKind t_words t_allBits st.2.1) 100000 (st.1, 0))
  else
    (if x1 = 0 then
      (f_Tester_prepare_38 n_t_scrambled n_t_wordAt t_words st.1 t_scrambled_a st.2.1 st.2.2.2 st.2.2.1 st.2.2.2 rec4)
    else
      (if x1 = 1 then
        (Option.bind (f_Tester_reversed st.2.2.2) fun q24_2 =>
        (f_Tester_prepare_38 n_t_scrambled n_t_wordAt t_words st.1 t_scrambled_a st.2.1 q24_2 st.2.2.1 st.2.2.2 rec4))
      else
        (f_Tester_prepare_38 n_t_scrambled n_t_wordAt t_words st.1 t_scrambled_a st.2.1 ((t_words - 1) - st.2.2.2) st.2.2.1 st.2.2.2 rec4))))
def f_Tester_prepare (n_t_zeroOf : Nat) (n_t_scrambled : Nat) (n_t_wordAt : Nat) (t_groundKind : Int32) (t_words : Int32) (t_allBits : Int32) (t_zeroOf_a : Nat → Int32) (t_scrambled_a : Nat → Int32) (t_wordAt_a : Nat → Int32) (a1 : Int32) : Option ((Nat → Int32) × (Nat → Int32)) :=
  (lp (g_Tester_prepare_4 n_t_zeroOf n_t_scrambled n_t_wordAt t_groundKind t_words t_allBits t_scrambled_a a1) 100000 (t_zeroOf_a, t_wordAt_a, 0, 0))
def post_Tester_prepare (h_t h_t_zeroOf h_t_wordAt h_t_scrambled : Nat) (v_t_failures v_t_ports v_t_memory : Value) (n_t_zeroOf : Nat) (n_t_scrambled : Nat) (n_t_wordAt : Nat) (t_groundKind : Int32) (t_words : Int32) (t_allBits : Int32) (t_scrambled_a : Nat → Int32) (cI cB cJ : ClassId) (res : (Nat → Int32) × (Nat → Int32)) : Option Value → va_W → Prop := fun o ws' => o = none ∧ ws' = [(h_t, .inr (8, [v_t_failures, v_t_ports, .int t_groundKind, .int t_words, .int t_allBits, v_t_memory, .ref h_t_scrambled, .ref h_t_wordAt, .ref h_t_zeroOf])), (h_t_zeroOf, .inl (cI, n_t_zeroOf, .inl res.1)), (h_t_scrambled, .inl (cI, n_t_scrambled, .inl t_scrambled_a)), (h_t_wordAt, .inl (cI, n_t_wordAt, .inl res.2))]
abbrev rm_Tester_prepare : Room := { frames := 1, cells := 0, slots := 0, locals := 22 }
set_option maxHeartbeats 4000000 in
set_option maxRecDepth 100000 in
theorem kb_Tester_prepare_86 {p : Program} {l : Launch} {e : Env} {s : State} {m : MethodId} {args : Array Value} {below : List Frame} {meth : Method} {c : Code} {D : va_G} {cI cB cJ : ClassId} {A : Nat → Prop} (C0 : CX p s m args meth c D [(cI, .int), (cB, .byte), (cJ, .long)] R_Tester b_Tester_prepare 5 none "prepare") (hA : ∀ q, s.heap.size ≤ q → A q) {h_t h_t_zeroOf h_t_wordAt h_t_scrambled : Nat} {v_t_failures v_t_ports v_t_memory : Value} {res : (Nat → Int32) × (Nat → Int32)} {rec86 : ((Nat → Int32) × Int32) → Option ((Nat → Int32) × (Nat → Int32))} {n_t_zeroOf : Nat} {n_t_scrambled : Nat} {n_t_wordAt : Nat} {t_groundKind : Int32} {t_words : Int32} {t_allBits : Int32} {t_zeroOf_a : Nat → Int32} {t_scrambled_a : Nat → Int32} {t_wordAt_a : Nat → Int32} {x3 : Int32}
    (hrec86 : ∀ (st : ((Nat → Int32) × Int32)), rec86 st = some res → ∀  (H : Heap) (locs : List Loc) (ls : Array Slot), va_P D classes [(h_t, .inr (8, [v_t_failures, v_t_ports, .int t_groundKind, .int t_words, .int t_allBits, v_t_memory, .ref h_t_scrambled, .ref h_t_wordAt, .ref h_t_zeroOf])), (h_t_zeroOf, .inl (cI, n_t_zeroOf, .inl st.1)), (h_t_scrambled, .inl (cI, n_t_scrambled, .inl t_scrambled_a)), (h_t_wordAt, .inl (cI, n_t_wordAt, .inl t_wordAt_a))] H → va_D A [(h_t, .inr (8, [v_t_failures, v_t_ports, .int t_groundKind, .int t_words, .int t_allBits, v_t_memory, .ref h_t_scrambled, .ref h_t_wordAt, .ref h_t_zeroOf])), (h_t_zeroOf, .inl (cI, n_t_zeroOf, .inl st.1)), (h_t_scrambled, .inl (cI, n_t_scrambled, .inl t_scrambled_a)), (h_t_wordAt, .inl (cI, n_t_wordAt, .inl t_wordAt_a))] → va_S A s.heap H locs → lv_has ls 5 [(0, .ref h_t), (3, .int st.2)] → W p l e rm_Tester_prepare s m args below meth c H locs 0 0 (MQ below (QW D (post_Tester_prepare h_t h_t_zeroOf h_t_wordAt h_t_scrambled v_t_failures v_t_ports v_t_memory n_t_zeroOf n_t_scrambled n_t_wordAt t_groundKind t_words t_allBits t_scrambled_a cI cB cJ res) A) args s 0 0 A) (F0 m 86 ls []))
    (hf : g_Tester_prepare_86 n_t_zeroOf t_groundKind t_words t_allBits t_wordAt_a rec86 (t_zeroOf_a, x3) = some res) {H : Heap} {locs : List Loc} {ls : Array Slot} (hP : va_P D classes [(h_t, .inr (8, [v_t_failures, v_t_ports, .int t_groundKind, .int t_words, .int t_allBits, v_t_memory, .ref h_t_scrambled, .ref h_t_wordAt, .ref h_t_zeroOf])), (h_t_zeroOf, .inl (cI, n_t_zeroOf, .inl t_zeroOf_a)), (h_t_scrambled, .inl (cI, n_t_scrambled, .inl t_scrambled_a)), (h_t_wordAt, .inl (cI, n_t_wordAt, .inl t_wordAt_a))] H) (hD : va_D A [(h_t, .inr (8, [v_t_failures, v_t_ports, .int t_groundKind, .int t_words, .int t_allBits, v_t_memory, .ref h_t_scrambled, .ref h_t_wordAt, .ref h_t_zeroOf])), (h_t_zeroOf, .inl (cI, n_t_zeroOf, .inl t_zeroOf_a)), (h_t_scrambled, .inl (cI, n_t_scrambled, .inl t_scrambled_a)), (h_t_wordAt, .inl (cI, n_t_wordAt, .inl t_wordAt_a))]) (hS : va_S A s.heap H locs) (hl : lv_has ls 5 [(0, .ref h_t), (3, .int x3)]) : W p l e rm_Tester_prepare s m args below meth c H locs 0 0 (MQ below (QW D (post_Tester_prepare h_t h_t_zeroOf h_t_wordAt h_t_scrambled v_t_failures v_t_ports v_t_memory n_t_zeroOf n_t_scrambled n_t_wordAt t_groundKind t_words t_allBits t_scrambled_a cI cB cJ res) A) args s 0 0 A) (F0 m 86 ls []) := by
  obtain ⟨hx, hb, hml, hr, hlocks, hts, hown, hK, hin⟩ := id C0
  have hf : (((
  (if t_words ≤ x3 then
    some (t_zeroOf_a, t_wordAt_a)
  else
    (Option.bind (f_Tester_zeroIn t_groundKind x3) fun q101_1 =>
    (if inB x3 n_t_zeroOf = true then
    (rec86 ((upd t_zeroOf_a (Int32.toNatClampNeg x3) (q101_1 &&& t_allBits)), (x3 + 1)))
    else none))))) : Option ((Nat → Int32) × (Nat → Int32))) = some res := hf
  refine lv_iload_n hx hb d_Tester_prepare_86 rfl (lv_at hl 1 rfl) ?_
  refine lv_aload_n hx hb d_Tester_prepare_87 rfl (lv_at hl 0 rfl) ?_
  refine va_get (D := D) (ci := 8) (v := .int t_words) (C := R_Tester) (T := F_Tester) (N := 9) hx hb hts i_Tester hown hK.1 hP 0 rfl rfl 3 (by decide) (hts _ w_37) (fun _ h9 => h9) rfl d_Tester_prepare_88 ?_
  refine lv_icmp_ge (tgt := 116) hx hb d_Tester_prepare_91 (by decide) (fun cc91 => ?_) (fun cc91 => ?_)
  · have hf := ifT cc91 hf
    obtain rfl := Option.some.inj hf
    exact ret_v hx hb hr hlocks hP hD hS ⟨rfl, rfl⟩ d_Tester_prepare_116
  · have hf := ifF cc91 hf
    refine lv_aload_n hx hb d_Tester_prepare_94 rfl (lv_at hl 0 rfl) ?_
    refine va_get (D := D) (ci := 8) (v := .ref h_t_zeroOf) (C := R_Tester) (T := F_Tester) (N := 9) hx hb hts i_Tester hown hK.1 hP 0 rfl rfl 8 (by decide) (hts _ w_55) (fun _ h9 => h9) rfl d_Tester_prepare_95 ?_
    refine lv_iload_n hx hb d_Tester_prepare_98 rfl (lv_at hl 1 rfl) ?_
    refine lv_aload_n hx hb d_Tester_prepare_99 rfl (lv_at hl 0 rfl) ?_
    refine lv_iload_n hx hb d_Tester_prepare_100 rfl (lv_at hl 1 rfl) ?_
    obtain ⟨q101_1, hc, hf⟩ := bindS hf
    refine mcV (n := 1) (As := [.int x3]) (rest := [.int x3, .ref h_t_zeroOf]) (wr := [(h_t_zeroOf, .inl (cI, n_t_zeroOf, .inl t_zeroOf_a)), (h_t_scrambled, .inl (cI, n_t_scrambled, .inl t_scrambled_a)), (h_t_wordAt, .inl (cI, n_t_wordAt, .inl t_wordAt_a))]) hx hb hml hown hts hK (c_Tester_zeroIn (l := l) (D := D) (cI := cI) (cB := cB) (cJ := cJ) (h_t := h_t) (v_t_failures := v_t_failures) (v_t_ports := v_t_ports) (v_t_words := (.int t_words)) (v_t_allBits := (.int t_allBits)) (v_t_memory := v_t_memory) (v_t_scrambled := (.ref h_t_scrambled)) (v_t_wordAt := (.ref h_t_wordAt)) (v_t_zeroOf := (.ref h_t_zeroOf)) (t_groundKind := t_groundKind) (a1 := x3) (sz := H.size) (res := q101_1) (hf := hc)) w_208 w_209 w_210 w_93 w_211 (by decide +kernel) rfl rfl ⟨Nat.le_of_ble_eq_true rfl, Nat.le_of_ble_eq_true rfl⟩ hP hD hS hA [0] [1, 2, 3] rfl rfl (by decide) (by decide) (by decide) (ci := 8) 0 rfl rfl hl.1 rfl rfl (lv_room (Nat.le_of_ble_eq_true rfl)) d_Tester_prepare_101 ⟨Nat.le_of_ble_eq_true rfl, Nat.le_of_ble_eq_true rfl⟩ (fun o ws' H locs hp hP hD hS => ?_)
    obtain ⟨rfl, rfl⟩ := hp
    have hP : va_P D classes [(h_t, .inr (8, [v_t_failures, v_t_ports, .int t_groundKind, .int t_words, .int t_allBits, v_t_memory, .ref h_t_scrambled, .ref h_t_wordAt, .ref h_t_zeroOf])), (h_t_zeroOf, .inl (cI, n_t_zeroOf, .inl t_zeroOf_a)), (h_t_scrambled, .inl (cI, n_t_scrambled, .inl t_scrambled_a)), (h_t_wordAt, .inl (cI, n_t_wordAt, .inl t_wordAt_a))] H := hP.sub [3, 0, 1, 2] rfl
    have hD : va_D A [(h_t, .inr (8, [v_t_failures, v_t_ports, .int t_groundKind, .int t_words, .int t_allBits, v_t_memory, .ref h_t_scrambled, .ref h_t_wordAt, .ref h_t_zeroOf])), (h_t_zeroOf, .inl (cI, n_t_zeroOf, .inl t_zeroOf_a)), (h_t_scrambled, .inl (cI, n_t_scrambled, .inl t_scrambled_a)), (h_t_wordAt, .inl (cI, n_t_wordAt, .inl t_wordAt_a))] := hD.sub [3, 0, 1, 2] (by decide) rfl
    refine lv_aload_n hx hb d_Tester_prepare_104 rfl (lv_at hl 0 rfl) ?_
    refine va_get (D := D) (ci := 8) (v := .int t_allBits) (C := R_Tester) (T := F_Tester) (N := 9) hx hb hts i_Tester hown hK.1 hP 0 rfl rfl 4 (by decide) (hts _ w_38) (fun _ h9 => h9) rfl d_Tester_prepare_105 ?_
    refine lv_iand hx hb d_Tester_prepare_108 ?_
    obtain ⟨hin1, hf⟩ := ifG hf
    refine va_iast hx hb hK.1 hP hD hS 1 0 rfl rfl (inB_in hin1) d_Tester_prepare_109 (fun H locs hP hD hS => ?_)
    have hP : va_P D classes [(h_t, .inr (8, [v_t_failures, v_t_ports, .int t_groundKind, .int t_words, .int t_allBits, v_t_memory, .ref h_t_scrambled, .ref h_t_wordAt, .ref h_t_zeroOf])), (h_t_zeroOf, .inl (cI, n_t_zeroOf, .inl (upd t_zeroOf_a (Int32.toNatClampNeg x3) (q101_1 &&& t_allBits)))), (h_t_scrambled, .inl (cI, n_t_scrambled, .inl t_scrambled_a)), (h_t_wordAt, .inl (cI, n_t_wordAt, .inl t_wordAt_a))] H := hP
    have hD : va_D A [(h_t, .inr (8, [v_t_failures, v_t_ports, .int t_groundKind, .int t_words, .int t_allBits, v_t_memory, .ref h_t_scrambled, .ref h_t_wordAt, .ref h_t_zeroOf])), (h_t_zeroOf, .inl (cI, n_t_zeroOf, .inl (upd t_zeroOf_a (Int32.toNatClampNeg x3) (q101_1 &&& t_allBits)))), (h_t_scrambled, .inl (cI, n_t_scrambled, .inl t_scrambled_a)), (h_t_wordAt, .inl (cI, n_t_wordAt, .inl t_wordAt_a))] := hD
    refine lv_iinc (v := (x3 + 1)) (lv' := [(3, .int (x3 + 1)), (0, .ref h_t)]) hx hb d_Tester_prepare_110 hl (k := 1) rfl rfl (by decide) rfl (fun ls hl => ?_)
    refine lv_goto (tgt := 86) hx hb d_Tester_prepare_113 (by decide) ?_
    exact hrec86 ((upd t_zeroOf_a (Int32.toNatClampNeg x3) (q101_1 &&& t_allBits)), (x3 + 1)) hf  H locs ls hP hD hS (lv_sub hl [1, 0] rfl)
set_option maxHeartbeats 4000000 in
set_option maxRecDepth 100000 in
theorem k_Tester_prepare_86 {p : Program} {l : Launch} {e : Env} {s : State} {m : MethodId} {args : Array Value} {below : List Frame} {meth : Method} {c : Code} {D : va_G} {cI cB cJ : ClassId} {A : Nat → Prop} (C0 : CX p s m args meth c D [(cI, .int), (cB, .byte), (cJ, .long)] R_Tester b_Tester_prepare 5 none "prepare") (hA : ∀ q, s.heap.size ≤ q → A q) {h_t h_t_zeroOf h_t_wordAt h_t_scrambled : Nat} {v_t_failures v_t_ports v_t_memory : Value} {res : (Nat → Int32) × (Nat → Int32)} {n_t_zeroOf : Nat} {n_t_scrambled : Nat} {n_t_wordAt : Nat} {t_groundKind : Int32} {t_words : Int32} {t_allBits : Int32} {t_scrambled_a : Nat → Int32} {t_wordAt_a : Nat → Int32}
    : ∀ (n : Nat) (st : ((Nat → Int32) × Int32)), lp (g_Tester_prepare_86 n_t_zeroOf t_groundKind t_words t_allBits t_wordAt_a) n st = some res → ∀  (H : Heap) (locs : List Loc) (ls : Array Slot), va_P D classes [(h_t, .inr (8, [v_t_failures, v_t_ports, .int t_groundKind, .int t_words, .int t_allBits, v_t_memory, .ref h_t_scrambled, .ref h_t_wordAt, .ref h_t_zeroOf])), (h_t_zeroOf, .inl (cI, n_t_zeroOf, .inl st.1)), (h_t_scrambled, .inl (cI, n_t_scrambled, .inl t_scrambled_a)), (h_t_wordAt, .inl (cI, n_t_wordAt, .inl t_wordAt_a))] H → va_D A [(h_t, .inr (8, [v_t_failures, v_t_ports, .int t_groundKind, .int t_words, .int t_allBits, v_t_memory, .ref h_t_scrambled, .ref h_t_wordAt, .ref h_t_zeroOf])), (h_t_zeroOf, .inl (cI, n_t_zeroOf, .inl st.1)), (h_t_scrambled, .inl (cI, n_t_scrambled, .inl t_scrambled_a)), (h_t_wordAt, .inl (cI, n_t_wordAt, .inl t_wordAt_a))] → va_S A s.heap H locs → lv_has ls 5 [(0, .ref h_t), (3, .int st.2)] → W p l e rm_Tester_prepare s m args below meth c H locs 0 0 (MQ below (QW D (post_Tester_prepare h_t h_t_zeroOf h_t_wordAt h_t_scrambled v_t_failures v_t_ports v_t_memory n_t_zeroOf n_t_scrambled n_t_wordAt t_groundKind t_words t_allBits t_scrambled_a cI cB cJ res) A) args s 0 0 A) (F0 m 86 ls []) := by
  intro n
  induction n with
  | zero => intro st hf; exact absurd hf (by simp [lp])
  | succ n ih =>
    intro st hf  H locs ls hP hD hS hl
    exact kb_Tester_prepare_86 C0 hA (rec86 := lp (g_Tester_prepare_86 n_t_zeroOf t_groundKind t_words t_allBits t_wordAt_a) n) (t_zeroOf_a := st.1) (x3 := st.2)  (fun st hf  H locs ls hP hD hS hl => ih st hf  H locs ls hP hD hS hl) hf hP hD hS hl
set_option maxHeartbeats 4000000 in
set_option maxRecDepth 100000 in
theorem k_Tester_prepare_38 {p : Program} {l : Launch} {e : Env} {s : State} {m : MethodId} {args : Array Value} {below : List Frame} {meth : Method} {c : Code} {D : va_G} {cI cB cJ : ClassId} {A : Nat → Prop} (C0 : CX p s m args meth c D [(cI, .int), (cB, .byte), (cJ, .long)] R_Tester b_Tester_prepare 5 none "prepare") (hA : ∀ q, s.heap.size ≤ q → A q) {h_t h_t_zeroOf h_t_wordAt h_t_scrambled : Nat} {v_t_failures v_t_ports v_t_memory : Value} {res : (Nat → Int32) × (Nat → Int32)} {rec4 : ((Nat → Int32) × (Nat → Int32) × Int32 × Int32) → Option ((Nat → Int32) × (Nat → Int32))} {n_t_zeroOf : Nat} {n_t_scrambled : Nat} {n_t_wordAt : Nat} {t_groundKind : Int32} {t_words : Int32} {t_allBits : Int32} {t_zeroOf_a : Nat → Int32} {t_scrambled_a : Nat → Int32} {t_wordAt_a : Nat → Int32} {s0 : Int32} {x1 : Int32} {x2 : Int32} {x3 : Int32}
    (hrec4 : ∀ (st : ((Nat → Int32) × (Nat → Int32) × Int32 × Int32)), rec4 st = some res → ∀  (H : Heap) (locs : List Loc) (ls : Array Slot), va_P D classes [(h_t, .inr (8, [v_t_failures, v_t_ports, .int t_groundKind, .int t_words, .int t_allBits, v_t_memory, .ref h_t_scrambled, .ref h_t_wordAt, .ref h_t_zeroOf])), (h_t_zeroOf, .inl (cI, n_t_zeroOf, .inl st.1)), (h_t_scrambled, .inl (cI, n_t_scrambled, .inl t_scrambled_a)), (h_t_wordAt, .inl (cI, n_t_wordAt, .inl st.2.1))] H → va_D A [(h_t, .inr (8, [v_t_failures, v_t_ports, .int t_groundKind, .int t_words, .int t_allBits, v_t_memory, .ref h_t_scrambled, .ref h_t_wordAt, .ref h_t_zeroOf])), (h_t_zeroOf, .inl (cI, n_t_zeroOf, .inl st.1)), (h_t_scrambled, .inl (cI, n_t_scrambled, .inl t_scrambled_a)), (h_t_wordAt, .inl (cI, n_t_wordAt, .inl st.2.1))] → va_S A s.heap H locs → lv_has ls 5 [(0, .ref h_t), (1, .int x1), (2, .int st.2.2.1), (3, .int st.2.2.2)] → W p l e rm_Tester_prepare s m args below meth c H locs 0 0 (MQ below (QW D (post_Tester_prepare h_t h_t_zeroOf h_t_wordAt h_t_scrambled v_t_failures v_t_ports v_t_memory n_t_zeroOf n_t_scrambled n_t_wordAt t_groundKind t_words t_allBits t_scrambled_a cI cB cJ res) A) args s 0 0 A) (F0 m 4 ls []))
    (hf : f_Tester_prepare_38 n_t_scrambled n_t_wordAt t_words t_zeroOf_a t_scrambled_a t_wordAt_a s0 x2 x3 rec4 = some res) {H : Heap} {locs : List Loc} {ls : Array Slot} (hP : va_P D classes [(h_t, .inr (8, [v_t_failures, v_t_ports, .int t_groundKind, .int t_words, .int t_allBits, v_t_memory, .ref h_t_scrambled, .ref h_t_wordAt, .ref h_t_zeroOf])), (h_t_zeroOf, .inl (cI, n_t_zeroOf, .inl t_zeroOf_a)), (h_t_scrambled, .inl (cI, n_t_scrambled, .inl t_scrambled_a)), (h_t_wordAt, .inl (cI, n_t_wordAt, .inl t_wordAt_a))] H) (hD : va_D A [(h_t, .inr (8, [v_t_failures, v_t_ports, .int t_groundKind, .int t_words, .int t_allBits, v_t_memory, .ref h_t_scrambled, .ref h_t_wordAt, .ref h_t_zeroOf])), (h_t_zeroOf, .inl (cI, n_t_zeroOf, .inl t_zeroOf_a)), (h_t_scrambled, .inl (cI, n_t_scrambled, .inl t_scrambled_a)), (h_t_wordAt, .inl (cI, n_t_wordAt, .inl t_wordAt_a))]) (hS : va_S A s.heap H locs) (hl : lv_has ls 5 [(0, .ref h_t), (1, .int x1), (2, .int x2), (3, .int x3)]) : W p l e rm_Tester_prepare s m args below meth c H locs 0 0 (MQ below (QW D (post_Tester_prepare h_t h_t_zeroOf h_t_wordAt h_t_scrambled v_t_failures v_t_ports v_t_memory n_t_zeroOf n_t_scrambled n_t_wordAt t_groundKind t_words t_allBits t_scrambled_a cI cB cJ res) A) args s 0 0 A) (F0 m 38 ls [.int s0]) := by
  obtain ⟨hx, hb, hml, hr, hlocks, hts, hown, hK, hin⟩ := id C0
  have hf : (((
  (if s0 < 0 then
    (rec4 (t_zeroOf_a, t_wordAt_a, x2, (x3 + 1)))
  else
    (if t_words ≤ s0 then
      (rec4 (t_zeroOf_a, t_wordAt_a, x2, (x3 + 1)))
    else
      (if t_words ≤ x2 then
        (rec4 (t_zeroOf_a, t_wordAt_a, x2, (x3 + 1)))
      else
        (if inB s0 n_t_scrambled = true then
        (if inB x2 n_t_wordAt = true then
        (rec4 (t_zeroOf_a, (upd t_wordAt_a (Int32.toNatClampNeg x2) (t_scrambled_a (Int32.toNatClampNeg s0))), (x2 + 1), (x3 + 1)))
        else none)
        else none)))))) : Option ((Nat → Int32) × (Nat → Int32))) = some res := hf
  refine lv_istore (lv' := [(4, .int s0), (0, .ref h_t), (1, .int x1), (2, .int x2), (3, .int x3)]) hx hb d_Tester_prepare_38 hl (by decide) rfl (fun ls hl => ?_)
  refine lv_iload hx hb d_Tester_prepare_40 (lv_at hl 0 rfl) ?_
  refine lv_if_lt (tgt := 78) hx hb d_Tester_prepare_42 (by decide) (fun cc42 => ?_) (fun cc42 => ?_)
  · have hf := ifT cc42 hf
    refine lv_iinc (v := (x3 + 1)) (lv' := [(3, .int (x3 + 1)), (4, .int s0), (0, .ref h_t), (1, .int x1), (2, .int x2)]) hx hb d_Tester_prepare_78 hl (k := 4) rfl rfl (by decide) rfl (fun ls hl => ?_)
    refine lv_goto (tgt := 4) hx hb d_Tester_prepare_81 (by decide) ?_
    exact hrec4 (t_zeroOf_a, t_wordAt_a, x2, (x3 + 1)) hf  H locs ls hP hD hS (lv_sub hl [2, 3, 4, 0] rfl)
  · have hf := ifF cc42 hf
    refine lv_iload hx hb d_Tester_prepare_45 (lv_at hl 0 rfl) ?_
    refine lv_aload_n hx hb d_Tester_prepare_47 rfl (lv_at hl 1 rfl) ?_
    refine va_get (D := D) (ci := 8) (v := .int t_words) (C := R_Tester) (T := F_Tester) (N := 9) hx hb hts i_Tester hown hK.1 hP 0 rfl rfl 3 (by decide) (hts _ w_37) (fun _ h9 => h9) rfl d_Tester_prepare_48 ?_
    refine lv_icmp_ge (tgt := 78) hx hb d_Tester_prepare_51 (by decide) (fun cc51 => ?_) (fun cc51 => ?_)
    · have hf := ifT cc51 hf
      refine lv_iinc (v := (x3 + 1)) (lv' := [(3, .int (x3 + 1)), (4, .int s0), (0, .ref h_t), (1, .int x1), (2, .int x2)]) hx hb d_Tester_prepare_78 hl (k := 4) rfl rfl (by decide) rfl (fun ls hl => ?_)
      refine lv_goto (tgt := 4) hx hb d_Tester_prepare_81 (by decide) ?_
      exact hrec4 (t_zeroOf_a, t_wordAt_a, x2, (x3 + 1)) hf  H locs ls hP hD hS (lv_sub hl [2, 3, 4, 0] rfl)
    · have hf := ifF cc51 hf
      refine lv_iload_n hx hb d_Tester_prepare_54 rfl (lv_at hl 3 rfl) ?_
      refine lv_aload_n hx hb d_Tester_prepare_55 rfl (lv_at hl 1 rfl) ?_
      refine va_get (D := D) (ci := 8) (v := .int t_words) (C := R_Tester) (T := F_Tester) (N := 9) hx hb hts i_Tester hown hK.1 hP 0 rfl rfl 3 (by decide) (hts _ w_37) (fun _ h9 => h9) rfl d_Tester_prepare_56 ?_
      refine lv_icmp_ge (tgt := 78) hx hb d_Tester_prepare_59 (by decide) (fun cc59 => ?_) (fun cc59 => ?_)
      · have hf := ifT cc59 hf
        refine lv_iinc (v := (x3 + 1)) (lv' := [(3, .int (x3 + 1)), (4, .int s0), (0, .ref h_t), (1, .int x1), (2, .int x2)]) hx hb d_Tester_prepare_78 hl (k := 4) rfl rfl (by decide) rfl (fun ls hl => ?_)
        refine lv_goto (tgt := 4) hx hb d_Tester_prepare_81 (by decide) ?_
        exact hrec4 (t_zeroOf_a, t_wordAt_a, x2, (x3 + 1)) hf  H locs ls hP hD hS (lv_sub hl [2, 3, 4, 0] rfl)
      · have hf := ifF cc59 hf
        refine lv_aload_n hx hb d_Tester_prepare_62 rfl (lv_at hl 1 rfl) ?_
        refine va_get (D := D) (ci := 8) (v := .ref h_t_wordAt) (C := R_Tester) (T := F_Tester) (N := 9) hx hb hts i_Tester hown hK.1 hP 0 rfl rfl 7 (by decide) (hts _ w_54) (fun _ h9 => h9) rfl d_Tester_prepare_63 ?_
        refine lv_iload_n hx hb d_Tester_prepare_66 rfl (lv_at hl 3 rfl) ?_
        refine lv_aload_n hx hb d_Tester_prepare_67 rfl (lv_at hl 1 rfl) ?_
        refine va_get (D := D) (ci := 8) (v := .ref h_t_scrambled) (C := R_Tester) (T := F_Tester) (N := 9) hx hb hts i_Tester hown hK.1 hP 0 rfl rfl 6 (by decide) (hts _ w_53) (fun _ h9 => h9) rfl d_Tester_prepare_68 ?_
        refine lv_iload hx hb d_Tester_prepare_71 (lv_at hl 0 rfl) ?_
        obtain ⟨hin1, hf⟩ := ifG hf
        refine va_iald hx hb hK.1 hP 2 0 rfl rfl (inB_in hin1) d_Tester_prepare_73 ?_
        obtain ⟨hin1, hf⟩ := ifG hf
        refine va_iast hx hb hK.1 hP hD hS 3 0 rfl rfl (inB_in hin1) d_Tester_prepare_74 (fun H locs hP hD hS => ?_)
        have hP : va_P D classes [(h_t, .inr (8, [v_t_failures, v_t_ports, .int t_groundKind, .int t_words, .int t_allBits, v_t_memory, .ref h_t_scrambled, .ref h_t_wordAt, .ref h_t_zeroOf])), (h_t_zeroOf, .inl (cI, n_t_zeroOf, .inl t_zeroOf_a)), (h_t_scrambled, .inl (cI, n_t_scrambled, .inl t_scrambled_a)), (h_t_wordAt, .inl (cI, n_t_wordAt, .inl (upd t_wordAt_a (Int32.toNatClampNeg x2) (t_scrambled_a (Int32.toNatClampNeg s0)))))] H := hP
        have hD : va_D A [(h_t, .inr (8, [v_t_failures, v_t_ports, .int t_groundKind, .int t_words, .int t_allBits, v_t_memory, .ref h_t_scrambled, .ref h_t_wordAt, .ref h_t_zeroOf])), (h_t_zeroOf, .inl (cI, n_t_zeroOf, .inl t_zeroOf_a)), (h_t_scrambled, .inl (cI, n_t_scrambled, .inl t_scrambled_a)), (h_t_wordAt, .inl (cI, n_t_wordAt, .inl (upd t_wordAt_a (Int32.toNatClampNeg x2) (t_scrambled_a (Int32.toNatClampNeg s0)))))] := hD
        refine lv_iinc (v := (x2 + 1)) (lv' := [(2, .int (x2 + 1)), (4, .int s0), (0, .ref h_t), (1, .int x1), (3, .int x3)]) hx hb d_Tester_prepare_75 hl (k := 3) rfl rfl (by decide) rfl (fun ls hl => ?_)
        refine lv_iinc (v := (x3 + 1)) (lv' := [(3, .int (x3 + 1)), (2, .int (x2 + 1)), (4, .int s0), (0, .ref h_t), (1, .int x1)]) hx hb d_Tester_prepare_78 hl (k := 4) rfl rfl (by decide) rfl (fun ls hl => ?_)
        refine lv_goto (tgt := 4) hx hb d_Tester_prepare_81 (by decide) ?_
        exact hrec4 (t_zeroOf_a, (upd t_wordAt_a (Int32.toNatClampNeg x2) (t_scrambled_a (Int32.toNatClampNeg s0))), (x2 + 1), (x3 + 1)) hf  H locs ls hP hD hS (lv_sub hl [3, 4, 1, 0] rfl)
set_option maxHeartbeats 4000000 in
set_option maxRecDepth 100000 in
theorem kb_Tester_prepare_4 {p : Program} {l : Launch} {e : Env} {s : State} {m : MethodId} {args : Array Value} {below : List Frame} {meth : Method} {c : Code} {D : va_G} {cI cB cJ : ClassId} {A : Nat → Prop} (C0 : CX p s m args meth c D [(cI, .int), (cB, .byte), (cJ, .long)] R_Tester b_Tester_prepare 5 none "prepare") (hA : ∀ q, s.heap.size ≤ q → A q) {h_t h_t_zeroOf h_t_wordAt h_t_scrambled : Nat} {v_t_failures v_t_ports v_t_memory : Value} {res : (Nat → Int32) × (Nat → Int32)} {rec4 : ((Nat → Int32) × (Nat → Int32) × Int32 × Int32) → Option ((Nat → Int32) × (Nat → Int32))} {n_t_zeroOf : Nat} {n_t_scrambled : Nat} {n_t_wordAt : Nat} {t_groundKind : Int32} {t_words : Int32} {t_allBits : Int32} {t_zeroOf_a : Nat → Int32} {t_scrambled_a : Nat → Int32} {t_wordAt_a : Nat → Int32} {x1 : Int32} {x2 : Int32} {x3 : Int32}
    (hrec4 : ∀ (st : ((Nat → Int32) × (Nat → Int32) × Int32 × Int32)), rec4 st = some res → ∀  (H : Heap) (locs : List Loc) (ls : Array Slot), va_P D classes [(h_t, .inr (8, [v_t_failures, v_t_ports, .int t_groundKind, .int t_words, .int t_allBits, v_t_memory, .ref h_t_scrambled, .ref h_t_wordAt, .ref h_t_zeroOf])), (h_t_zeroOf, .inl (cI, n_t_zeroOf, .inl st.1)), (h_t_scrambled, .inl (cI, n_t_scrambled, .inl t_scrambled_a)), (h_t_wordAt, .inl (cI, n_t_wordAt, .inl st.2.1))] H → va_D A [(h_t, .inr (8, [v_t_failures, v_t_ports, .int t_groundKind, .int t_words, .int t_allBits, v_t_memory, .ref h_t_scrambled, .ref h_t_wordAt, .ref h_t_zeroOf])), (h_t_zeroOf, .inl (cI, n_t_zeroOf, .inl st.1)), (h_t_scrambled, .inl (cI, n_t_scrambled, .inl t_scrambled_a)), (h_t_wordAt, .inl (cI, n_t_wordAt, .inl st.2.1))] → va_S A s.heap H locs → lv_has ls 5 [(0, .ref h_t), (1, .int x1), (2, .int st.2.2.1), (3, .int st.2.2.2)] → W p l e rm_Tester_prepare s m args below meth c H locs 0 0 (MQ below (QW D (post_Tester_prepare h_t h_t_zeroOf h_t_wordAt h_t_scrambled v_t_failures v_t_ports v_t_memory n_t_zeroOf n_t_scrambled n_t_wordAt t_groundKind t_words t_allBits t_scrambled_a cI cB cJ res) A) args s 0 0 A) (F0 m 4 ls []))
    (hf : g_Tester_prepare_4 n_t_zeroOf n_t_scrambled n_t_wordAt t_groundKind t_words t_allBits t_scrambled_a x1 rec4 (t_zeroOf_a, t_wordAt_a, x2, x3) = some res) {H : Heap} {locs : List Loc} {ls : Array Slot} (hP : va_P D classes [(h_t, .inr (8, [v_t_failures, v_t_ports, .int t_groundKind, .int t_words, .int t_allBits, v_t_memory, .ref h_t_scrambled, .ref h_t_wordAt, .ref h_t_zeroOf])), (h_t_zeroOf, .inl (cI, n_t_zeroOf, .inl t_zeroOf_a)), (h_t_scrambled, .inl (cI, n_t_scrambled, .inl t_scrambled_a)), (h_t_wordAt, .inl (cI, n_t_wordAt, .inl t_wordAt_a))] H) (hD : va_D A [(h_t, .inr (8, [v_t_failures, v_t_ports, .int t_groundKind, .int t_words, .int t_allBits, v_t_memory, .ref h_t_scrambled, .ref h_t_wordAt, .ref h_t_zeroOf])), (h_t_zeroOf, .inl (cI, n_t_zeroOf, .inl t_zeroOf_a)), (h_t_scrambled, .inl (cI, n_t_scrambled, .inl t_scrambled_a)), (h_t_wordAt, .inl (cI, n_t_wordAt, .inl t_wordAt_a))]) (hS : va_S A s.heap H locs) (hl : lv_has ls 5 [(0, .ref h_t), (1, .int x1), (2, .int x2), (3, .int x3)]) : W p l e rm_Tester_prepare s m args below meth c H locs 0 0 (MQ below (QW D (post_Tester_prepare h_t h_t_zeroOf h_t_wordAt h_t_scrambled v_t_failures v_t_ports v_t_memory n_t_zeroOf n_t_scrambled n_t_wordAt t_groundKind t_words t_allBits t_scrambled_a cI cB cJ res) A) args s 0 0 A) (F0 m 4 ls []) := by
  obtain ⟨hx, hb, hml, hr, hlocks, hts, hown, hK, hin⟩ := id C0
  have hf : (((
  (if 16 ≤ x3 then
    (lp (g_Tester_prepare_86 n_t_zeroOf t_groundKind t_words t_allBits t_wordAt_a) 100000 (t_zeroOf_a, 0))
  else
    (if x1 = 0 then
      (f_Tester_prepare_38 n_t_scrambled n_t_wordAt t_words t_zeroOf_a t_scrambled_a t_wordAt_a x3 x2 x3 rec4)
    else
      (if x1 = 1 then
        (Option.bind (f_Tester_reversed x3) fun q24_2 =>
        (f_Tester_prepare_38 n_t_scrambled n_t_wordAt t_words t_zeroOf_a t_scrambled_a t_wordAt_a q24_2 x2 x3 rec4))
      else
        (f_Tester_prepare_38 n_t_scrambled n_t_wordAt t_words t_zeroOf_a t_scrambled_a t_wordAt_a ((t_words - 1) - x3) x2 x3 rec4)))))) : Option ((Nat → Int32) × (Nat → Int32))) = some res := hf
  refine lv_iload_n hx hb d_Tester_prepare_4 rfl (lv_at hl 3 rfl) ?_
  refine lv_bipush (v := 16) hx hb d_Tester_prepare_5 (by decide) ?_
  refine lv_icmp_ge (tgt := 84) hx hb d_Tester_prepare_7 (by decide) (fun cc7 => ?_) (fun cc7 => ?_)
  · have hf := ifT cc7 hf
    refine lv_iconst (v := 0) hx hb d_Tester_prepare_84 (by decide) ?_
    refine lv_istore_n (lv' := [(3, .int 0), (0, .ref h_t), (1, .int x1), (2, .int x2)]) hx hb d_Tester_prepare_85 rfl hl (by decide) rfl (fun ls hl => ?_)
    exact k_Tester_prepare_86 (s := s) C0 hA _ (t_zeroOf_a, 0) hf  H locs ls hP hD hS (lv_sub hl [1, 0] rfl)
  · have hf := ifF cc7 hf
    refine lv_iload_n hx hb d_Tester_prepare_10 rfl (lv_at hl 1 rfl) ?_
    refine lv_if_ne (tgt := 18) hx hb d_Tester_prepare_11 (by decide) (fun cc11 => ?_) (fun cc11 => ?_)
    · have hf := ifF cc11 hf
      refine lv_iload_n hx hb d_Tester_prepare_18 rfl (lv_at hl 1 rfl) ?_
      refine lv_iconst (v := 1) hx hb d_Tester_prepare_19 (by decide) ?_
      refine lv_icmp_ne (tgt := 30) hx hb d_Tester_prepare_20 (by decide) (fun cc20 => ?_) (fun cc20 => ?_)
      · have hf := ifF cc20 hf
        refine lv_aload_n hx hb d_Tester_prepare_30 rfl (lv_at hl 0 rfl) ?_
        refine va_get (D := D) (ci := 8) (v := .int t_words) (C := R_Tester) (T := F_Tester) (N := 9) hx hb hts i_Tester hown hK.1 hP 0 rfl rfl 3 (by decide) (hts _ w_37) (fun _ h9 => h9) rfl d_Tester_prepare_31 ?_
        refine lv_iconst (v := 1) hx hb d_Tester_prepare_34 (by decide) ?_
        refine lv_isub hx hb d_Tester_prepare_35 ?_
        refine lv_iload_n hx hb d_Tester_prepare_36 rfl (lv_at hl 3 rfl) ?_
        refine lv_isub hx hb d_Tester_prepare_37 ?_
        exact k_Tester_prepare_38 (s := s) C0 hA hrec4 hf hP hD hS (lv_sub hl [0, 1, 2, 3] rfl)
      · have hf := ifT cc20 hf
        refine lv_iload_n hx hb d_Tester_prepare_23 rfl (lv_at hl 3 rfl) ?_
        obtain ⟨q24_2, hc, hf⟩ := bindS hf
        refine mcS (n := 1) (As := [.int x3]) (rest := []) (wr := [(h_t, .inr (8, [v_t_failures, v_t_ports, .int t_groundKind, .int t_words, .int t_allBits, v_t_memory, .ref h_t_scrambled, .ref h_t_wordAt, .ref h_t_zeroOf])), (h_t_zeroOf, .inl (cI, n_t_zeroOf, .inl t_zeroOf_a)), (h_t_scrambled, .inl (cI, n_t_scrambled, .inl t_scrambled_a)), (h_t_wordAt, .inl (cI, n_t_wordAt, .inl t_wordAt_a))]) hx hb hml hown hts hK (c_Tester_reversed (l := l) (D := D) (cI := cI) (cB := cB) (cJ := cJ) (a1 := x3) (sz := H.size) (res := q24_2) (hf := hc)) w_212 w_213 w_93 w_214 (by decide +kernel) rfl rfl ⟨Nat.le_of_ble_eq_true rfl, Nat.le_of_ble_eq_true rfl⟩ hP hD hS hA [] [0, 1, 2, 3] rfl rfl (by decide) (by decide) (by decide) hl.1 rfl rfl (lv_room (Nat.le_of_ble_eq_true rfl)) d_Tester_prepare_24 ⟨Nat.le_of_ble_eq_true rfl, Nat.le_of_ble_eq_true rfl⟩ (fun o ws' H locs hp hP hD hS => ?_)
        obtain ⟨rfl, rfl⟩ := hp
        have hP : va_P D classes [(h_t, .inr (8, [v_t_failures, v_t_ports, .int t_groundKind, .int t_words, .int t_allBits, v_t_memory, .ref h_t_scrambled, .ref h_t_wordAt, .ref h_t_zeroOf])), (h_t_zeroOf, .inl (cI, n_t_zeroOf, .inl t_zeroOf_a)), (h_t_scrambled, .inl (cI, n_t_scrambled, .inl t_scrambled_a)), (h_t_wordAt, .inl (cI, n_t_wordAt, .inl t_wordAt_a))] H := hP.sub [0, 1, 2, 3] rfl
        have hD : va_D A [(h_t, .inr (8, [v_t_failures, v_t_ports, .int t_groundKind, .int t_words, .int t_allBits, v_t_memory, .ref h_t_scrambled, .ref h_t_wordAt, .ref h_t_zeroOf])), (h_t_zeroOf, .inl (cI, n_t_zeroOf, .inl t_zeroOf_a)), (h_t_scrambled, .inl (cI, n_t_scrambled, .inl t_scrambled_a)), (h_t_wordAt, .inl (cI, n_t_wordAt, .inl t_wordAt_a))] := hD.sub [0, 1, 2, 3] (by decide) rfl
        refine lv_goto (tgt := 38) hx hb d_Tester_prepare_27 (by decide) ?_
        exact k_Tester_prepare_38 (s := s) C0 hA hrec4 hf hP hD hS (lv_sub hl [0, 1, 2, 3] rfl)
    · have hf := ifT cc11 hf
      refine lv_iload_n hx hb d_Tester_prepare_14 rfl (lv_at hl 3 rfl) ?_
      refine lv_goto (tgt := 38) hx hb d_Tester_prepare_15 (by decide) ?_
      exact k_Tester_prepare_38 (s := s) C0 hA hrec4 hf hP hD hS (lv_sub hl [0, 1, 2, 3] rfl)
set_option maxHeartbeats 4000000 in
set_option maxRecDepth 100000 in
theorem k_Tester_prepare_4 {p : Program} {l : Launch} {e : Env} {s : State} {m : MethodId} {args : Array Value} {below : List Frame} {meth : Method} {c : Code} {D : va_G} {cI cB cJ : ClassId} {A : Nat → Prop} (C0 : CX p s m args meth c D [(cI, .int), (cB, .byte), (cJ, .long)] R_Tester b_Tester_prepare 5 none "prepare") (hA : ∀ q, s.heap.size ≤ q → A q) {h_t h_t_zeroOf h_t_wordAt h_t_scrambled : Nat} {v_t_failures v_t_ports v_t_memory : Value} {res : (Nat → Int32) × (Nat → Int32)} {n_t_zeroOf : Nat} {n_t_scrambled : Nat} {n_t_wordAt : Nat} {t_groundKind : Int32} {t_words : Int32} {t_allBits : Int32} {t_scrambled_a : Nat → Int32} {x1 : Int32}
    : ∀ (n : Nat) (st : ((Nat → Int32) × (Nat → Int32) × Int32 × Int32)), lp (g_Tester_prepare_4 n_t_zeroOf n_t_scrambled n_t_wordAt t_groundKind t_words t_allBits t_scrambled_a x1) n st = some res → ∀  (H : Heap) (locs : List Loc) (ls : Array Slot), va_P D classes [(h_t, .inr (8, [v_t_failures, v_t_ports, .int t_groundKind, .int t_words, .int t_allBits, v_t_memory, .ref h_t_scrambled, .ref h_t_wordAt, .ref h_t_zeroOf])), (h_t_zeroOf, .inl (cI, n_t_zeroOf, .inl st.1)), (h_t_scrambled, .inl (cI, n_t_scrambled, .inl t_scrambled_a)), (h_t_wordAt, .inl (cI, n_t_wordAt, .inl st.2.1))] H → va_D A [(h_t, .inr (8, [v_t_failures, v_t_ports, .int t_groundKind, .int t_words, .int t_allBits, v_t_memory, .ref h_t_scrambled, .ref h_t_wordAt, .ref h_t_zeroOf])), (h_t_zeroOf, .inl (cI, n_t_zeroOf, .inl st.1)), (h_t_scrambled, .inl (cI, n_t_scrambled, .inl t_scrambled_a)), (h_t_wordAt, .inl (cI, n_t_wordAt, .inl st.2.1))] → va_S A s.heap H locs → lv_has ls 5 [(0, .ref h_t), (1, .int x1), (2, .int st.2.2.1), (3, .int st.2.2.2)] → W p l e rm_Tester_prepare s m args below meth c H locs 0 0 (MQ below (QW D (post_Tester_prepare h_t h_t_zeroOf h_t_wordAt h_t_scrambled v_t_failures v_t_ports v_t_memory n_t_zeroOf n_t_scrambled n_t_wordAt t_groundKind t_words t_allBits t_scrambled_a cI cB cJ res) A) args s 0 0 A) (F0 m 4 ls []) := by
  intro n
  induction n with
  | zero => intro st hf; exact absurd hf (by simp [lp])
  | succ n ih =>
    intro st hf  H locs ls hP hD hS hl
    exact kb_Tester_prepare_4 C0 hA (rec4 := lp (g_Tester_prepare_4 n_t_zeroOf n_t_scrambled n_t_wordAt t_groundKind t_words t_allBits t_scrambled_a x1) n) (t_zeroOf_a := st.1) (t_wordAt_a := st.2.1) (x2 := st.2.2.1) (x3 := st.2.2.2)  (fun st hf  H locs ls hP hD hS hl => ih st hf  H locs ls hP hD hS hl) hf hP hD hS hl
set_option maxHeartbeats 4000000 in
set_option maxRecDepth 100000 in
theorem c_Tester_prepare (l : Launch) (D : va_G) (cI cB cJ : ClassId) (h_t h_t_zeroOf h_t_wordAt h_t_scrambled : Nat) (v_t_failures v_t_ports v_t_memory : Value) (n_t_zeroOf : Nat) (n_t_scrambled : Nat) (n_t_wordAt : Nat) (t_groundKind : Int32) (t_words : Int32) (t_allBits : Int32) (t_zeroOf_a : Nat → Int32) (t_scrambled_a : Nat → Int32) (t_wordAt_a : Nat → Int32) (a1 : Int32) (sz : Nat) (res : (Nat → Int32) × (Nat → Int32)) (hf : f_Tester_prepare n_t_zeroOf n_t_scrambled n_t_wordAt t_groundKind t_words t_allBits t_zeroOf_a t_scrambled_a t_wordAt_a a1 = some res) : Met l y_Tester_prepare (.code y_Tester_prepare b_Tester_prepare 5 none :: TB) rm_Tester_prepare (PcW D [(cI, .int), (cB, .byte), (cJ, .long)] [.ref h_t, .int a1] [(h_t, .inr (8, [v_t_failures, v_t_ports, .int t_groundKind, .int t_words, .int t_allBits, v_t_memory, .ref h_t_scrambled, .ref h_t_wordAt, .ref h_t_zeroOf])), (h_t_zeroOf, .inl (cI, n_t_zeroOf, .inl t_zeroOf_a)), (h_t_scrambled, .inl (cI, n_t_scrambled, .inl t_scrambled_a)), (h_t_wordAt, .inl (cI, n_t_wordAt, .inl t_wordAt_a))] sz) (QW D (post_Tester_prepare h_t h_t_zeroOf h_t_wordAt h_t_scrambled v_t_failures v_t_ports v_t_memory n_t_zeroOf n_t_scrambled n_t_wordAt t_groundKind t_words t_allBits t_scrambled_a cI cB cJ res) (va_A [(h_t, .inr (8, [v_t_failures, v_t_ports, .int t_groundKind, .int t_words, .int t_allBits, v_t_memory, .ref h_t_scrambled, .ref h_t_wordAt, .ref h_t_zeroOf])), (h_t_zeroOf, .inl (cI, n_t_zeroOf, .inl t_zeroOf_a)), (h_t_scrambled, .inl (cI, n_t_scrambled, .inl t_scrambled_a)), (h_t_wordAt, .inl (cI, n_t_wordAt, .inl t_wordAt_a))] sz)) 0 0 (va_A [(h_t, .inr (8, [v_t_failures, v_t_ports, .int t_groundKind, .int t_words, .int t_allBits, v_t_memory, .ref h_t_scrambled, .ref h_t_wordAt, .ref h_t_zeroOf])), (h_t_zeroOf, .inl (cI, n_t_zeroOf, .inl t_zeroOf_a)), (h_t_scrambled, .inl (cI, n_t_scrambled, .inl t_scrambled_a)), (h_t_wordAt, .inl (cI, n_t_wordAt, .inl t_wordAt_a))] sz) := by
  refine entW ⟨by decide +kernel, rfl⟩ fun p e s m below meth c C0 hP hD hsz ls hl => ?_
  subst hsz
  generalize hAe : va_A [(h_t, .inr (8, [v_t_failures, v_t_ports, .int t_groundKind, .int t_words, .int t_allBits, v_t_memory, .ref h_t_scrambled, .ref h_t_wordAt, .ref h_t_zeroOf])), (h_t_zeroOf, .inl (cI, n_t_zeroOf, .inl t_zeroOf_a)), (h_t_scrambled, .inl (cI, n_t_scrambled, .inl t_scrambled_a)), (h_t_wordAt, .inl (cI, n_t_wordAt, .inl t_wordAt_a))] s.heap.size = A at hD ⊢
  have hA : ∀ q : Nat, s.heap.size ≤ q → A q := fun q h => by rw [← hAe]; exact Or.inr h
  clear hAe
  have hS : va_S A s.heap s.heap [] := va_S.rf
  have hl : lv_has ls 5 [(0, .ref h_t), (1, .int a1)] := hl
  obtain ⟨hx, hb, hml, hr, hlocks, hts, hown, hK, hin⟩ := id C0
  have hf : (((
  (lp (g_Tester_prepare_4 n_t_zeroOf n_t_scrambled n_t_wordAt t_groundKind t_words t_allBits t_scrambled_a a1) 100000 (t_zeroOf_a, t_wordAt_a, 0, 0)))) : Option ((Nat → Int32) × (Nat → Int32))) = some res := hf
  obtain ⟨H, hH⟩ : ∃ H, H = s.heap := ⟨_, rfl⟩
  obtain ⟨locs, hlo⟩ : ∃ x : List Loc, x = [] := ⟨_, rfl⟩
  rw [← hlo] at hS ⊢
  have hP : va_P D classes [(h_t, .inr (8, [v_t_failures, v_t_ports, .int t_groundKind, .int t_words, .int t_allBits, v_t_memory, .ref h_t_scrambled, .ref h_t_wordAt, .ref h_t_zeroOf])), (h_t_zeroOf, .inl (cI, n_t_zeroOf, .inl t_zeroOf_a)), (h_t_scrambled, .inl (cI, n_t_scrambled, .inl t_scrambled_a)), (h_t_wordAt, .inl (cI, n_t_wordAt, .inl t_wordAt_a))] H := by rw [hH]; exact hP
  have hS : va_S A s.heap H locs := by rw [hH]; exact hS
  show W p l e rm_Tester_prepare s m _ below meth c s.heap locs 0 0 (MQ below (QW D (post_Tester_prepare h_t h_t_zeroOf h_t_wordAt h_t_scrambled v_t_failures v_t_ports v_t_memory n_t_zeroOf n_t_scrambled n_t_wordAt t_groundKind t_words t_allBits t_scrambled_a cI cB cJ res) A) _ s 0 0 A) (F0 m 0 ls [])
  refine wheap hH ?_
  clear hH hlo
  refine lv_iconst (v := 0) hx hb d_Tester_prepare_0 (by decide) ?_
  refine lv_istore_n (lv' := [(2, .int 0), (0, .ref h_t), (1, .int a1)]) hx hb d_Tester_prepare_1 rfl hl (by decide) rfl (fun ls hl => ?_)
  refine lv_iconst (v := 0) hx hb d_Tester_prepare_2 (by decide) ?_
  refine lv_istore_n (lv' := [(3, .int 0), (2, .int 0), (0, .ref h_t), (1, .int a1)]) hx hb d_Tester_prepare_3 rfl hl (by decide) rfl (fun ls hl => ?_)
  exact k_Tester_prepare_4 (s := s) C0 hA _ (t_zeroOf_a, t_wordAt_a, 0, 0) hf  H locs ls hP hD hS (lv_sub hl [2, 3, 1, 0] rfl)
def g_Memory_settle_2 (n_t_faults_victimWords : Nat) (n_t_faults_victimMasks : Nat) (n_t_faults_kinds : Nat) (n_t_held : Nat) (n_t_faults_otherWords : Nat) (n_t_faults_otherMasks : Nat) (t_faults_count : Int32) (t_faults_victimWords_a : Nat → Int32) (t_faults_victimMasks_a : Nat → Int32) (t_faults_kinds_a : Nat → Int32) (t_faults_otherWords_a : Nat → Int32) (t_faults_otherMasks_a : Nat → Int32) (rec2 : ((Nat → Int32) × Int32) → Option ((Nat → Int32))) (st : ((Nat → Int32) × Int32)) : Option ((Nat → Int32)) :=
  (if t_faults_count ≤ st.2 then
    some st.1
  else
    (if inB st.2 n_t_faults_victimWords = true then
    (if inB st.2 n_t_faults_victimMasks = true then
    (if inB st.2 n_t_faults_kinds = true then
    (if (t_faults_kinds_a (Int32.toNatClampNeg st.2)) = 0 then
      (if inB (t_faults_victimWords_a (Int32.toNatClampNeg st.2)) n_t_held = true then
      (if inB (t_faults_victimWords_a (Int32.toNatClampNeg st.2)) n_t_held = true then
      (rec2 ((upd st.1 (Int32.toNatClampNeg (t_faults_victimWords_a (Int32.toNatClampNeg st.2))) ((st.1 (Int32.toNatClampNeg (t_faults_victimWords_a (Int32.toNatClampNeg st.2)))) &&& ((t_faults_victimMasks_a (Int32.toNatClampNeg st.2)) ^^^ (-1)))), (st.2 + 1)))
      else none)
      else none)
    else
      (if (t_faults_kinds_a (Int32.toNatClampNeg st.2)) = 1 then
        (if inB (t_faults_victimWords_a (Int32.toNatClampNeg st.2)) n_t_held = true then
        (if inB (t_faults_victimWords_a (Int32.toNatClampNeg st.2)) n_t_held = true then
        (rec2 ((upd st.1 (Int32.toNatClampNeg (t_faults_victimWords_a (Int32.toNatClampNeg st.2))) ((st.1 (Int32.toNatClampNeg (t_faults_victimWords_a (Int32.toNatClampNeg st.2)))) ||| (t_faults_victimMasks_a (Int32.toNatClampNeg st.2)))), (st.2 + 1)))
        else none)
        else none)
      else
        (if (t_faults_kinds_a (Int32.toNatClampNeg st.2)) = 12 then
          (if inB st.2 n_t_faults_otherWords = true then
          (if inB (t_faults_otherWords_a (Int32.toNatClampNeg st.2)) n_t_held = true then
          (if inB st.2 n_t_faults_otherMasks = true then
          (if ((st.1 (Int32.toNatClampNeg (t_faults_otherWords_a (Int32.toNatClampNeg st.2)))) &&& (t_faults_otherMasks_a (Int32.toNatClampNeg st.2))) = 0 then
            (rec2 (st.1, (st.2 + 1)))
          else
            (if inB (t_faults_victimWords_a (Int32.toNatClampNeg st.2)) n_t_held = true then
            (if inB (t_faults_victimWords_a (Int32.toNatClampNeg st.2)) n_t_held = true then
            (rec2 ((upd st.1 (Int32.toNatClampNeg (t_faults_victimWords_a (Int32.toNatClampNeg st.2))) ((st.1 (Int32.toNatClampNeg (t_faults_victimWords_a (Int32.toNatClampNeg st.2)))) &&& ((t_faults_victimMasks_a (Int32.toNatClampNeg st.2)) ^^^ (-1)))), (st.2 + 1)))
            else none)
            else none))
          else none)
          else none)
          else none)
        else
          (rec2 (st.1, (st.2 + 1))))))
    else none)
    else none)
    else none))
def f_Memory_settle (n_t_faults_victimWords : Nat) (n_t_faults_victimMasks : Nat) (n_t_faults_kinds : Nat) (n_t_held : Nat) (n_t_faults_otherWords : Nat) (n_t_faults_otherMasks : Nat) (t_faults_count : Int32) (t_faults_victimWords_a : Nat → Int32) (t_faults_victimMasks_a : Nat → Int32) (t_faults_kinds_a : Nat → Int32) (t_held_a : Nat → Int32) (t_faults_otherWords_a : Nat → Int32) (t_faults_otherMasks_a : Nat → Int32) : Option ((Nat → Int32)) :=
  (lp (g_Memory_settle_2 n_t_faults_victimWords n_t_faults_victimMasks n_t_faults_kinds n_t_held n_t_faults_otherWords n_t_faults_otherMasks t_faults_count t_faults_victimWords_a t_faults_victimMasks_a t_faults_kinds_a t_faults_otherWords_a t_faults_otherMasks_a) 100000 (t_held_a, 0))
def post_Memory_settle (h_t h_t_faults h_t_faults_victimWords h_t_faults_victimMasks h_t_faults_kinds h_t_held h_t_faults_otherWords h_t_faults_otherMasks : Nat) (v_t_words v_t_bits v_t_latest v_t_faults_touchedWords v_t_faults_bits : Value) (n_t_faults_victimWords : Nat) (n_t_faults_victimMasks : Nat) (n_t_faults_kinds : Nat) (n_t_held : Nat) (n_t_faults_otherWords : Nat) (n_t_faults_otherMasks : Nat) (t_faults_count : Int32) (t_faults_victimWords_a : Nat → Int32) (t_faults_victimMasks_a : Nat → Int32) (t_faults_kinds_a : Nat → Int32) (t_faults_otherWords_a : Nat → Int32) (t_faults_otherMasks_a : Nat → Int32) (cI cB cJ : ClassId) (res : (Nat → Int32)) : Option Value → va_W → Prop := fun o ws' => o = none ∧ ws' = [(h_t, .inr (5, [v_t_words, v_t_bits, .ref h_t_held, .ref h_t_faults, v_t_latest])), (h_t_faults, .inr (3, [.ref h_t_faults_kinds, .ref h_t_faults_victimWords, .ref h_t_faults_victimMasks, .ref h_t_faults_otherWords, .ref h_t_faults_otherMasks, .int t_faults_count, v_t_faults_touchedWords, v_t_faults_bits])), (h_t_faults_victimWords, .inl (cI, n_t_faults_victimWords, .inl t_faults_victimWords_a)), (h_t_faults_victimMasks, .inl (cI, n_t_faults_victimMasks, .inl t_faults_victimMasks_a)), (h_t_faults_kinds, .inl (cI, n_t_faults_kinds, .inl t_faults_kinds_a)), (h_t_held, .inl (cI, n_t_held, .inl res)), (h_t_faults_otherWords, .inl (cI, n_t_faults_otherWords, .inl t_faults_otherWords_a)), (h_t_faults_otherMasks, .inl (cI, n_t_faults_otherMasks, .inl t_faults_otherMasks_a))]
abbrev rm_Memory_settle : Room := { frames := 0, cells := 0, slots := 0, locals := 0 }
set_option maxHeartbeats 4000000 in
set_option maxRecDepth 100000 in
theorem kb_Memory_settle_2 {p : Program} {l : Launch} {e : Env} {s : State} {m : MethodId} {args : Array Value} {below : List Frame} {meth : Method} {c : Code} {D : va_G} {cI cB cJ : ClassId} {A : Nat → Prop} (C0 : CX p s m args meth c D [(cI, .int), (cB, .byte), (cJ, .long)] R_Memory b_Memory_settle 4 none "settle") (hA : ∀ q, s.heap.size ≤ q → A q) {h_t h_t_faults h_t_faults_victimWords h_t_faults_victimMasks h_t_faults_kinds h_t_held h_t_faults_otherWords h_t_faults_otherMasks : Nat} {v_t_words v_t_bits v_t_latest v_t_faults_touchedWords v_t_faults_bits : Value} {res : (Nat → Int32)} {rec2 : ((Nat → Int32) × Int32) → Option ((Nat → Int32))} {n_t_faults_victimWords : Nat} {n_t_faults_victimMasks : Nat} {n_t_faults_kinds : Nat} {n_t_held : Nat} {n_t_faults_otherWords : Nat} {n_t_faults_otherMasks : Nat} {t_faults_count : Int32} {t_faults_victimWords_a : Nat → Int32} {t_faults_victimMasks_a : Nat → Int32} {t_faults_kinds_a : Nat → Int32} {t_held_a : Nat → Int32} {t_faults_otherWords_a : Nat → Int32} {t_faults_otherMasks_a : Nat → Int32} {x1 : Int32}
    (hrec2 : ∀ (st : ((Nat → Int32) × Int32)), rec2 st = some res → ∀  (H : Heap) (locs : List Loc) (ls : Array Slot), va_P D classes [(h_t, .inr (5, [v_t_words, v_t_bits, .ref h_t_held, .ref h_t_faults, v_t_latest])), (h_t_faults, .inr (3, [.ref h_t_faults_kinds, .ref h_t_faults_victimWords, .ref h_t_faults_victimMasks, .ref h_t_faults_otherWords, .ref h_t_faults_otherMasks, .int t_faults_count, v_t_faults_touchedWords, v_t_faults_bits])), (h_t_faults_victimWords, .inl (cI, n_t_faults_victimWords, .inl t_faults_victimWords_a)), (h_t_faults_victimMasks, .inl (cI, n_t_faults_victimMasks, .inl t_faults_victimMasks_a)), (h_t_faults_kinds, .inl (cI, n_t_faults_kinds, .inl t_faults_kinds_a)), (h_t_held, .inl (cI, n_t_held, .inl st.1)), (h_t_faults_otherWords, .inl (cI, n_t_faults_otherWords, .inl t_faults_otherWords_a)), (h_t_faults_otherMasks, .inl (cI, n_t_faults_otherMasks, .inl t_faults_otherMasks_a))] H → va_D A [(h_t, .inr (5, [v_t_words, v_t_bits, .ref h_t_held, .ref h_t_faults, v_t_latest])), (h_t_faults, .inr (3, [.ref h_t_faults_kinds, .ref h_t_faults_victimWords, .ref h_t_faults_victimMasks, .ref h_t_faults_otherWords, .ref h_t_faults_otherMasks, .int t_faults_count, v_t_faults_touchedWords, v_t_faults_bits])), (h_t_faults_victimWords, .inl (cI, n_t_faults_victimWords, .inl t_faults_victimWords_a)), (h_t_faults_victimMasks, .inl (cI, n_t_faults_victimMasks, .inl t_faults_victimMasks_a)), (h_t_faults_kinds, .inl (cI, n_t_faults_kinds, .inl t_faults_kinds_a)), (h_t_held, .inl (cI, n_t_held, .inl st.1)), (h_t_faults_otherWords, .inl (cI, n_t_faults_otherWords, .inl t_faults_otherWords_a)), (h_t_faults_otherMasks, .inl (cI, n_t_faults_otherMasks, .inl t_faults_otherMasks_a))] → va_S A s.heap H locs → lv_has ls 4 [(0, .ref h_t), (1, .int st.2)] → W p l e rm_Memory_settle s m args below meth c H locs 0 0 (MQ below (QW D (post_Memory_settle h_t h_t_faults h_t_faults_victimWords h_t_faults_victimMasks h_t_faults_kinds h_t_held h_t_faults_otherWords h_t_faults_otherMasks v_t_words v_t_bits v_t_latest v_t_faults_touchedWords v_t_faults_bits n_t_faults_victimWords n_t_faults_victimMasks n_t_faults_kinds n_t_held n_t_faults_otherWords n_t_faults_otherMasks t_faults_count t_faults_victimWords_a t_faults_victimMasks_a t_faults_kinds_a t_faults_otherWords_a t_faults_otherMasks_a cI cB cJ res) A) args s 0 0 A) (F0 m 2 ls []))
    (hf : g_Memory_settle_2 n_t_faults_victimWords n_t_faults_victimMasks n_t_faults_kinds n_t_held n_t_faults_otherWords n_t_faults_otherMasks t_faults_count t_faults_victimWords_a t_faults_victimMasks_a t_faults_kinds_a t_faults_otherWords_a t_faults_otherMasks_a rec2 (t_held_a, x1) = some res) {H : Heap} {locs : List Loc} {ls : Array Slot} (hP : va_P D classes [(h_t, .inr (5, [v_t_words, v_t_bits, .ref h_t_held, .ref h_t_faults, v_t_latest])), (h_t_faults, .inr (3, [.ref h_t_faults_kinds, .ref h_t_faults_victimWords, .ref h_t_faults_victimMasks, .ref h_t_faults_otherWords, .ref h_t_faults_otherMasks, .int t_faults_count, v_t_faults_touchedWords, v_t_faults_bits])), (h_t_faults_victimWords, .inl (cI, n_t_faults_victimWords, .inl t_faults_victimWords_a)), (h_t_faults_victimMasks, .inl (cI, n_t_faults_victimMasks, .inl t_faults_victimMasks_a)), (h_t_faults_kinds, .inl (cI, n_t_faults_kinds, .inl t_faults_kinds_a)), (h_t_held, .inl (cI, n_t_held, .inl t_held_a)), (h_t_faults_otherWords, .inl (cI, n_t_faults_otherWords, .inl t_faults_otherWords_a)), (h_t_faults_otherMasks, .inl (cI, n_t_faults_otherMasks, .inl t_faults_otherMasks_a))] H) (hD : va_D A [(h_t, .inr (5, [v_t_words, v_t_bits, .ref h_t_held, .ref h_t_faults, v_t_latest])), (h_t_faults, .inr (3, [.ref h_t_faults_kinds, .ref h_t_faults_victimWords, .ref h_t_faults_victimMasks, .ref h_t_faults_otherWords, .ref h_t_faults_otherMasks, .int t_faults_count, v_t_faults_touchedWords, v_t_faults_bits])), (h_t_faults_victimWords, .inl (cI, n_t_faults_victimWords, .inl t_faults_victimWords_a)), (h_t_faults_victimMasks, .inl (cI, n_t_faults_victimMasks, .inl t_faults_victimMasks_a)), (h_t_faults_kinds, .inl (cI, n_t_faults_kinds, .inl t_faults_kinds_a)), (h_t_held, .inl (cI, n_t_held, .inl t_held_a)), (h_t_faults_otherWords, .inl (cI, n_t_faults_otherWords, .inl t_faults_otherWords_a)), (h_t_faults_otherMasks, .inl (cI, n_t_faults_otherMasks, .inl t_faults_otherMasks_a))]) (hS : va_S A s.heap H locs) (hl : lv_has ls 4 [(0, .ref h_t), (1, .int x1)]) : W p l e rm_Memory_settle s m args below meth c H locs 0 0 (MQ below (QW D (post_Memory_settle h_t h_t_faults h_t_faults_victimWords h_t_faults_victimMasks h_t_faults_kinds h_t_held h_t_faults_otherWords h_t_faults_otherMasks v_t_words v_t_bits v_t_latest v_t_faults_touchedWords v_t_faults_bits n_t_faults_victimWords n_t_faults_victimMasks n_t_faults_kinds n_t_held n_t_faults_otherWords n_t_faults_otherMasks t_faults_count t_faults_victimWords_a t_faults_victimMasks_a t_faults_kinds_a t_faults_otherWords_a t_faults_otherMasks_a cI cB cJ res) A) args s 0 0 A) (F0 m 2 ls []) := by
  obtain ⟨hx, hb, hml, hr, hlocks, hts, hown, hK, hin⟩ := id C0
  have hf : (((
  (if t_faults_count ≤ x1 then
    some t_held_a
  else
    (if inB x1 n_t_faults_victimWords = true then
    (if inB x1 n_t_faults_victimMasks = true then
    (if inB x1 n_t_faults_kinds = true then
    (if (t_faults_kinds_a (Int32.toNatClampNeg x1)) = 0 then
      (if inB (t_faults_victimWords_a (Int32.toNatClampNeg x1)) n_t_held = true then
      (if inB (t_faults_victimWords_a (Int32.toNatClampNeg x1)) n_t_held = true then
      (rec2 ((upd t_held_a (Int32.toNatClampNeg (t_faults_victimWords_a (Int32.toNatClampNeg x1))) ((t_held_a (Int32.toNatClampNeg (t_faults_victimWords_a (Int32.toNatClampNeg x1)))) &&& ((t_faults_victimMasks_a (Int32.toNatClampNeg x1)) ^^^ (-1)))), (x1 + 1)))
      else none)
      else none)
    else
      (if (t_faults_kinds_a (Int32.toNatClampNeg x1)) = 1 then
        (if inB (t_faults_victimWords_a (Int32.toNatClampNeg x1)) n_t_held = true then
        (if inB (t_faults_victimWords_a (Int32.toNatClampNeg x1)) n_t_held = true then
        (rec2 ((upd t_held_a (Int32.toNatClampNeg (t_faults_victimWords_a (Int32.toNatClampNeg x1))) ((t_held_a (Int32.toNatClampNeg (t_faults_victimWords_a (Int32.toNatClampNeg x1)))) ||| (t_faults_victimMasks_a (Int32.toNatClampNeg x1)))), (x1 + 1)))
        else none)
        else none)
      else
        (if (t_faults_kinds_a (Int32.toNatClampNeg x1)) = 12 then
          (if inB x1 n_t_faults_otherWords = true then
          (if inB (t_faults_otherWords_a (Int32.toNatClampNeg x1)) n_t_held = true then
          (if inB x1 n_t_faults_otherMasks = true then
          (if ((t_held_a (Int32.toNatClampNeg (t_faults_otherWords_a (Int32.toNatClampNeg x1)))) &&& (t_faults_otherMasks_a (Int32.toNatClampNeg x1))) = 0 then
            (rec2 (t_held_a, (x1 + 1)))
          else
            (if inB (t_faults_victimWords_a (Int32.toNatClampNeg x1)) n_t_held = true then
            (if inB (t_faults_victimWords_a (Int32.toNatClampNeg x1)) n_t_held = true then
            (rec2 ((upd t_held_a (Int32.toNatClampNeg (t_faults_victimWords_a (Int32.toNatClampNeg x1))) ((t_held_a (Int32.toNatClampNeg (t_faults_victimWords_a (Int32.toNatClampNeg x1)))) &&& ((t_faults_victimMasks_a (Int32.toNatClampNeg x1)) ^^^ (-1)))), (x1 + 1)))
            else none)
            else none))
          else none)
          else none)
          else none)
        else
          (rec2 (t_held_a, (x1 + 1))))))
    else none)
    else none)
    else none)))) : Option ((Nat → Int32))) = some res := hf
  refine lv_iload_n hx hb d_Memory_settle_2 rfl (lv_at hl 1 rfl) ?_
  refine lv_aload_n hx hb d_Memory_settle_3 rfl (lv_at hl 0 rfl) ?_
  refine va_get (D := D) (ci := 5) (v := .ref h_t_faults) (C := R_Memory) (T := F_Memory) (N := 5) hx hb hts i_Memory hown hK.1 hP 0 rfl rfl 3 (by decide) (hts _ w_32) (fun _ h9 => h9) rfl d_Memory_settle_4 ?_
  refine va_get (D := D) (ci := 3) (v := .int t_faults_count) (C := R_FaultList) (T := F_FaultList) (N := 8) hx hb hts i_FaultList hown hK.1 hP 1 rfl rfl 5 (by decide) (hts _ w_215) (fun _ h9 => h9) rfl d_Memory_settle_7 ?_
  refine lv_icmp_ge (tgt := 152) hx hb d_Memory_settle_10 (by decide) (fun cc10 => ?_) (fun cc10 => ?_)
  · have hf := ifT cc10 hf
    obtain rfl := Option.some.inj hf
    exact ret_v hx hb hr hlocks hP hD hS ⟨rfl, rfl⟩ d_Memory_settle_152
  · have hf := ifF cc10 hf
    refine lv_aload_n hx hb d_Memory_settle_13 rfl (lv_at hl 0 rfl) ?_
    refine va_get (D := D) (ci := 5) (v := .ref h_t_faults) (C := R_Memory) (T := F_Memory) (N := 5) hx hb hts i_Memory hown hK.1 hP 0 rfl rfl 3 (by decide) (hts _ w_32) (fun _ h9 => h9) rfl d_Memory_settle_14 ?_
    refine va_get (D := D) (ci := 3) (v := .ref h_t_faults_victimWords) (C := R_FaultList) (T := F_FaultList) (N := 8) hx hb hts i_FaultList hown hK.1 hP 1 rfl rfl 1 (by decide) (hts _ w_216) (fun _ h9 => h9) rfl d_Memory_settle_17 ?_
    refine lv_iload_n hx hb d_Memory_settle_20 rfl (lv_at hl 1 rfl) ?_
    obtain ⟨hin1, hf⟩ := ifG hf
    refine va_iald hx hb hK.1 hP 2 0 rfl rfl (inB_in hin1) d_Memory_settle_21 ?_
    refine lv_istore_n (lv' := [(2, .int (t_faults_victimWords_a (Int32.toNatClampNeg x1))), (0, .ref h_t), (1, .int x1)]) hx hb d_Memory_settle_22 rfl hl (by decide) rfl (fun ls hl => ?_)
    refine lv_aload_n hx hb d_Memory_settle_23 rfl (lv_at hl 1 rfl) ?_
    refine va_get (D := D) (ci := 5) (v := .ref h_t_faults) (C := R_Memory) (T := F_Memory) (N := 5) hx hb hts i_Memory hown hK.1 hP 0 rfl rfl 3 (by decide) (hts _ w_32) (fun _ h9 => h9) rfl d_Memory_settle_24 ?_
    refine va_get (D := D) (ci := 3) (v := .ref h_t_faults_victimMasks) (C := R_FaultList) (T := F_FaultList) (N := 8) hx hb hts i_FaultList hown hK.1 hP 1 rfl rfl 2 (by decide) (hts _ w_217) (fun _ h9 => h9) rfl d_Memory_settle_27 ?_
    refine lv_iload_n hx hb d_Memory_settle_30 rfl (lv_at hl 2 rfl) ?_
    obtain ⟨hin1, hf⟩ := ifG hf
    refine va_iald hx hb hK.1 hP 3 0 rfl rfl (inB_in hin1) d_Memory_settle_31 ?_
    refine lv_istore_n (lv' := [(3, .int (t_faults_victimMasks_a (Int32.toNatClampNeg x1))), (2, .int (t_faults_victimWords_a (Int32.toNatClampNeg x1))), (0, .ref h_t), (1, .int x1)]) hx hb d_Memory_settle_32 rfl hl (by decide) rfl (fun ls hl => ?_)
    refine lv_aload_n hx hb d_Memory_settle_33 rfl (lv_at hl 2 rfl) ?_
    refine va_get (D := D) (ci := 5) (v := .ref h_t_faults) (C := R_Memory) (T := F_Memory) (N := 5) hx hb hts i_Memory hown hK.1 hP 0 rfl rfl 3 (by decide) (hts _ w_32) (fun _ h9 => h9) rfl d_Memory_settle_34 ?_
    refine va_get (D := D) (ci := 3) (v := .ref h_t_faults_kinds) (C := R_FaultList) (T := F_FaultList) (N := 8) hx hb hts i_FaultList hown hK.1 hP 1 rfl rfl 0 (by decide) (hts _ w_218) (fun _ h9 => h9) rfl d_Memory_settle_37 ?_
    refine lv_iload_n hx hb d_Memory_settle_40 rfl (lv_at hl 3 rfl) ?_
    obtain ⟨hin1, hf⟩ := ifG hf
    refine va_iald hx hb hK.1 hP 4 0 rfl rfl (inB_in hin1) d_Memory_settle_41 ?_
    by_cases cs : (t_faults_kinds_a (Int32.toNatClampNeg x1)) = 0
    · have hf := ifT cs hf
      refine lv_lookup (off := 34) (tgt := 76) hx hb d_Memory_settle_42 (by decide) (by rw [cs] <;> rfl) (by decide) ?_
      refine lv_aload_n hx hb d_Memory_settle_76 rfl (lv_at hl 2 rfl) ?_
      refine va_get (D := D) (ci := 5) (v := .ref h_t_held) (C := R_Memory) (T := F_Memory) (N := 5) hx hb hts i_Memory hown hK.1 hP 0 rfl rfl 2 (by decide) (hts _ w_25) (fun _ h9 => h9) rfl d_Memory_settle_77 ?_
      refine lv_iload_n hx hb d_Memory_settle_80 rfl (lv_at hl 1 rfl) ?_
      refine lv_dup2_11 hx hb d_Memory_settle_81 rfl rfl ?_
      obtain ⟨hin1, hf⟩ := ifG hf
      refine va_iald hx hb hK.1 hP 5 0 rfl rfl (inB_in hin1) d_Memory_settle_82 ?_
      refine lv_iload_n hx hb d_Memory_settle_83 rfl (lv_at hl 0 rfl) ?_
      refine lv_iconst (v := (-1)) hx hb d_Memory_settle_84 (by decide) ?_
      refine lv_ixor hx hb d_Memory_settle_85 ?_
      refine lv_iand hx hb d_Memory_settle_86 ?_
      obtain ⟨hin1, hf⟩ := ifG hf
      refine va_iast hx hb hK.1 hP hD hS 5 0 rfl rfl (inB_in hin1) d_Memory_settle_87 (fun H locs hP hD hS => ?_)
      have hP : va_P D classes [(h_t, .inr (5, [v_t_words, v_t_bits, .ref h_t_held, .ref h_t_faults, v_t_latest])), (h_t_faults, .inr (3, [.ref h_t_faults_kinds, .ref h_t_faults_victimWords, .ref h_t_faults_victimMasks, .ref h_t_faults_otherWords, .ref h_t_faults_otherMasks, .int t_faults_count, v_t_faults_touchedWords, v_t_faults_bits])), (h_t_faults_victimWords, .inl (cI, n_t_faults_victimWords, .inl t_faults_victimWords_a)), (h_t_faults_victimMasks, .inl (cI, n_t_faults_victimMasks, .inl t_faults_victimMasks_a)), (h_t_faults_kinds, .inl (cI, n_t_faults_kinds, .inl t_faults_kinds_a)), (h_t_held, .inl (cI, n_t_held, .inl (upd t_held_a (Int32.toNatClampNeg (t_faults_victimWords_a (Int32.toNatClampNeg x1))) ((t_held_a (Int32.toNatClampNeg (t_faults_victimWords_a (Int32.toNatClampNeg x1)))) &&& ((t_faults_victimMasks_a (Int32.toNatClampNeg x1)) ^^^ (-1)))))), (h_t_faults_otherWords, .inl (cI, n_t_faults_otherWords, .inl t_faults_otherWords_a)), (h_t_faults_otherMasks, .inl (cI, n_t_faults_otherMasks, .inl t_faults_otherMasks_a))] H := hP
      have hD : va_D A [(h_t, .inr (5, [v_t_words, v_t_bits, .ref h_t_held, .ref h_t_faults, v_t_latest])), (h_t_faults, .inr (3, [.ref h_t_faults_kinds, .ref h_t_faults_victimWords, .ref h_t_faults_victimMasks, .ref h_t_faults_otherWords, .ref h_t_faults_otherMasks, .int t_faults_count, v_t_faults_touchedWords, v_t_faults_bits])), (h_t_faults_victimWords, .inl (cI, n_t_faults_victimWords, .inl t_faults_victimWords_a)), (h_t_faults_victimMasks, .inl (cI, n_t_faults_victimMasks, .inl t_faults_victimMasks_a)), (h_t_faults_kinds, .inl (cI, n_t_faults_kinds, .inl t_faults_kinds_a)), (h_t_held, .inl (cI, n_t_held, .inl (upd t_held_a (Int32.toNatClampNeg (t_faults_victimWords_a (Int32.toNatClampNeg x1))) ((t_held_a (Int32.toNatClampNeg (t_faults_victimWords_a (Int32.toNatClampNeg x1)))) &&& ((t_faults_victimMasks_a (Int32.toNatClampNeg x1)) ^^^ (-1)))))), (h_t_faults_otherWords, .inl (cI, n_t_faults_otherWords, .inl t_faults_otherWords_a)), (h_t_faults_otherMasks, .inl (cI, n_t_faults_otherMasks, .inl t_faults_otherMasks_a))] := hD
      refine lv_goto (tgt := 146) hx hb d_Memory_settle_88 (by decide) ?_
      refine lv_iinc (v := (x1 + 1)) (lv' := [(1, .int (x1 + 1)), (3, .int (t_faults_victimMasks_a (Int32.toNatClampNeg x1))), (2, .int (t_faults_victimWords_a (Int32.toNatClampNeg x1))), (0, .ref h_t)]) hx hb d_Memory_settle_146 hl (k := 3) rfl rfl (by decide) rfl (fun ls hl => ?_)
      refine lv_goto (tgt := 2) hx hb d_Memory_settle_149 (by decide) ?_
      exact hrec2 ((upd t_held_a (Int32.toNatClampNeg (t_faults_victimWords_a (Int32.toNatClampNeg x1))) ((t_held_a (Int32.toNatClampNeg (t_faults_victimWords_a (Int32.toNatClampNeg x1)))) &&& ((t_faults_victimMasks_a (Int32.toNatClampNeg x1)) ^^^ (-1)))), (x1 + 1)) hf  H locs ls hP hD hS (lv_sub hl [3, 0] rfl)
    · have hf := ifF cs hf
      have cs0 := cs
      by_cases cs : (t_faults_kinds_a (Int32.toNatClampNeg x1)) = 1
      · have hf := ifT cs hf
        refine lv_lookup (off := 49) (tgt := 91) hx hb d_Memory_settle_42 (by decide) (by rw [cs] <;> rfl) (by decide) ?_
        refine lv_aload_n hx hb d_Memory_settle_91 rfl (lv_at hl 2 rfl) ?_
        refine va_get (D := D) (ci := 5) (v := .ref h_t_held) (C := R_Memory) (T := F_Memory) (N := 5) hx hb hts i_Memory hown hK.1 hP 0 rfl rfl 2 (by decide) (hts _ w_25) (fun _ h9 => h9) rfl d_Memory_settle_92 ?_
        refine lv_iload_n hx hb d_Memory_settle_95 rfl (lv_at hl 1 rfl) ?_
        refine lv_dup2_11 hx hb d_Memory_settle_96 rfl rfl ?_
        obtain ⟨hin1, hf⟩ := ifG hf
        refine va_iald hx hb hK.1 hP 5 0 rfl rfl (inB_in hin1) d_Memory_settle_97 ?_
        refine lv_iload_n hx hb d_Memory_settle_98 rfl (lv_at hl 0 rfl) ?_
        refine lv_ior hx hb d_Memory_settle_99 ?_
        obtain ⟨hin1, hf⟩ := ifG hf
        refine va_iast hx hb hK.1 hP hD hS 5 0 rfl rfl (inB_in hin1) d_Memory_settle_100 (fun H locs hP hD hS => ?_)
        have hP : va_P D classes [(h_t, .inr (5, [v_t_words, v_t_bits, .ref h_t_held, .ref h_t_faults, v_t_latest])), (h_t_faults, .inr (3, [.ref h_t_faults_kinds, .ref h_t_faults_victimWords, .ref h_t_faults_victimMasks, .ref h_t_faults_otherWords, .ref h_t_faults_otherMasks, .int t_faults_count, v_t_faults_touchedWords, v_t_faults_bits])), (h_t_faults_victimWords, .inl (cI, n_t_faults_victimWords, .inl t_faults_victimWords_a)), (h_t_faults_victimMasks, .inl (cI, n_t_faults_victimMasks, .inl t_faults_victimMasks_a)), (h_t_faults_kinds, .inl (cI, n_t_faults_kinds, .inl t_faults_kinds_a)), (h_t_held, .inl (cI, n_t_held, .inl (upd t_held_a (Int32.toNatClampNeg (t_faults_victimWords_a (Int32.toNatClampNeg x1))) ((t_held_a (Int32.toNatClampNeg (t_faults_victimWords_a (Int32.toNatClampNeg x1)))) ||| (t_faults_victimMasks_a (Int32.toNatClampNeg x1)))))), (h_t_faults_otherWords, .inl (cI, n_t_faults_otherWords, .inl t_faults_otherWords_a)), (h_t_faults_otherMasks, .inl (cI, n_t_faults_otherMasks, .inl t_faults_otherMasks_a))] H := hP
        have hD : va_D A [(h_t, .inr (5, [v_t_words, v_t_bits, .ref h_t_held, .ref h_t_faults, v_t_latest])), (h_t_faults, .inr (3, [.ref h_t_faults_kinds, .ref h_t_faults_victimWords, .ref h_t_faults_victimMasks, .ref h_t_faults_otherWords, .ref h_t_faults_otherMasks, .int t_faults_count, v_t_faults_touchedWords, v_t_faults_bits])), (h_t_faults_victimWords, .inl (cI, n_t_faults_victimWords, .inl t_faults_victimWords_a)), (h_t_faults_victimMasks, .inl (cI, n_t_faults_victimMasks, .inl t_faults_victimMasks_a)), (h_t_faults_kinds, .inl (cI, n_t_faults_kinds, .inl t_faults_kinds_a)), (h_t_held, .inl (cI, n_t_held, .inl (upd t_held_a (Int32.toNatClampNeg (t_faults_victimWords_a (Int32.toNatClampNeg x1))) ((t_held_a (Int32.toNatClampNeg (t_faults_victimWords_a (Int32.toNatClampNeg x1)))) ||| (t_faults_victimMasks_a (Int32.toNatClampNeg x1)))))), (h_t_faults_otherWords, .inl (cI, n_t_faults_otherWords, .inl t_faults_otherWords_a)), (h_t_faults_otherMasks, .inl (cI, n_t_faults_otherMasks, .inl t_faults_otherMasks_a))] := hD
        refine lv_goto (tgt := 146) hx hb d_Memory_settle_101 (by decide) ?_
        refine lv_iinc (v := (x1 + 1)) (lv' := [(1, .int (x1 + 1)), (3, .int (t_faults_victimMasks_a (Int32.toNatClampNeg x1))), (2, .int (t_faults_victimWords_a (Int32.toNatClampNeg x1))), (0, .ref h_t)]) hx hb d_Memory_settle_146 hl (k := 3) rfl rfl (by decide) rfl (fun ls hl => ?_)
        refine lv_goto (tgt := 2) hx hb d_Memory_settle_149 (by decide) ?_
        exact hrec2 ((upd t_held_a (Int32.toNatClampNeg (t_faults_victimWords_a (Int32.toNatClampNeg x1))) ((t_held_a (Int32.toNatClampNeg (t_faults_victimWords_a (Int32.toNatClampNeg x1)))) ||| (t_faults_victimMasks_a (Int32.toNatClampNeg x1)))), (x1 + 1)) hf  H locs ls hP hD hS (lv_sub hl [3, 0] rfl)
      · have hf := ifF cs hf
        have cs1 := cs
        by_cases cs : (t_faults_kinds_a (Int32.toNatClampNeg x1)) = 12
        · have hf := ifT cs hf
          refine lv_lookup (off := 62) (tgt := 104) hx hb d_Memory_settle_42 (by decide) (by rw [cs] <;> rfl) (by decide) ?_
          refine lv_aload_n hx hb d_Memory_settle_104 rfl (lv_at hl 2 rfl) ?_
          refine va_get (D := D) (ci := 5) (v := .ref h_t_held) (C := R_Memory) (T := F_Memory) (N := 5) hx hb hts i_Memory hown hK.1 hP 0 rfl rfl 2 (by decide) (hts _ w_25) (fun _ h9 => h9) rfl d_Memory_settle_105 ?_
          refine lv_aload_n hx hb d_Memory_settle_108 rfl (lv_at hl 2 rfl) ?_
          refine va_get (D := D) (ci := 5) (v := .ref h_t_faults) (C := R_Memory) (T := F_Memory) (N := 5) hx hb hts i_Memory hown hK.1 hP 0 rfl rfl 3 (by decide) (hts _ w_32) (fun _ h9 => h9) rfl d_Memory_settle_109 ?_
          refine va_get (D := D) (ci := 3) (v := .ref h_t_faults_otherWords) (C := R_FaultList) (T := F_FaultList) (N := 8) hx hb hts i_FaultList hown hK.1 hP 1 rfl rfl 3 (by decide) (hts _ w_219) (fun _ h9 => h9) rfl d_Memory_settle_112 ?_
          refine lv_iload_n hx hb d_Memory_settle_115 rfl (lv_at hl 3 rfl) ?_
          obtain ⟨hin1, hf⟩ := ifG hf
          refine va_iald hx hb hK.1 hP 6 0 rfl rfl (inB_in hin1) d_Memory_settle_116 ?_
          obtain ⟨hin1, hf⟩ := ifG hf
          refine va_iald hx hb hK.1 hP 5 0 rfl rfl (inB_in hin1) d_Memory_settle_117 ?_
          refine lv_aload_n hx hb d_Memory_settle_118 rfl (lv_at hl 2 rfl) ?_
          refine va_get (D := D) (ci := 5) (v := .ref h_t_faults) (C := R_Memory) (T := F_Memory) (N := 5) hx hb hts i_Memory hown hK.1 hP 0 rfl rfl 3 (by decide) (hts _ w_32) (fun _ h9 => h9) rfl d_Memory_settle_119 ?_
          refine va_get (D := D) (ci := 3) (v := .ref h_t_faults_otherMasks) (C := R_FaultList) (T := F_FaultList) (N := 8) hx hb hts i_FaultList hown hK.1 hP 1 rfl rfl 4 (by decide) (hts _ w_220) (fun _ h9 => h9) rfl d_Memory_settle_122 ?_
          refine lv_iload_n hx hb d_Memory_settle_125 rfl (lv_at hl 3 rfl) ?_
          obtain ⟨hin1, hf⟩ := ifG hf
          refine va_iald hx hb hK.1 hP 7 0 rfl rfl (inB_in hin1) d_Memory_settle_126 ?_
          refine lv_iand hx hb d_Memory_settle_127 ?_
          refine lv_if_eq (tgt := 146) hx hb d_Memory_settle_128 (by decide) (fun cc128 => ?_) (fun cc128 => ?_)
          · have hf := ifT cc128 hf
            refine lv_iinc (v := (x1 + 1)) (lv' := [(1, .int (x1 + 1)), (3, .int (t_faults_victimMasks_a (Int32.toNatClampNeg x1))), (2, .int (t_faults_victimWords_a (Int32.toNatClampNeg x1))), (0, .ref h_t)]) hx hb d_Memory_settle_146 hl (k := 3) rfl rfl (by decide) rfl (fun ls hl => ?_)
            refine lv_goto (tgt := 2) hx hb d_Memory_settle_149 (by decide) ?_
            exact hrec2 (t_held_a, (x1 + 1)) hf  H locs ls hP hD hS (lv_sub hl [3, 0] rfl)
          · have hf := ifF cc128 hf
            refine lv_aload_n hx hb d_Memory_settle_131 rfl (lv_at hl 2 rfl) ?_
            refine va_get (D := D) (ci := 5) (v := .ref h_t_held) (C := R_Memory) (T := F_Memory) (N := 5) hx hb hts i_Memory hown hK.1 hP 0 rfl rfl 2 (by decide) (hts _ w_25) (fun _ h9 => h9) rfl d_Memory_settle_132 ?_
            refine lv_iload_n hx hb d_Memory_settle_135 rfl (lv_at hl 1 rfl) ?_
            refine lv_dup2_11 hx hb d_Memory_settle_136 rfl rfl ?_
            obtain ⟨hin1, hf⟩ := ifG hf
            refine va_iald hx hb hK.1 hP 5 0 rfl rfl (inB_in hin1) d_Memory_settle_137 ?_
            refine lv_iload_n hx hb d_Memory_settle_138 rfl (lv_at hl 0 rfl) ?_
            refine lv_iconst (v := (-1)) hx hb d_Memory_settle_139 (by decide) ?_
            refine lv_ixor hx hb d_Memory_settle_140 ?_
            refine lv_iand hx hb d_Memory_settle_141 ?_
            obtain ⟨hin1, hf⟩ := ifG hf
            refine va_iast hx hb hK.1 hP hD hS 5 0 rfl rfl (inB_in hin1) d_Memory_settle_142 (fun H locs hP hD hS => ?_)
            have hP : va_P D classes [(h_t, .inr (5, [v_t_words, v_t_bits, .ref h_t_held, .ref h_t_faults, v_t_latest])), (h_t_faults, .inr (3, [.ref h_t_faults_kinds, .ref h_t_faults_victimWords, .ref h_t_faults_victimMasks, .ref h_t_faults_otherWords, .ref h_t_faults_otherMasks, .int t_faults_count, v_t_faults_touchedWords, v_t_faults_bits])), (h_t_faults_victimWords, .inl (cI, n_t_faults_victimWords, .inl t_faults_victimWords_a)), (h_t_faults_victimMasks, .inl (cI, n_t_faults_victimMasks, .inl t_faults_victimMasks_a)), (h_t_faults_kinds, .inl (cI, n_t_faults_kinds, .inl t_faults_kinds_a)), (h_t_held, .inl (cI, n_t_held, .inl (upd t_held_a (Int32.toNatClampNeg (t_faults_victimWords_a (Int32.toNatClampNeg x1))) ((t_held_a (Int32.toNatClampNeg (t_faults_victimWords_a (Int32.toNatClampNeg x1)))) &&& ((t_faults_victimMasks_a (Int32.toNatClampNeg x1)) ^^^ (-1)))))), (h_t_faults_otherWords, .inl (cI, n_t_faults_otherWords, .inl t_faults_otherWords_a)), (h_t_faults_otherMasks, .inl (cI, n_t_faults_otherMasks, .inl t_faults_otherMasks_a))] H := hP
            have hD : va_D A [(h_t, .inr (5, [v_t_words, v_t_bits, .ref h_t_held, .ref h_t_faults, v_t_latest])), (h_t_faults, .inr (3, [.ref h_t_faults_kinds, .ref h_t_faults_victimWords, .ref h_t_faults_victimMasks, .ref h_t_faults_otherWords, .ref h_t_faults_otherMasks, .int t_faults_count, v_t_faults_touchedWords, v_t_faults_bits])), (h_t_faults_victimWords, .inl (cI, n_t_faults_victimWords, .inl t_faults_victimWords_a)), (h_t_faults_victimMasks, .inl (cI, n_t_faults_victimMasks, .inl t_faults_victimMasks_a)), (h_t_faults_kinds, .inl (cI, n_t_faults_kinds, .inl t_faults_kinds_a)), (h_t_held, .inl (cI, n_t_held, .inl (upd t_held_a (Int32.toNatClampNeg (t_faults_victimWords_a (Int32.toNatClampNeg x1))) ((t_held_a (Int32.toNatClampNeg (t_faults_victimWords_a (Int32.toNatClampNeg x1)))) &&& ((t_faults_victimMasks_a (Int32.toNatClampNeg x1)) ^^^ (-1)))))), (h_t_faults_otherWords, .inl (cI, n_t_faults_otherWords, .inl t_faults_otherWords_a)), (h_t_faults_otherMasks, .inl (cI, n_t_faults_otherMasks, .inl t_faults_otherMasks_a))] := hD
            refine lv_goto (tgt := 146) hx hb d_Memory_settle_143 (by decide) ?_
            refine lv_iinc (v := (x1 + 1)) (lv' := [(1, .int (x1 + 1)), (3, .int (t_faults_victimMasks_a (Int32.toNatClampNeg x1))), (2, .int (t_faults_victimWords_a (Int32.toNatClampNeg x1))), (0, .ref h_t)]) hx hb d_Memory_settle_146 hl (k := 3) rfl rfl (by decide) rfl (fun ls hl => ?_)
            refine lv_goto (tgt := 2) hx hb d_Memory_settle_149 (by decide) ?_
            exact hrec2 ((upd t_held_a (Int32.toNatClampNeg (t_faults_victimWords_a (Int32.toNatClampNeg x1))) ((t_held_a (Int32.toNatClampNeg (t_faults_victimWords_a (Int32.toNatClampNeg x1)))) &&& ((t_faults_victimMasks_a (Int32.toNatClampNeg x1)) ^^^ (-1)))), (x1 + 1)) hf  H locs ls hP hD hS (lv_sub hl [3, 0] rfl)
        · have hf := ifF cs hf
          have cs2 := cs
          refine lv_lookup (off := 104) (tgt := 146) hx hb d_Memory_settle_42 (by decide) (by show Op.lookupswitch.offset _ _ _ = _; rw [lv_osw (k := 0) cs0 (by decide), lv_osw (k := 1) cs1 (by decide), lv_osw (k := 12) cs2 (by decide)] <;> rfl) (by decide) ?_
          refine lv_iinc (v := (x1 + 1)) (lv' := [(1, .int (x1 + 1)), (3, .int (t_faults_victimMasks_a (Int32.toNatClampNeg x1))), (2, .int (t_faults_victimWords_a (Int32.toNatClampNeg x1))), (0, .ref h_t)]) hx hb d_Memory_settle_146 hl (k := 3) rfl rfl (by decide) rfl (fun ls hl => ?_)
          refine lv_goto (tgt := 2) hx hb d_Memory_settle_149 (by decide) ?_
          exact hrec2 (t_held_a, (x1 + 1)) hf  H locs ls hP hD hS (lv_sub hl [3, 0] rfl)
set_option maxHeartbeats 4000000 in
set_option maxRecDepth 100000 in
theorem k_Memory_settle_2 {p : Program} {l : Launch} {e : Env} {s : State} {m : MethodId} {args : Array Value} {below : List Frame} {meth : Method} {c : Code} {D : va_G} {cI cB cJ : ClassId} {A : Nat → Prop} (C0 : CX p s m args meth c D [(cI, .int), (cB, .byte), (cJ, .long)] R_Memory b_Memory_settle 4 none "settle") (hA : ∀ q, s.heap.size ≤ q → A q) {h_t h_t_faults h_t_faults_victimWords h_t_faults_victimMasks h_t_faults_kinds h_t_held h_t_faults_otherWords h_t_faults_otherMasks : Nat} {v_t_words v_t_bits v_t_latest v_t_faults_touchedWords v_t_faults_bits : Value} {res : (Nat → Int32)} {n_t_faults_victimWords : Nat} {n_t_faults_victimMasks : Nat} {n_t_faults_kinds : Nat} {n_t_held : Nat} {n_t_faults_otherWords : Nat} {n_t_faults_otherMasks : Nat} {t_faults_count : Int32} {t_faults_victimWords_a : Nat → Int32} {t_faults_victimMasks_a : Nat → Int32} {t_faults_kinds_a : Nat → Int32} {t_faults_otherWords_a : Nat → Int32} {t_faults_otherMasks_a : Nat → Int32}
    : ∀ (n : Nat) (st : ((Nat → Int32) × Int32)), lp (g_Memory_settle_2 n_t_faults_victimWords n_t_faults_victimMasks n_t_faults_kinds n_t_held n_t_faults_otherWords n_t_faults_otherMasks t_faults_count t_faults_victimWords_a t_faults_victimMasks_a t_faults_kinds_a t_faults_otherWords_a t_faults_otherMasks_a) n st = some res → ∀  (H : Heap) (locs : List Loc) (ls : Array Slot), va_P D classes [(h_t, .inr (5, [v_t_words, v_t_bits, .ref h_t_held, .ref h_t_faults, v_t_latest])), (h_t_faults, .inr (3, [.ref h_t_faults_kinds, .ref h_t_faults_victimWords, .ref h_t_faults_victimMasks, .ref h_t_faults_otherWords, .ref h_t_faults_otherMasks, .int t_faults_count, v_t_faults_touchedWords, v_t_faults_bits])), (h_t_faults_victimWords, .inl (cI, n_t_faults_victimWords, .inl t_faults_victimWords_a)), (h_t_faults_victimMasks, .inl (cI, n_t_faults_victimMasks, .inl t_faults_victimMasks_a)), (h_t_faults_kinds, .inl (cI, n_t_faults_kinds, .inl t_faults_kinds_a)), (h_t_held, .inl (cI, n_t_held, .inl st.1)), (h_t_faults_otherWords, .inl (cI, n_t_faults_otherWords, .inl t_faults_otherWords_a)), (h_t_faults_otherMasks, .inl (cI, n_t_faults_otherMasks, .inl t_faults_otherMasks_a))] H → va_D A [(h_t, .inr (5, [v_t_words, v_t_bits, .ref h_t_held, .ref h_t_faults, v_t_latest])), (h_t_faults, .inr (3, [.ref h_t_faults_kinds, .ref h_t_faults_victimWords, .ref h_t_faults_victimMasks, .ref h_t_faults_otherWords, .ref h_t_faults_otherMasks, .int t_faults_count, v_t_faults_touchedWords, v_t_faults_bits])), (h_t_faults_victimWords, .inl (cI, n_t_faults_victimWords, .inl t_faults_victimWords_a)), (h_t_faults_victimMasks, .inl (cI, n_t_faults_victimMasks, .inl t_faults_victimMasks_a)), (h_t_faults_kinds, .inl (cI, n_t_faults_kinds, .inl t_faults_kinds_a)), (h_t_held, .inl (cI, n_t_held, .inl st.1)), (h_t_faults_otherWords, .inl (cI, n_t_faults_otherWords, .inl t_faults_otherWords_a)), (h_t_faults_otherMasks, .inl (cI, n_t_faults_otherMasks, .inl t_faults_otherMasks_a))] → va_S A s.heap H locs → lv_has ls 4 [(0, .ref h_t), (1, .int st.2)] → W p l e rm_Memory_settle s m args below meth c H locs 0 0 (MQ below (QW D (post_Memory_settle h_t h_t_faults h_t_faults_victimWords h_t_faults_victimMasks h_t_faults_kinds h_t_held h_t_faults_otherWords h_t_faults_otherMasks v_t_words v_t_bits v_t_latest v_t_faults_touchedWords v_t_faults_bits n_t_faults_victimWords n_t_faults_victimMasks n_t_faults_kinds n_t_held n_t_faults_otherWords n_t_faults_otherMasks t_faults_count t_faults_victimWords_a t_faults_victimMasks_a t_faults_kinds_a t_faults_otherWords_a t_faults_otherMasks_a cI cB cJ res) A) args s 0 0 A) (F0 m 2 ls []) := by
  intro n
  induction n with
  | zero => intro st hf; exact absurd hf (by simp [lp])
  | succ n ih =>
    intro st hf  H locs ls hP hD hS hl
    exact kb_Memory_settle_2 C0 hA (rec2 := lp (g_Memory_settle_2 n_t_faults_victimWords n_t_faults_victimMasks n_t_faults_kinds n_t_held n_t_faults_otherWords n_t_faults_otherMasks t_faults_count t_faults_victimWords_a t_faults_victimMasks_a t_faults_kinds_a t_faults_otherWords_a t_faults_otherMasks_a) n) (t_held_a := st.1) (x1 := st.2)  (fun st hf  H locs ls hP hD hS hl => ih st hf  H locs ls hP hD hS hl) hf hP hD hS hl
set_option maxHeartbeats 4000000 in
set_option maxRecDepth 100000 in
theorem c_Memory_settle (l : Launch) (D : va_G) (cI cB cJ : ClassId) (h_t h_t_faults h_t_faults_victimWords h_t_faults_victimMasks h_t_faults_kinds h_t_held h_t_faults_otherWords h_t_faults_otherMasks : Nat) (v_t_words v_t_bits v_t_latest v_t_faults_touchedWords v_t_faults_bits : Value) (n_t_faults_victimWords : Nat) (n_t_faults_victimMasks : Nat) (n_t_faults_kinds : Nat) (n_t_held : Nat) (n_t_faults_otherWords : Nat) (n_t_faults_otherMasks : Nat) (t_faults_count : Int32) (t_faults_victimWords_a : Nat → Int32) (t_faults_victimMasks_a : Nat → Int32) (t_faults_kinds_a : Nat → Int32) (t_held_a : Nat → Int32) (t_faults_otherWords_a : Nat → Int32) (t_faults_otherMasks_a : Nat → Int32) (sz : Nat) (res : (Nat → Int32)) (hf : f_Memory_settle n_t_faults_victimWords n_t_faults_victimMasks n_t_faults_kinds n_t_held n_t_faults_otherWords n_t_faults_otherMasks t_faults_count t_faults_victimWords_a t_faults_victimMasks_a t_faults_kinds_a t_held_a t_faults_otherWords_a t_faults_otherMasks_a = some res) : Met l y_Memory_settle (.code y_Memory_settle b_Memory_settle 4 none :: TB) rm_Memory_settle (PcW D [(cI, .int), (cB, .byte), (cJ, .long)] [.ref h_t] [(h_t, .inr (5, [v_t_words, v_t_bits, .ref h_t_held, .ref h_t_faults, v_t_latest])), (h_t_faults, .inr (3, [.ref h_t_faults_kinds, .ref h_t_faults_victimWords, .ref h_t_faults_victimMasks, .ref h_t_faults_otherWords, .ref h_t_faults_otherMasks, .int t_faults_count, v_t_faults_touchedWords, v_t_faults_bits])), (h_t_faults_victimWords, .inl (cI, n_t_faults_victimWords, .inl t_faults_victimWords_a)), (h_t_faults_victimMasks, .inl (cI, n_t_faults_victimMasks, .inl t_faults_victimMasks_a)), (h_t_faults_kinds, .inl (cI, n_t_faults_kinds, .inl t_faults_kinds_a)), (h_t_held, .inl (cI, n_t_held, .inl t_held_a)), (h_t_faults_otherWords, .inl (cI, n_t_faults_otherWords, .inl t_faults_otherWords_a)), (h_t_faults_otherMasks, .inl (cI, n_t_faults_otherMasks, .inl t_faults_otherMasks_a))] sz) (QW D (post_Memory_settle h_t h_t_faults h_t_faults_victimWords h_t_faults_victimMasks h_t_faults_kinds h_t_held h_t_faults_otherWords h_t_faults_otherMasks v_t_words v_t_bits v_t_latest v_t_faults_touchedWords v_t_faults_bits n_t_faults_victimWords n_t_faults_victimMasks n_t_faults_kinds n_t_held n_t_faults_otherWords n_t_faults_otherMasks t_faults_count t_faults_victimWords_a t_faults_victimMasks_a t_faults_kinds_a t_faults_otherWords_a t_faults_otherMasks_a cI cB cJ res) (va_A [(h_t, .inr (5, [v_t_words, v_t_bits, .ref h_t_held, .ref h_t_faults, v_t_latest])), (h_t_faults, .inr (3, [.ref h_t_faults_kinds, .ref h_t_faults_victimWords, .ref h_t_faults_victimMasks, .ref h_t_faults_otherWords, .ref h_t_faults_otherMasks, .int t_faults_count, v_t_faults_touchedWords, v_t_faults_bits])), (h_t_faults_victimWords, .inl (cI, n_t_faults_victimWords, .inl t_faults_victimWords_a)), (h_t_faults_victimMasks, .inl (cI, n_t_faults_victimMasks, .inl t_faults_victimMasks_a)), (h_t_faults_kinds, .inl (cI, n_t_faults_kinds, .inl t_faults_kinds_a)), (h_t_held, .inl (cI, n_t_held, .inl t_held_a)), (h_t_faults_otherWords, .inl (cI, n_t_faults_otherWords, .inl t_faults_otherWords_a)), (h_t_faults_otherMasks, .inl (cI, n_t_faults_otherMasks, .inl t_faults_otherMasks_a))] sz)) 0 0 (va_A [(h_t, .inr (5, [v_t_words, v_t_bits, .ref h_t_held, .ref h_t_faults, v_t_latest])), (h_t_faults, .inr (3, [.ref h_t_faults_kinds, .ref h_t_faults_victimWords, .ref h_t_faults_victimMasks, .ref h_t_faults_otherWords, .ref h_t_faults_otherMasks, .int t_faults_count, v_t_faults_touchedWords, v_t_faults_bits])), (h_t_faults_victimWords, .inl (cI, n_t_faults_victimWords, .inl t_faults_victimWords_a)), (h_t_faults_victimMasks, .inl (cI, n_t_faults_victimMasks, .inl t_faults_victimMasks_a)), (h_t_faults_kinds, .inl (cI, n_t_faults_kinds, .inl t_faults_kinds_a)), (h_t_held, .inl (cI, n_t_held, .inl t_held_a)), (h_t_faults_otherWords, .inl (cI, n_t_faults_otherWords, .inl t_faults_otherWords_a)), (h_t_faults_otherMasks, .inl (cI, n_t_faults_otherMasks, .inl t_faults_otherMasks_a))] sz) := by
  refine entW ⟨by decide +kernel, rfl⟩ fun p e s m below meth c C0 hP hD hsz ls hl => ?_
  subst hsz
  generalize hAe : va_A [(h_t, .inr (5, [v_t_words, v_t_bits, .ref h_t_held, .ref h_t_faults, v_t_latest])), (h_t_faults, .inr (3, [.ref h_t_faults_kinds, .ref h_t_faults_victimWords, .ref h_t_faults_victimMasks, .ref h_t_faults_otherWords, .ref h_t_faults_otherMasks, .int t_faults_count, v_t_faults_touchedWords, v_t_faults_bits])), (h_t_faults_victimWords, .inl (cI, n_t_faults_victimWords, .inl t_faults_victimWords_a)), (h_t_faults_victimMasks, .inl (cI, n_t_faults_victimMasks, .inl t_faults_victimMasks_a)), (h_t_faults_kinds, .inl (cI, n_t_faults_kinds, .inl t_faults_kinds_a)), (h_t_held, .inl (cI, n_t_held, .inl t_held_a)), (h_t_faults_otherWords, .inl (cI, n_t_faults_otherWords, .inl t_faults_otherWords_a)), (h_t_faults_otherMasks, .inl (cI, n_t_faults_otherMasks, .inl t_faults_otherMasks_a))] s.heap.size = A at hD ⊢
  have hA : ∀ q : Nat, s.heap.size ≤ q → A q := fun q h => by rw [← hAe]; exact Or.inr h
  clear hAe
  have hS : va_S A s.heap s.heap [] := va_S.rf
  have hl : lv_has ls 4 [(0, .ref h_t)] := hl
  obtain ⟨hx, hb, hml, hr, hlocks, hts, hown, hK, hin⟩ := id C0
  have hf : (((
  (lp (g_Memory_settle_2 n_t_faults_victimWords n_t_faults_victimMasks n_t_faults_kinds n_t_held n_t_faults_otherWords n_t_faults_otherMasks t_faults_count t_faults_victimWords_a t_faults_victimMasks_a t_faults_kinds_a t_faults_otherWords_a t_faults_otherMasks_a) 100000 (t_held_a, 0)))) : Option ((Nat → Int32))) = some res := hf
  obtain ⟨H, hH⟩ : ∃ H, H = s.heap := ⟨_, rfl⟩
  obtain ⟨locs, hlo⟩ : ∃ x : List Loc, x = [] := ⟨_, rfl⟩
  rw [← hlo] at hS ⊢
  have hP : va_P D classes [(h_t, .inr (5, [v_t_words, v_t_bits, .ref h_t_held, .ref h_t_faults, v_t_latest])), (h_t_faults, .inr (3, [.ref h_t_faults_kinds, .ref h_t_faults_victimWords, .ref h_t_faults_victimMasks, .ref h_t_faults_otherWords, .ref h_t_faults_otherMasks, .int t_faults_count, v_t_faults_touchedWords, v_t_faults_bits])), (h_t_faults_victimWords, .inl (cI, n_t_faults_victimWords, .inl t_faults_victimWords_a)), (h_t_faults_victimMasks, .inl (cI, n_t_faults_victimMasks, .inl t_faults_victimMasks_a)), (h_t_faults_kinds, .inl (cI, n_t_faults_kinds, .inl t_faults_kinds_a)), (h_t_held, .inl (cI, n_t_held, .inl t_held_a)), (h_t_faults_otherWords, .inl (cI, n_t_faults_otherWords, .inl t_faults_otherWords_a)), (h_t_faults_otherMasks, .inl (cI, n_t_faults_otherMasks, .inl t_faults_otherMasks_a))] H := by rw [hH]; exact hP
  have hS : va_S A s.heap H locs := by rw [hH]; exact hS
  show W p l e rm_Memory_settle s m _ below meth c s.heap locs 0 0 (MQ below (QW D (post_Memory_settle h_t h_t_faults h_t_faults_victimWords h_t_faults_victimMasks h_t_faults_kinds h_t_held h_t_faults_otherWords h_t_faults_otherMasks v_t_words v_t_bits v_t_latest v_t_faults_touchedWords v_t_faults_bits n_t_faults_victimWords n_t_faults_victimMasks n_t_faults_kinds n_t_held n_t_faults_otherWords n_t_faults_otherMasks t_faults_count t_faults_victimWords_a t_faults_victimMasks_a t_faults_kinds_a t_faults_otherWords_a t_faults_otherMasks_a cI cB cJ res) A) _ s 0 0 A) (F0 m 0 ls [])
  refine wheap hH ?_
  clear hH hlo
  refine lv_iconst (v := 0) hx hb d_Memory_settle_0 (by decide) ?_
  refine lv_istore_n (lv' := [(1, .int 0), (0, .ref h_t)]) hx hb d_Memory_settle_1 rfl hl (by decide) rfl (fun ls hl => ?_)
  exact k_Memory_settle_2 (s := s) C0 hA _ (t_held_a, 0) hf  H locs ls hP hD hS (lv_sub hl [1, 0] rfl)
def g_Memory_begin_12 (n_a1_victimWords : Nat) (n_a1_victimMasks : Nat) (n_a1_kinds : Nat) (n_t_held : Nat) (n_a1_otherWords : Nat) (n_a1_otherMasks : Nat) (t_words : Int32) (t_latest : Int32) (a1_count : Int32) (a1_victimWords_a : Nat → Int32) (a1_victimMasks_a : Nat → Int32) (a1_kinds_a : Nat → Int32) (a1_otherWords_a : Nat → Int32) (a1_otherMasks_a : Nat → Int32) (rec12 : ((Nat → Int32) × Int32) → Option (Int32 × (Nat → Int32))) (st : ((Nat → Int32) × Int32)) : Option (Int32 × (Nat → Int32)) :=
  (if t_words ≤ st.2 then
    (Option.bind (f_Memory_settle n_a1_victimWords n_a1_victimMasks n_a1_kinds n_t_held n_a1_otherWords n_a1_otherMasks a1_count a1_victimWords_a a1_victimMasks_a a1_kinds_a st.1 a1_otherWords_a a1_otherMasks_a) fun q34_1 =>
    some (t_latest, q34_1))
  else
    (if inB st.2 n_t_held = true then
    (rec12 ((upd st.1 (Int32.toNatClampNeg st.2) 0), (st.2 + 1)))
    else none))
def f_Memory_begin (n_a1_victimWords : Nat) (n_a1_victimMasks : Nat) (n_a1_kinds : Nat) (n_t_held : Nat) (n_a1_otherWords : Nat) (n_a1_otherMasks : Nat) (t_words : Int32) (a1_count : Int32) (a1_victimWords_a : Nat → Int32) (a1_victimMasks_a : Nat → Int32) (a1_kinds_a : Nat → Int32) (t_held_a : Nat → Int32) (a1_otherWords_a : Nat → Int32) (a1_otherMasks_a : Nat → Int32) : Option (Int32 × (Nat → Int32)) :=
  (lp (g_Memory_begin_12 n_a1_victimWords n_a1_victimMasks n_a1_kinds n_t_held n_a1_otherWords n_a1_otherMasks t_words 0 a1_count a1_victimWords_a a1_victimMasks_a a1_kinds_a a1_otherWords_a a1_otherMasks_a) 100000 (t_held_a, 0))
def post_Memory_begin (h_t h_a1 h_a1_victimWords h_a1_victimMasks h_a1_kinds h_t_held h_a1_otherWords h_a1_otherMasks : Nat) (v_t_bits v_t_faults v_a1_touchedWords v_a1_bits : Value) (n_a1_victimWords : Nat) (n_a1_victimMasks : Nat) (n_a1_kinds : Nat) (n_t_held : Nat) (n_a1_otherWords : Nat) (n_a1_otherMasks : Nat) (t_words : Int32) (a1_count : Int32) (a1_victimWords_a : Nat → Int32) (a1_victimMasks_a : Nat → Int32) (a1_kinds_a : Nat → Int32) (a1_otherWords_a : Nat → Int32) (a1_otherMasks_a : Nat → Int32) (cI cB cJ : ClassId) (res : Int32 × (Nat → Int32)) : Option Value → va_W → Prop := fun o ws' => o = none ∧ ws' = [(h_t, .inr (5, [.int t_words, v_t_bits, .ref h_t_held, .ref h_a1, .int res.1])), (h_a1, .inr (3, [.ref h_a1_kinds, .ref h_a1_victimWords, .ref h_a1_victimMasks, .ref h_a1_otherWords, .ref h_a1_otherMasks, .int a1_count, v_a1_touchedWords, v_a1_bits])), (h_a1_victimWords, .inl (cI, n_a1_victimWords, .inl a1_victimWords_a)), (h_a1_victimMasks, .inl (cI, n_a1_victimMasks, .inl a1_victimMasks_a)), (h_a1_kinds, .inl (cI, n_a1_kinds, .inl a1_kinds_a)), (h_t_held, .inl (cI, n_t_held, .inl res.2)), (h_a1_otherWords, .inl (cI, n_a1_otherWords, .inl a1_otherWords_a)), (h_a1_otherMasks, .inl (cI, n_a1_otherMasks, .inl a1_otherMasks_a))]
abbrev rm_Memory_begin : Room := { frames := 1, cells := 0, slots := 0, locals := 23 }
set_option maxHeartbeats 4000000 in
set_option maxRecDepth 100000 in
theorem kb_Memory_begin_12 {p : Program} {l : Launch} {e : Env} {s : State} {m : MethodId} {args : Array Value} {below : List Frame} {meth : Method} {c : Code} {D : va_G} {cI cB cJ : ClassId} {A : Nat → Prop} (C0 : CX p s m args meth c D [(cI, .int), (cB, .byte), (cJ, .long)] R_Memory b_Memory_begin 3 none "begin") (hA : ∀ q, s.heap.size ≤ q → A q) {h_t h_a1 h_a1_victimWords h_a1_victimMasks h_a1_kinds h_t_held h_a1_otherWords h_a1_otherMasks : Nat} {v_t_bits v_t_faults v_a1_touchedWords v_a1_bits : Value} {res : Int32 × (Nat → Int32)} {rec12 : ((Nat → Int32) × Int32) → Option (Int32 × (Nat → Int32))} {n_a1_victimWords : Nat} {n_a1_victimMasks : Nat} {n_a1_kinds : Nat} {n_t_held : Nat} {n_a1_otherWords : Nat} {n_a1_otherMasks : Nat} {t_words : Int32} {t_latest : Int32} {a1_count : Int32} {a1_victimWords_a : Nat → Int32} {a1_victimMasks_a : Nat → Int32} {a1_kinds_a : Nat → Int32} {t_held_a : Nat → Int32} {a1_otherWords_a : Nat → Int32} {a1_otherMasks_a : Nat → Int32} {x2 : Int32}
    (hrec12 : ∀ (st : ((Nat → Int32) × Int32)), rec12 st = some res → ∀  (H : Heap) (locs : List Loc) (ls : Array Slot), va_P D classes [(h_t, .inr (5, [.int t_words, v_t_bits, .ref h_t_held, .ref h_a1, .int t_latest])), (h_a1, .inr (3, [.ref h_a1_kinds, .ref h_a1_victimWords, .ref h_a1_victimMasks, .ref h_a1_otherWords, .ref h_a1_otherMasks, .int a1_count, v_a1_touchedWords, v_a1_bits])), (h_a1_victimWords, .inl (cI, n_a1_victimWords, .inl a1_victimWords_a)), (h_a1_victimMasks, .inl (cI, n_a1_victimMasks, .inl a1_victimMasks_a)), (h_a1_kinds, .inl (cI, n_a1_kinds, .inl a1_kinds_a)), (h_t_held, .inl (cI, n_t_held, .inl st.1)), (h_a1_otherWords, .inl (cI, n_a1_otherWords, .inl a1_otherWords_a)), (h_a1_otherMasks, .inl (cI, n_a1_otherMasks, .inl a1_otherMasks_a))] H → va_D A [(h_t, .inr (5, [.int t_words, v_t_bits, .ref h_t_held, .ref h_a1, .int t_latest])), (h_a1, .inr (3, [.ref h_a1_kinds, .ref h_a1_victimWords, .ref h_a1_victimMasks, .ref h_a1_otherWords, .ref h_a1_otherMasks, .int a1_count, v_a1_touchedWords, v_a1_bits])), (h_a1_victimWords, .inl (cI, n_a1_victimWords, .inl a1_victimWords_a)), (h_a1_victimMasks, .inl (cI, n_a1_victimMasks, .inl a1_victimMasks_a)), (h_a1_kinds, .inl (cI, n_a1_kinds, .inl a1_kinds_a)), (h_t_held, .inl (cI, n_t_held, .inl st.1)), (h_a1_otherWords, .inl (cI, n_a1_otherWords, .inl a1_otherWords_a)), (h_a1_otherMasks, .inl (cI, n_a1_otherMasks, .inl a1_otherMasks_a))] → va_S A s.heap H locs → lv_has ls 3 [(0, .ref h_t), (2, .int st.2)] → W p l e rm_Memory_begin s m args below meth c H locs 0 0 (MQ below (QW D (post_Memory_begin h_t h_a1 h_a1_victimWords h_a1_victimMasks h_a1_kinds h_t_held h_a1_otherWords h_a1_otherMasks v_t_bits v_t_faults v_a1_touchedWords v_a1_bits n_a1_victimWords n_a1_victimMasks n_a1_kinds n_t_held n_a1_otherWords n_a1_otherMasks t_words a1_count a1_victimWords_a a1_victimMasks_a a1_kinds_a a1_otherWords_a a1_otherMasks_a cI cB cJ res) A) args s 0 0 A) (F0 m 12 ls []))
    (hf : g_Memory_begin_12 n_a1_victimWords n_a1_victimMasks n_a1_kinds n_t_held n_a1_otherWords n_a1_otherMasks t_words t_latest a1_count a1_victimWords_a a1_victimMasks_a a1_kinds_a a1_otherWords_a a1_otherMasks_a rec12 (t_held_a, x2) = some res) {H : Heap} {locs : List Loc} {ls : Array Slot} (hP : va_P D classes [(h_t, .inr (5, [.int t_words, v_t_bits, .ref h_t_held, .ref h_a1, .int t_latest])), (h_a1, .inr (3, [.ref h_a1_kinds, .ref h_a1_victimWords, .ref h_a1_victimMasks, .ref h_a1_otherWords, .ref h_a1_otherMasks, .int a1_count, v_a1_touchedWords, v_a1_bits])), (h_a1_victimWords, .inl (cI, n_a1_victimWords, .inl a1_victimWords_a)), (h_a1_victimMasks, .inl (cI, n_a1_victimMasks, .inl a1_victimMasks_a)), (h_a1_kinds, .inl (cI, n_a1_kinds, .inl a1_kinds_a)), (h_t_held, .inl (cI, n_t_held, .inl t_held_a)), (h_a1_otherWords, .inl (cI, n_a1_otherWords, .inl a1_otherWords_a)), (h_a1_otherMasks, .inl (cI, n_a1_otherMasks, .inl a1_otherMasks_a))] H) (hD : va_D A [(h_t, .inr (5, [.int t_words, v_t_bits, .ref h_t_held, .ref h_a1, .int t_latest])), (h_a1, .inr (3, [.ref h_a1_kinds, .ref h_a1_victimWords, .ref h_a1_victimMasks, .ref h_a1_otherWords, .ref h_a1_otherMasks, .int a1_count, v_a1_touchedWords, v_a1_bits])), (h_a1_victimWords, .inl (cI, n_a1_victimWords, .inl a1_victimWords_a)), (h_a1_victimMasks, .inl (cI, n_a1_victimMasks, .inl a1_victimMasks_a)), (h_a1_kinds, .inl (cI, n_a1_kinds, .inl a1_kinds_a)), (h_t_held, .inl (cI, n_t_held, .inl t_held_a)), (h_a1_otherWords, .inl (cI, n_a1_otherWords, .inl a1_otherWords_a)), (h_a1_otherMasks, .inl (cI, n_a1_otherMasks, .inl a1_otherMasks_a))]) (hS : va_S A s.heap H locs) (hl : lv_has ls 3 [(0, .ref h_t), (2, .int x2)]) : W p l e rm_Memory_begin s m args below meth c H locs 0 0 (MQ below (QW D (post_Memory_begin h_t h_a1 h_a1_victimWords h_a1_victimMasks h_a1_kinds h_t_held h_a1_otherWords h_a1_otherMasks v_t_bits v_t_faults v_a1_touchedWords v_a1_bits n_a1_victimWords n_a1_victimMasks n_a1_kinds n_t_held n_a1_otherWords n_a1_otherMasks t_words a1_count a1_victimWords_a a1_victimMasks_a a1_kinds_a a1_otherWords_a a1_otherMasks_a cI cB cJ res) A) args s 0 0 A) (F0 m 12 ls []) := by
  obtain ⟨hx, hb, hml, hr, hlocks, hts, hown, hK, hin⟩ := id C0
  have hf : (((
  (if t_words ≤ x2 then
    (Option.bind (f_Memory_settle n_a1_victimWords n_a1_victimMasks n_a1_kinds n_t_held n_a1_otherWords n_a1_otherMasks a1_count a1_victimWords_a a1_victimMasks_a a1_kinds_a t_held_a a1_otherWords_a a1_otherMasks_a) fun q34_1 =>
    some (t_latest, q34_1))
  else
    (if inB x2 n_t_held = true then
    (rec12 ((upd t_held_a (Int32.toNatClampNeg x2) 0), (x2 + 1)))
    else none)))) : Option (Int32 × (Nat → Int32))) = some res := hf
  refine lv_iload_n hx hb d_Memory_begin_12 rfl (lv_at hl 1 rfl) ?_
  refine lv_aload_n hx hb d_Memory_begin_13 rfl (lv_at hl 0 rfl) ?_
  refine va_get (D := D) (ci := 5) (v := .int t_words) (C := R_Memory) (T := F_Memory) (N := 5) hx hb hts i_Memory hown hK.1 hP 0 rfl rfl 0 (by decide) (hts _ w_23) (fun _ h9 => h9) rfl d_Memory_begin_14 ?_
  refine lv_icmp_ge (tgt := 33) hx hb d_Memory_begin_17 (by decide) (fun cc17 => ?_) (fun cc17 => ?_)
  · have hf := ifT cc17 hf
    refine lv_aload_n hx hb d_Memory_begin_33 rfl (lv_at hl 0 rfl) ?_
    obtain ⟨q34_1, hc, hf⟩ := bindS hf
    refine mcV (n := 0) (As := []) (rest := []) (wr := []) hx hb hml hown hts hK (c_Memory_settle (l := l) (D := D) (cI := cI) (cB := cB) (cJ := cJ) (h_t := h_t) (h_t_faults := h_a1) (h_t_faults_victimWords := h_a1_victimWords) (h_t_faults_victimMasks := h_a1_victimMasks) (h_t_faults_kinds := h_a1_kinds) (h_t_held := h_t_held) (h_t_faults_otherWords := h_a1_otherWords) (h_t_faults_otherMasks := h_a1_otherMasks) (v_t_words := (.int t_words)) (v_t_bits := v_t_bits) (v_t_latest := (.int t_latest)) (v_t_faults_touchedWords := v_a1_touchedWords) (v_t_faults_bits := v_a1_bits) (n_t_faults_victimWords := n_a1_victimWords) (n_t_faults_victimMasks := n_a1_victimMasks) (n_t_faults_kinds := n_a1_kinds) (n_t_held := n_t_held) (n_t_faults_otherWords := n_a1_otherWords) (n_t_faults_otherMasks := n_a1_otherMasks) (t_faults_count := a1_count) (t_faults_victimWords_a := a1_victimWords_a) (t_faults_victimMasks_a := a1_victimMasks_a) (t_faults_kinds_a := a1_kinds_a) (t_held_a := t_held_a) (t_faults_otherWords_a := a1_otherWords_a) (t_faults_otherMasks_a := a1_otherMasks_a) (sz := H.size) (res := q34_1) (hf := hc)) w_222 w_223 w_224 w_41 w_225 (by decide +kernel) rfl rfl ⟨Nat.le_of_ble_eq_true rfl, Nat.le_of_ble_eq_true rfl⟩ hP hD hS hA [0, 1, 2, 3, 4, 5, 6, 7] [] rfl rfl (by decide) (by decide) (by decide) (ci := 5) 0 rfl rfl hl.1 rfl rfl (lv_room (Nat.le_of_ble_eq_true rfl)) d_Memory_begin_34 ⟨Nat.le_of_ble_eq_true rfl, Nat.le_of_ble_eq_true rfl⟩ (fun o ws' H locs hp hP hD hS => ?_)
    obtain ⟨rfl, rfl⟩ := hp
    have hP : va_P D classes [(h_t, .inr (5, [.int t_words, v_t_bits, .ref h_t_held, .ref h_a1, .int t_latest])), (h_a1, .inr (3, [.ref h_a1_kinds, .ref h_a1_victimWords, .ref h_a1_victimMasks, .ref h_a1_otherWords, .ref h_a1_otherMasks, .int a1_count, v_a1_touchedWords, v_a1_bits])), (h_a1_victimWords, .inl (cI, n_a1_victimWords, .inl a1_victimWords_a)), (h_a1_victimMasks, .inl (cI, n_a1_victimMasks, .inl a1_victimMasks_a)), (h_a1_kinds, .inl (cI, n_a1_kinds, .inl a1_kinds_a)), (h_t_held, .inl (cI, n_t_held, .inl q34_1)), (h_a1_otherWords, .inl (cI, n_a1_otherWords, .inl a1_otherWords_a)), (h_a1_otherMasks, .inl (cI, n_a1_otherMasks, .inl a1_otherMasks_a))] H := hP.sub [0, 1, 2, 3, 4, 5, 6, 7] rfl
    have hD : va_D A [(h_t, .inr (5, [.int t_words, v_t_bits, .ref h_t_held, .ref h_a1, .int t_latest])), (h_a1, .inr (3, [.ref h_a1_kinds, .ref h_a1_victimWords, .ref h_a1_victimMasks, .ref h_a1_otherWords, .ref h_a1_otherMasks, .int a1_count, v_a1_touchedWords, v_a1_bits])), (h_a1_victimWords, .inl (cI, n_a1_victimWords, .inl a1_victimWords_a)), (h_a1_victimMasks, .inl (cI, n_a1_victimMasks, .inl a1_victimMasks_a)), (h_a1_kinds, .inl (cI, n_a1_kinds, .inl a1_kinds_a)), (h_t_held, .inl (cI, n_t_held, .inl q34_1)), (h_a1_otherWords, .inl (cI, n_a1_otherWords, .inl a1_otherWords_a)), (h_a1_otherMasks, .inl (cI, n_a1_otherMasks, .inl a1_otherMasks_a))] := hD.sub [0, 1, 2, 3, 4, 5, 6, 7] (by decide) rfl
    obtain rfl := Option.some.inj hf
    exact ret_v hx hb hr hlocks hP hD hS ⟨rfl, rfl⟩ d_Memory_begin_37
  · have hf := ifF cc17 hf
    refine lv_aload_n hx hb d_Memory_begin_20 rfl (lv_at hl 0 rfl) ?_
    refine va_get (D := D) (ci := 5) (v := .ref h_t_held) (C := R_Memory) (T := F_Memory) (N := 5) hx hb hts i_Memory hown hK.1 hP 0 rfl rfl 2 (by decide) (hts _ w_25) (fun _ h9 => h9) rfl d_Memory_begin_21 ?_
    refine lv_iload_n hx hb d_Memory_begin_24 rfl (lv_at hl 1 rfl) ?_
    refine lv_iconst (v := 0) hx hb d_Memory_begin_25 (by decide) ?_
    obtain ⟨hin1, hf⟩ := ifG hf
    refine va_iast hx hb hK.1 hP hD hS 5 0 rfl rfl (inB_in hin1) d_Memory_begin_26 (fun H locs hP hD hS => ?_)
    have hP : va_P D classes [(h_t, .inr (5, [.int t_words, v_t_bits, .ref h_t_held, .ref h_a1, .int t_latest])), (h_a1, .inr (3, [.ref h_a1_kinds, .ref h_a1_victimWords, .ref h_a1_victimMasks, .ref h_a1_otherWords, .ref h_a1_otherMasks, .int a1_count, v_a1_touchedWords, v_a1_bits])), (h_a1_victimWords, .inl (cI, n_a1_victimWords, .inl a1_victimWords_a)), (h_a1_victimMasks, .inl (cI, n_a1_victimMasks, .inl a1_victimMasks_a)), (h_a1_kinds, .inl (cI, n_a1_kinds, .inl a1_kinds_a)), (h_t_held, .inl (cI, n_t_held, .inl (upd t_held_a (Int32.toNatClampNeg x2) 0))), (h_a1_otherWords, .inl (cI, n_a1_otherWords, .inl a1_otherWords_a)), (h_a1_otherMasks, .inl (cI, n_a1_otherMasks, .inl a1_otherMasks_a))] H := hP
    have hD : va_D A [(h_t, .inr (5, [.int t_words, v_t_bits, .ref h_t_held, .ref h_a1, .int t_latest])), (h_a1, .inr (3, [.ref h_a1_kinds, .ref h_a1_victimWords, .ref h_a1_victimMasks, .ref h_a1_otherWords, .ref h_a1_otherMasks, .int a1_count, v_a1_touchedWords, v_a1_bits])), (h_a1_victimWords, .inl (cI, n_a1_victimWords, .inl a1_victimWords_a)), (h_a1_victimMasks, .inl (cI, n_a1_victimMasks, .inl a1_victimMasks_a)), (h_a1_kinds, .inl (cI, n_a1_kinds, .inl a1_kinds_a)), (h_t_held, .inl (cI, n_t_held, .inl (upd t_held_a (Int32.toNatClampNeg x2) 0))), (h_a1_otherWords, .inl (cI, n_a1_otherWords, .inl a1_otherWords_a)), (h_a1_otherMasks, .inl (cI, n_a1_otherMasks, .inl a1_otherMasks_a))] := hD
    refine lv_iinc (v := (x2 + 1)) (lv' := [(2, .int (x2 + 1)), (0, .ref h_t)]) hx hb d_Memory_begin_27 hl (k := 1) rfl rfl (by decide) rfl (fun ls hl => ?_)
    refine lv_goto (tgt := 12) hx hb d_Memory_begin_30 (by decide) ?_
    exact hrec12 ((upd t_held_a (Int32.toNatClampNeg x2) 0), (x2 + 1)) hf  H locs ls hP hD hS (lv_sub hl [1, 0] rfl)
set_option maxHeartbeats 4000000 in
set_option maxRecDepth 100000 in
theorem k_Memory_begin_12 {p : Program} {l : Launch} {e : Env} {s : State} {m : MethodId} {args : Array Value} {below : List Frame} {meth : Method} {c : Code} {D : va_G} {cI cB cJ : ClassId} {A : Nat → Prop} (C0 : CX p s m args meth c D [(cI, .int), (cB, .byte), (cJ, .long)] R_Memory b_Memory_begin 3 none "begin") (hA : ∀ q, s.heap.size ≤ q → A q) {h_t h_a1 h_a1_victimWords h_a1_victimMasks h_a1_kinds h_t_held h_a1_otherWords h_a1_otherMasks : Nat} {v_t_bits v_t_faults v_a1_touchedWords v_a1_bits : Value} {res : Int32 × (Nat → Int32)} {n_a1_victimWords : Nat} {n_a1_victimMasks : Nat} {n_a1_kinds : Nat} {n_t_held : Nat} {n_a1_otherWords : Nat} {n_a1_otherMasks : Nat} {t_words : Int32} {t_latest : Int32} {a1_count : Int32} {a1_victimWords_a : Nat → Int32} {a1_victimMasks_a : Nat → Int32} {a1_kinds_a : Nat → Int32} {a1_otherWords_a : Nat → Int32} {a1_otherMasks_a : Nat → Int32}
    : ∀ (n : Nat) (st : ((Nat → Int32) × Int32)), lp (g_Memory_begin_12 n_a1_victimWords n_a1_victimMasks n_a1_kinds n_t_held n_a1_otherWords n_a1_otherMasks t_words t_latest a1_count a1_victimWords_a a1_victimMasks_a a1_kinds_a a1_otherWords_a a1_otherMasks_a) n st = some res → ∀  (H : Heap) (locs : List Loc) (ls : Array Slot), va_P D classes [(h_t, .inr (5, [.int t_words, v_t_bits, .ref h_t_held, .ref h_a1, .int t_latest])), (h_a1, .inr (3, [.ref h_a1_kinds, .ref h_a1_victimWords, .ref h_a1_victimMasks, .ref h_a1_otherWords, .ref h_a1_otherMasks, .int a1_count, v_a1_touchedWords, v_a1_bits])), (h_a1_victimWords, .inl (cI, n_a1_victimWords, .inl a1_victimWords_a)), (h_a1_victimMasks, .inl (cI, n_a1_victimMasks, .inl a1_victimMasks_a)), (h_a1_kinds, .inl (cI, n_a1_kinds, .inl a1_kinds_a)), (h_t_held, .inl (cI, n_t_held, .inl st.1)), (h_a1_otherWords, .inl (cI, n_a1_otherWords, .inl a1_otherWords_a)), (h_a1_otherMasks, .inl (cI, n_a1_otherMasks, .inl a1_otherMasks_a))] H → va_D A [(h_t, .inr (5, [.int t_words, v_t_bits, .ref h_t_held, .ref h_a1, .int t_latest])), (h_a1, .inr (3, [.ref h_a1_kinds, .ref h_a1_victimWords, .ref h_a1_victimMasks, .ref h_a1_otherWords, .ref h_a1_otherMasks, .int a1_count, v_a1_touchedWords, v_a1_bits])), (h_a1_victimWords, .inl (cI, n_a1_victimWords, .inl a1_victimWords_a)), (h_a1_victimMasks, .inl (cI, n_a1_victimMasks, .inl a1_victimMasks_a)), (h_a1_kinds, .inl (cI, n_a1_kinds, .inl a1_kinds_a)), (h_t_held, .inl (cI, n_t_held, .inl st.1)), (h_a1_otherWords, .inl (cI, n_a1_otherWords, .inl a1_otherWords_a)), (h_a1_otherMasks, .inl (cI, n_a1_otherMasks, .inl a1_otherMasks_a))] → va_S A s.heap H locs → lv_has ls 3 [(0, .ref h_t), (2, .int st.2)] → W p l e rm_Memory_begin s m args below meth c H locs 0 0 (MQ below (QW D (post_Memory_begin h_t h_a1 h_a1_victimWords h_a1_victimMasks h_a1_kinds h_t_held h_a1_otherWords h_a1_otherMasks v_t_bits v_t_faults v_a1_touchedWords v_a1_bits n_a1_victimWords n_a1_victimMasks n_a1_kinds n_t_held n_a1_otherWords n_a1_otherMasks t_words a1_count a1_victimWords_a a1_victimMasks_a a1_kinds_a a1_otherWords_a a1_otherMasks_a cI cB cJ res) A) args s 0 0 A) (F0 m 12 ls []) := by
  intro n
  induction n with
  | zero => intro st hf; exact absurd hf (by simp [lp])
  | succ n ih =>
    intro st hf  H locs ls hP hD hS hl
    exact kb_Memory_begin_12 C0 hA (rec12 := lp (g_Memory_begin_12 n_a1_victimWords n_a1_victimMasks n_a1_kinds n_t_held n_a1_otherWords n_a1_otherMasks t_words t_latest a1_count a1_victimWords_a a1_victimMasks_a a1_kinds_a a1_otherWords_a a1_otherMasks_a) n) (t_held_a := st.1) (x2 := st.2)  (fun st hf  H locs ls hP hD hS hl => ih st hf  H locs ls hP hD hS hl) hf hP hD hS hl
set_option maxHeartbeats 4000000 in
set_option maxRecDepth 100000 in
theorem c_Memory_begin (l : Launch) (D : va_G) (cI cB cJ : ClassId) (h_t h_a1 h_a1_victimWords h_a1_victimMasks h_a1_kinds h_t_held h_a1_otherWords h_a1_otherMasks : Nat) (v_t_bits v_t_faults v_a1_touchedWords v_a1_bits : Value) (n_a1_victimWords : Nat) (n_a1_victimMasks : Nat) (n_a1_kinds : Nat) (n_t_held : Nat) (n_a1_otherWords : Nat) (n_a1_otherMasks : Nat) (t_words : Int32) (t_latest : Int32) (a1_count : Int32) (a1_victimWords_a : Nat → Int32) (a1_victimMasks_a : Nat → Int32) (a1_kinds_a : Nat → Int32) (t_held_a : Nat → Int32) (a1_otherWords_a : Nat → Int32) (a1_otherMasks_a : Nat → Int32) (sz : Nat) (res : Int32 × (Nat → Int32)) (hf : f_Memory_begin n_a1_victimWords n_a1_victimMasks n_a1_kinds n_t_held n_a1_otherWords n_a1_otherMasks t_words a1_count a1_victimWords_a a1_victimMasks_a a1_kinds_a t_held_a a1_otherWords_a a1_otherMasks_a = some res) : Met l y_Memory_begin (.code y_Memory_begin b_Memory_begin 3 none :: TB) rm_Memory_begin (PcW D [(cI, .int), (cB, .byte), (cJ, .long)] [.ref h_t, .ref h_a1] [(h_t, .inr (5, [.int t_words, v_t_bits, .ref h_t_held, v_t_faults, .int t_latest])), (h_a1, .inr (3, [.ref h_a1_kinds, .ref h_a1_victimWords, .ref h_a1_victimMasks, .ref h_a1_otherWords, .ref h_a1_otherMasks, .int a1_count, v_a1_touchedWords, v_a1_bits])), (h_a1_victimWords, .inl (cI, n_a1_victimWords, .inl a1_victimWords_a)), (h_a1_victimMasks, .inl (cI, n_a1_victimMasks, .inl a1_victimMasks_a)), (h_a1_kinds, .inl (cI, n_a1_kinds, .inl a1_kinds_a)), (h_t_held, .inl (cI, n_t_held, .inl t_held_a)), (h_a1_otherWords, .inl (cI, n_a1_otherWords, .inl a1_otherWords_a)), (h_a1_otherMasks, .inl (cI, n_a1_otherMasks, .inl a1_otherMasks_a))] sz) (QW D (post_Memory_begin h_t h_a1 h_a1_victimWords h_a1_victimMasks h_a1_kinds h_t_held h_a1_otherWords h_a1_otherMasks v_t_bits v_t_faults v_a1_touchedWords v_a1_bits n_a1_victimWords n_a1_victimMasks n_a1_kinds n_t_held n_a1_otherWords n_a1_otherMasks t_words a1_count a1_victimWords_a a1_victimMasks_a a1_kinds_a a1_otherWords_a a1_otherMasks_a cI cB cJ res) (va_A [(h_t, .inr (5, [.int t_words, v_t_bits, .ref h_t_held, v_t_faults, .int t_latest])), (h_a1, .inr (3, [.ref h_a1_kinds, .ref h_a1_victimWords, .ref h_a1_victimMasks, .ref h_a1_otherWords, .ref h_a1_otherMasks, .int a1_count, v_a1_touchedWords, v_a1_bits])), (h_a1_victimWords, .inl (cI, n_a1_victimWords, .inl a1_victimWords_a)), (h_a1_victimMasks, .inl (cI, n_a1_victimMasks, .inl a1_victimMasks_a)), (h_a1_kinds, .inl (cI, n_a1_kinds, .inl a1_kinds_a)), (h_t_held, .inl (cI, n_t_held, .inl t_held_a)), (h_a1_otherWords, .inl (cI, n_a1_otherWords, .inl a1_otherWords_a)), (h_a1_otherMasks, .inl (cI, n_a1_otherMasks, .inl a1_otherMasks_a))] sz)) 0 0 (va_A [(h_t, .inr (5, [.int t_words, v_t_bits, .ref h_t_held, v_t_faults, .int t_latest])), (h_a1, .inr (3, [.ref h_a1_kinds, .ref h_a1_victimWords, .ref h_a1_victimMasks, .ref h_a1_otherWords, .ref h_a1_otherMasks, .int a1_count, v_a1_touchedWords, v_a1_bits])), (h_a1_victimWords, .inl (cI, n_a1_victimWords, .inl a1_victimWords_a)), (h_a1_victimMasks, .inl (cI, n_a1_victimMasks, .inl a1_victimMasks_a)), (h_a1_kinds, .inl (cI, n_a1_kinds, .inl a1_kinds_a)), (h_t_held, .inl (cI, n_t_held, .inl t_held_a)), (h_a1_otherWords, .inl (cI, n_a1_otherWords, .inl a1_otherWords_a)), (h_a1_otherMasks, .inl (cI, n_a1_otherMasks, .inl a1_otherMasks_a))] sz) := by
  refine entW ⟨by decide +kernel, rfl⟩ fun p e s m below meth c C0 hP hD hsz ls hl => ?_
  subst hsz
  generalize hAe : va_A [(h_t, .inr (5, [.int t_words, v_t_bits, .ref h_t_held, v_t_faults, .int t_latest])), (h_a1, .inr (3, [.ref h_a1_kinds, .ref h_a1_victimWords, .ref h_a1_victimMasks, .ref h_a1_otherWords, .ref h_a1_otherMasks, .int a1_count, v_a1_touchedWords, v_a1_bits])), (h_a1_victimWords, .inl (cI, n_a1_victimWords, .inl a1_victimWords_a)), (h_a1_victimMasks, .inl (cI, n_a1_victimMasks, .inl a1_victimMasks_a)), (h_a1_kinds, .inl (cI, n_a1_kinds, .inl a1_kinds_a)), (h_t_held, .inl (cI, n_t_held, .inl t_held_a)), (h_a1_otherWords, .inl (cI, n_a1_otherWords, .inl a1_otherWords_a)), (h_a1_otherMasks, .inl (cI, n_a1_otherMasks, .inl a1_otherMasks_a))] s.heap.size = A at hD ⊢
  have hA : ∀ q : Nat, s.heap.size ≤ q → A q := fun q h => by rw [← hAe]; exact Or.inr h
  clear hAe
  have hS : va_S A s.heap s.heap [] := va_S.rf
  have hl : lv_has ls 3 [(0, .ref h_t), (1, .ref h_a1)] := hl
  obtain ⟨hx, hb, hml, hr, hlocks, hts, hown, hK, hin⟩ := id C0
  have hf : (((
  (lp (g_Memory_begin_12 n_a1_victimWords n_a1_victimMasks n_a1_kinds n_t_held n_a1_otherWords n_a1_otherMasks t_words 0 a1_count a1_victimWords_a a1_victimMasks_a a1_kinds_a a1_otherWords_a a1_otherMasks_a) 100000 (t_held_a, 0)))) : Option (Int32 × (Nat → Int32))) = some res := hf
  obtain ⟨H, hH⟩ : ∃ H, H = s.heap := ⟨_, rfl⟩
  obtain ⟨locs, hlo⟩ : ∃ x : List Loc, x = [] := ⟨_, rfl⟩
  rw [← hlo] at hS ⊢
  have hP : va_P D classes [(h_t, .inr (5, [.int t_words, v_t_bits, .ref h_t_held, v_t_faults, .int t_latest])), (h_a1, .inr (3, [.ref h_a1_kinds, .ref h_a1_victimWords, .ref h_a1_victimMasks, .ref h_a1_otherWords, .ref h_a1_otherMasks, .int a1_count, v_a1_touchedWords, v_a1_bits])), (h_a1_victimWords, .inl (cI, n_a1_victimWords, .inl a1_victimWords_a)), (h_a1_victimMasks, .inl (cI, n_a1_victimMasks, .inl a1_victimMasks_a)), (h_a1_kinds, .inl (cI, n_a1_kinds, .inl a1_kinds_a)), (h_t_held, .inl (cI, n_t_held, .inl t_held_a)), (h_a1_otherWords, .inl (cI, n_a1_otherWords, .inl a1_otherWords_a)), (h_a1_otherMasks, .inl (cI, n_a1_otherMasks, .inl a1_otherMasks_a))] H := by rw [hH]; exact hP
  have hS : va_S A s.heap H locs := by rw [hH]; exact hS
  show W p l e rm_Memory_begin s m _ below meth c s.heap locs 0 0 (MQ below (QW D (post_Memory_begin h_t h_a1 h_a1_victimWords h_a1_victimMasks h_a1_kinds h_t_held h_a1_otherWords h_a1_otherMasks v_t_bits v_t_faults v_a1_touchedWords v_a1_bits n_a1_victimWords n_a1_victimMasks n_a1_kinds n_t_held n_a1_otherWords n_a1_otherMasks t_words a1_count a1_victimWords_a a1_victimMasks_a a1_kinds_a a1_otherWords_a a1_otherMasks_a cI cB cJ res) A) _ s 0 0 A) (F0 m 0 ls [])
  refine wheap hH ?_
  clear hH hlo
  refine lv_aload_n hx hb d_Memory_begin_0 rfl (lv_at hl 0 rfl) ?_
  refine lv_aload_n hx hb d_Memory_begin_1 rfl (lv_at hl 1 rfl) ?_
  refine va_put (D := D) (ci := 5) (v := .ref h_a1) (ty := .object "MarchTests$FaultList") (C := R_Memory) (T := F_Memory) (N := 5) hx hb hts i_Memory t_Memory t_Memory_ok n_Memory hown hK.1 hP hD hS 0 rfl rfl 3 (by decide) (hts _ w_32) (fun _ h9 => h9) rfl (t_Memory_ok 3 (by decide)) rfl rfl (Nat.le_of_ble_eq_true rfl) d_Memory_begin_2 (fun H locs hP hD hS => ?_)
  have hP : va_P D classes [(h_t, .inr (5, [.int t_words, v_t_bits, .ref h_t_held, .ref h_a1, .int t_latest])), (h_a1, .inr (3, [.ref h_a1_kinds, .ref h_a1_victimWords, .ref h_a1_victimMasks, .ref h_a1_otherWords, .ref h_a1_otherMasks, .int a1_count, v_a1_touchedWords, v_a1_bits])), (h_a1_victimWords, .inl (cI, n_a1_victimWords, .inl a1_victimWords_a)), (h_a1_victimMasks, .inl (cI, n_a1_victimMasks, .inl a1_victimMasks_a)), (h_a1_kinds, .inl (cI, n_a1_kinds, .inl a1_kinds_a)), (h_t_held, .inl (cI, n_t_held, .inl t_held_a)), (h_a1_otherWords, .inl (cI, n_a1_otherWords, .inl a1_otherWords_a)), (h_a1_otherMasks, .inl (cI, n_a1_otherMasks, .inl a1_otherMasks_a))] H := hP
  have hD : va_D A [(h_t, .inr (5, [.int t_words, v_t_bits, .ref h_t_held, .ref h_a1, .int t_latest])), (h_a1, .inr (3, [.ref h_a1_kinds, .ref h_a1_victimWords, .ref h_a1_victimMasks, .ref h_a1_otherWords, .ref h_a1_otherMasks, .int a1_count, v_a1_touchedWords, v_a1_bits])), (h_a1_victimWords, .inl (cI, n_a1_victimWords, .inl a1_victimWords_a)), (h_a1_victimMasks, .inl (cI, n_a1_victimMasks, .inl a1_victimMasks_a)), (h_a1_kinds, .inl (cI, n_a1_kinds, .inl a1_kinds_a)), (h_t_held, .inl (cI, n_t_held, .inl t_held_a)), (h_a1_otherWords, .inl (cI, n_a1_otherWords, .inl a1_otherWords_a)), (h_a1_otherMasks, .inl (cI, n_a1_otherMasks, .inl a1_otherMasks_a))] := hD
  refine lv_aload_n hx hb d_Memory_begin_5 rfl (lv_at hl 0 rfl) ?_
  refine lv_iconst (v := 0) hx hb d_Memory_begin_6 (by decide) ?_
  refine va_put (D := D) (ci := 5) (v := .int 0) (ty := .int) (C := R_Memory) (T := F_Memory) (N := 5) hx hb hts i_Memory t_Memory t_Memory_ok n_Memory hown hK.1 hP hD hS 0 rfl rfl 4 (by decide) (hts _ w_221) (fun _ h9 => h9) rfl (t_Memory_ok 4 (by decide)) rfl rfl (Nat.le_of_ble_eq_true rfl) d_Memory_begin_7 (fun H locs hP hD hS => ?_)
  have hP : va_P D classes [(h_t, .inr (5, [.int t_words, v_t_bits, .ref h_t_held, .ref h_a1, .int 0])), (h_a1, .inr (3, [.ref h_a1_kinds, .ref h_a1_victimWords, .ref h_a1_victimMasks, .ref h_a1_otherWords, .ref h_a1_otherMasks, .int a1_count, v_a1_touchedWords, v_a1_bits])), (h_a1_victimWords, .inl (cI, n_a1_victimWords, .inl a1_victimWords_a)), (h_a1_victimMasks, .inl (cI, n_a1_victimMasks, .inl a1_victimMasks_a)), (h_a1_kinds, .inl (cI, n_a1_kinds, .inl a1_kinds_a)), (h_t_held, .inl (cI, n_t_held, .inl t_held_a)), (h_a1_otherWords, .inl (cI, n_a1_otherWords, .inl a1_otherWords_a)), (h_a1_otherMasks, .inl (cI, n_a1_otherMasks, .inl a1_otherMasks_a))] H := hP
  have hD : va_D A [(h_t, .inr (5, [.int t_words, v_t_bits, .ref h_t_held, .ref h_a1, .int 0])), (h_a1, .inr (3, [.ref h_a1_kinds, .ref h_a1_victimWords, .ref h_a1_victimMasks, .ref h_a1_otherWords, .ref h_a1_otherMasks, .int a1_count, v_a1_touchedWords, v_a1_bits])), (h_a1_victimWords, .inl (cI, n_a1_victimWords, .inl a1_victimWords_a)), (h_a1_victimMasks, .inl (cI, n_a1_victimMasks, .inl a1_victimMasks_a)), (h_a1_kinds, .inl (cI, n_a1_kinds, .inl a1_kinds_a)), (h_t_held, .inl (cI, n_t_held, .inl t_held_a)), (h_a1_otherWords, .inl (cI, n_a1_otherWords, .inl a1_otherWords_a)), (h_a1_otherMasks, .inl (cI, n_a1_otherMasks, .inl a1_otherMasks_a))] := hD
  refine lv_iconst (v := 0) hx hb d_Memory_begin_10 (by decide) ?_
  refine lv_istore_n (lv' := [(2, .int 0), (0, .ref h_t), (1, .ref h_a1)]) hx hb d_Memory_begin_11 rfl hl (by decide) rfl (fun ls hl => ?_)
  exact k_Memory_begin_12 (s := s) C0 hA _ (t_held_a, 0) hf  H locs ls hP hD hS (lv_sub hl [1, 0] rfl)
def g_Memory_rest_2 (n_t_faults_victimWords : Nat) (n_t_faults_victimMasks : Nat) (n_t_faults_kinds : Nat) (n_t_held : Nat) (n_t_faults_otherWords : Nat) (n_t_faults_otherMasks : Nat) (t_faults_count : Int32) (t_faults_victimWords_a : Nat → Int32) (t_faults_victimMasks_a : Nat → Int32) (t_faults_kinds_a : Nat → Int32) (t_faults_otherWords_a : Nat → Int32) (t_faults_otherMasks_a : Nat → Int32) (rec2 : ((Nat → Int32) × Int32) → Option ((Nat → Int32))) (st : ((Nat → Int32) × Int32)) : Option ((Nat → Int32)) :=
  (if t_faults_count ≤ st.2 then
    (Option.bind (f_Memory_settle n_t_faults_victimWords n_t_faults_victimMasks n_t_faults_kinds n_t_held n_t_faults_otherWords n_t_faults_otherMasks t_faults_count t_faults_victimWords_a t_faults_victimMasks_a t_faults_kinds_a st.1 t_faults_otherWords_a t_faults_otherMasks_a) fun q61_1 =>
    some q61_1)
  else
    (if inB st.2 n_t_faults_kinds = true then
    (if (t_faults_kinds_a (Int32.toNatClampNeg st.2)) = 5 then
      (if inB st.2 n_t_faults_victimWords = true then
      (if inB (t_faults_victimWords_a (Int32.toNatClampNeg st.2)) n_t_held = true then
      (if inB st.2 n_t_faults_victimMasks = true then
      (if inB (t_faults_victimWords_a (Int32.toNatClampNeg st.2)) n_t_held = true then
      (rec2 ((upd st.1 (Int32.toNatClampNeg (t_faults_victimWords_a (Int32.toNatClampNeg st.2))) ((st.1 (Int32.toNatClampNeg (t_faults_victimWords_a (Int32.toNatClampNeg st.2)))) &&& ((t_faults_victimMasks_a (Int32.toNatClampNeg st.2)) ^^^ (-1)))), (st.2 + 1)))
      else none)
      else none)
      else none)
      else none)
    else
      (rec2 (st.1, (st.2 + 1))))
    else none))
def f_Memory_rest (n_t_faults_victimWords : Nat) (n_t_faults_victimMasks : Nat) (n_t_faults_kinds : Nat) (n_t_held : Nat) (n_t_faults_otherWords : Nat) (n_t_faults_otherMasks : Nat) (t_faults_count : Int32) (t_faults_victimWords_a : Nat → Int32) (t_faults_victimMasks_a : Nat → Int32) (t_faults_kinds_a : Nat → Int32) (t_held_a : Nat → Int32) (t_faults_otherWords_a : Nat → Int32) (t_faults_otherMasks_a : Nat → Int32) : Option ((Nat → Int32)) :=
  (lp (g_Memory_rest_2 n_t_faults_victimWords n_t_faults_victimMasks n_t_faults_kinds n_t_held n_t_faults_otherWords n_t_faults_otherMasks t_faults_count t_faults_victimWords_a t_faults_victimMasks_a t_faults_kinds_a t_faults_otherWords_a t_faults_otherMasks_a) 100000 (t_held_a, 0))
def post_Memory_rest (h_t h_t_faults h_t_faults_victimWords h_t_faults_victimMasks h_t_faults_kinds h_t_held h_t_faults_otherWords h_t_faults_otherMasks : Nat) (v_t_words v_t_bits v_t_latest v_t_faults_touchedWords v_t_faults_bits : Value) (n_t_faults_victimWords : Nat) (n_t_faults_victimMasks : Nat) (n_t_faults_kinds : Nat) (n_t_held : Nat) (n_t_faults_otherWords : Nat) (n_t_faults_otherMasks : Nat) (t_faults_count : Int32) (t_faults_victimWords_a : Nat → Int32) (t_faults_victimMasks_a : Nat → Int32) (t_faults_kinds_a : Nat → Int32) (t_faults_otherWords_a : Nat → Int32) (t_faults_otherMasks_a : Nat → Int32) (cI cB cJ : ClassId) (res : (Nat → Int32)) : Option Value → va_W → Prop := fun o ws' => o = none ∧ ws' = [(h_t, .inr (5, [v_t_words, v_t_bits, .ref h_t_held, .ref h_t_faults, v_t_latest])), (h_t_faults, .inr (3, [.ref h_t_faults_kinds, .ref h_t_faults_victimWords, .ref h_t_faults_victimMasks, .ref h_t_faults_otherWords, .ref h_t_faults_otherMasks, .int t_faults_count, v_t_faults_touchedWords, v_t_faults_bits])), (h_t_faults_victimWords, .inl (cI, n_t_faults_victimWords, .inl t_faults_victimWords_a)), (h_t_faults_victimMasks, .inl (cI, n_t_faults_victimMasks, .inl t_faults_victimMasks_a)), (h_t_faults_kinds, .inl (cI, n_t_faults_kinds, .inl t_faults_kinds_a)), (h_t_held, .inl (cI, n_t_held, .inl res)), (h_t_faults_otherWords, .inl (cI, n_t_faults_otherWords, .inl t_faults_otherWords_a)), (h_t_faults_otherMasks, .inl (cI, n_t_faults_otherMasks, .inl t_faults_otherMasks_a))]
abbrev rm_Memory_rest : Room := { frames := 1, cells := 0, slots := 0, locals := 23 }
set_option maxHeartbeats 4000000 in
set_option maxRecDepth 100000 in
theorem kb_Memory_rest_2 {p : Program} {l : Launch} {e : Env} {s : State} {m : MethodId} {args : Array Value} {below : List Frame} {meth : Method} {c : Code} {D : va_G} {cI cB cJ : ClassId} {A : Nat → Prop} (C0 : CX p s m args meth c D [(cI, .int), (cB, .byte), (cJ, .long)] R_Memory b_Memory_rest 2 none "rest") (hA : ∀ q, s.heap.size ≤ q → A q) {h_t h_t_faults h_t_faults_victimWords h_t_faults_victimMasks h_t_faults_kinds h_t_held h_t_faults_otherWords h_t_faults_otherMasks : Nat} {v_t_words v_t_bits v_t_latest v_t_faults_touchedWords v_t_faults_bits : Value} {res : (Nat → Int32)} {rec2 : ((Nat → Int32) × Int32) → Option ((Nat → Int32))} {n_t_faults_victimWords : Nat} {n_t_faults_victimMasks : Nat} {n_t_faults_kinds : Nat} {n_t_held : Nat} {n_t_faults_otherWords : Nat} {n_t_faults_otherMasks : Nat} {t_faults_count : Int32} {t_faults_victimWords_a : Nat → Int32} {t_faults_victimMasks_a : Nat → Int32} {t_faults_kinds_a : Nat → Int32} {t_held_a : Nat → Int32} {t_faults_otherWords_a : Nat → Int32} {t_faults_otherMasks_a : Nat → Int32} {x1 : Int32}
    (hrec2 : ∀ (st : ((Nat → Int32) × Int32)), rec2 st = some res → ∀  (H : Heap) (locs : List Loc) (ls : Array Slot), va_P D classes [(h_t, .inr (5, [v_t_words, v_t_bits, .ref h_t_held, .ref h_t_faults, v_t_latest])), (h_t_faults, .inr (3, [.ref h_t_faults_kinds, .ref h_t_faults_victimWords, .ref h_t_faults_victimMasks, .ref h_t_faults_otherWords, .ref h_t_faults_otherMasks, .int t_faults_count, v_t_faults_touchedWords, v_t_faults_bits])), (h_t_faults_victimWords, .inl (cI, n_t_faults_victimWords, .inl t_faults_victimWords_a)), (h_t_faults_victimMasks, .inl (cI, n_t_faults_victimMasks, .inl t_faults_victimMasks_a)), (h_t_faults_kinds, .inl (cI, n_t_faults_kinds, .inl t_faults_kinds_a)), (h_t_held, .inl (cI, n_t_held, .inl st.1)), (h_t_faults_otherWords, .inl (cI, n_t_faults_otherWords, .inl t_faults_otherWords_a)), (h_t_faults_otherMasks, .inl (cI, n_t_faults_otherMasks, .inl t_faults_otherMasks_a))] H → va_D A [(h_t, .inr (5, [v_t_words, v_t_bits, .ref h_t_held, .ref h_t_faults, v_t_latest])), (h_t_faults, .inr (3, [.ref h_t_faults_kinds, .ref h_t_faults_victimWords, .ref h_t_faults_victimMasks, .ref h_t_faults_otherWords, .ref h_t_faults_otherMasks, .int t_faults_count, v_t_faults_touchedWords, v_t_faults_bits])), (h_t_faults_victimWords, .inl (cI, n_t_faults_victimWords, .inl t_faults_victimWords_a)), (h_t_faults_victimMasks, .inl (cI, n_t_faults_victimMasks, .inl t_faults_victimMasks_a)), (h_t_faults_kinds, .inl (cI, n_t_faults_kinds, .inl t_faults_kinds_a)), (h_t_held, .inl (cI, n_t_held, .inl st.1)), (h_t_faults_otherWords, .inl (cI, n_t_faults_otherWords, .inl t_faults_otherWords_a)), (h_t_faults_otherMasks, .inl (cI, n_t_faults_otherMasks, .inl t_faults_otherMasks_a))] → va_S A s.heap H locs → lv_has ls 2 [(0, .ref h_t), (1, .int st.2)] → W p l e rm_Memory_rest s m args below meth c H locs 0 0 (MQ below (QW D (post_Memory_rest h_t h_t_faults h_t_faults_victimWords h_t_faults_victimMasks h_t_faults_kinds h_t_held h_t_faults_otherWords h_t_faults_otherMasks v_t_words v_t_bits v_t_latest v_t_faults_touchedWords v_t_faults_bits n_t_faults_victimWords n_t_faults_victimMasks n_t_faults_kinds n_t_held n_t_faults_otherWords n_t_faults_otherMasks t_faults_count t_faults_victimWords_a t_faults_victimMasks_a t_faults_kinds_a t_faults_otherWords_a t_faults_otherMasks_a cI cB cJ res) A) args s 0 0 A) (F0 m 2 ls []))
    (hf : g_Memory_rest_2 n_t_faults_victimWords n_t_faults_victimMasks n_t_faults_kinds n_t_held n_t_faults_otherWords n_t_faults_otherMasks t_faults_count t_faults_victimWords_a t_faults_victimMasks_a t_faults_kinds_a t_faults_otherWords_a t_faults_otherMasks_a rec2 (t_held_a, x1) = some res) {H : Heap} {locs : List Loc} {ls : Array Slot} (hP : va_P D classes [(h_t, .inr (5, [v_t_words, v_t_bits, .ref h_t_held, .ref h_t_faults, v_t_latest])), (h_t_faults, .inr (3, [.ref h_t_faults_kinds, .ref h_t_faults_victimWords, .ref h_t_faults_victimMasks, .ref h_t_faults_otherWords, .ref h_t_faults_otherMasks, .int t_faults_count, v_t_faults_touchedWords, v_t_faults_bits])), (h_t_faults_victimWords, .inl (cI, n_t_faults_victimWords, .inl t_faults_victimWords_a)), (h_t_faults_victimMasks, .inl (cI, n_t_faults_victimMasks, .inl t_faults_victimMasks_a)), (h_t_faults_kinds, .inl (cI, n_t_faults_kinds, .inl t_faults_kinds_a)), (h_t_held, .inl (cI, n_t_held, .inl t_held_a)), (h_t_faults_otherWords, .inl (cI, n_t_faults_otherWords, .inl t_faults_otherWords_a)), (h_t_faults_otherMasks, .inl (cI, n_t_faults_otherMasks, .inl t_faults_otherMasks_a))] H) (hD : va_D A [(h_t, .inr (5, [v_t_words, v_t_bits, .ref h_t_held, .ref h_t_faults, v_t_latest])), (h_t_faults, .inr (3, [.ref h_t_faults_kinds, .ref h_t_faults_victimWords, .ref h_t_faults_victimMasks, .ref h_t_faults_otherWords, .ref h_t_faults_otherMasks, .int t_faults_count, v_t_faults_touchedWords, v_t_faults_bits])), (h_t_faults_victimWords, .inl (cI, n_t_faults_victimWords, .inl t_faults_victimWords_a)), (h_t_faults_victimMasks, .inl (cI, n_t_faults_victimMasks, .inl t_faults_victimMasks_a)), (h_t_faults_kinds, .inl (cI, n_t_faults_kinds, .inl t_faults_kinds_a)), (h_t_held, .inl (cI, n_t_held, .inl t_held_a)), (h_t_faults_otherWords, .inl (cI, n_t_faults_otherWords, .inl t_faults_otherWords_a)), (h_t_faults_otherMasks, .inl (cI, n_t_faults_otherMasks, .inl t_faults_otherMasks_a))]) (hS : va_S A s.heap H locs) (hl : lv_has ls 2 [(0, .ref h_t), (1, .int x1)]) : W p l e rm_Memory_rest s m args below meth c H locs 0 0 (MQ below (QW D (post_Memory_rest h_t h_t_faults h_t_faults_victimWords h_t_faults_victimMasks h_t_faults_kinds h_t_held h_t_faults_otherWords h_t_faults_otherMasks v_t_words v_t_bits v_t_latest v_t_faults_touchedWords v_t_faults_bits n_t_faults_victimWords n_t_faults_victimMasks n_t_faults_kinds n_t_held n_t_faults_otherWords n_t_faults_otherMasks t_faults_count t_faults_victimWords_a t_faults_victimMasks_a t_faults_kinds_a t_faults_otherWords_a t_faults_otherMasks_a cI cB cJ res) A) args s 0 0 A) (F0 m 2 ls []) := by
  obtain ⟨hx, hb, hml, hr, hlocks, hts, hown, hK, hin⟩ := id C0
  have hf : (((
  (if t_faults_count ≤ x1 then
    (Option.bind (f_Memory_settle n_t_faults_victimWords n_t_faults_victimMasks n_t_faults_kinds n_t_held n_t_faults_otherWords n_t_faults_otherMasks t_faults_count t_faults_victimWords_a t_faults_victimMasks_a t_faults_kinds_a t_held_a t_faults_otherWords_a t_faults_otherMasks_a) fun q61_1 =>
    some q61_1)
  else
    (if inB x1 n_t_faults_kinds = true then
    (if (t_faults_kinds_a (Int32.toNatClampNeg x1)) = 5 then
      (if inB x1 n_t_faults_victimWords = true then
      (if inB (t_faults_victimWords_a (Int32.toNatClampNeg x1)) n_t_held = true then
      (if inB x1 n_t_faults_victimMasks = true then
      (if inB (t_faults_victimWords_a (Int32.toNatClampNeg x1)) n_t_held = true then
      (rec2 ((upd t_held_a (Int32.toNatClampNeg (t_faults_victimWords_a (Int32.toNatClampNeg x1))) ((t_held_a (Int32.toNatClampNeg (t_faults_victimWords_a (Int32.toNatClampNeg x1)))) &&& ((t_faults_victimMasks_a (Int32.toNatClampNeg x1)) ^^^ (-1)))), (x1 + 1)))
      else none)
      else none)
      else none)
      else none)
    else
      (rec2 (t_held_a, (x1 + 1))))
    else none)))) : Option ((Nat → Int32))) = some res := hf
  refine lv_iload_n hx hb d_Memory_rest_2 rfl (lv_at hl 1 rfl) ?_
  refine lv_aload_n hx hb d_Memory_rest_3 rfl (lv_at hl 0 rfl) ?_
  refine va_get (D := D) (ci := 5) (v := .ref h_t_faults) (C := R_Memory) (T := F_Memory) (N := 5) hx hb hts i_Memory hown hK.1 hP 0 rfl rfl 3 (by decide) (hts _ w_32) (fun _ h9 => h9) rfl d_Memory_rest_4 ?_
  refine va_get (D := D) (ci := 3) (v := .int t_faults_count) (C := R_FaultList) (T := F_FaultList) (N := 8) hx hb hts i_FaultList hown hK.1 hP 1 rfl rfl 5 (by decide) (hts _ w_215) (fun _ h9 => h9) rfl d_Memory_rest_7 ?_
  refine lv_icmp_ge (tgt := 60) hx hb d_Memory_rest_10 (by decide) (fun cc10 => ?_) (fun cc10 => ?_)
  · have hf := ifT cc10 hf
    refine lv_aload_n hx hb d_Memory_rest_60 rfl (lv_at hl 0 rfl) ?_
    obtain ⟨q61_1, hc, hf⟩ := bindS hf
    refine mcV (n := 0) (As := []) (rest := []) (wr := []) hx hb hml hown hts hK (c_Memory_settle (l := l) (D := D) (cI := cI) (cB := cB) (cJ := cJ) (h_t := h_t) (h_t_faults := h_t_faults) (h_t_faults_victimWords := h_t_faults_victimWords) (h_t_faults_victimMasks := h_t_faults_victimMasks) (h_t_faults_kinds := h_t_faults_kinds) (h_t_held := h_t_held) (h_t_faults_otherWords := h_t_faults_otherWords) (h_t_faults_otherMasks := h_t_faults_otherMasks) (v_t_words := v_t_words) (v_t_bits := v_t_bits) (v_t_latest := v_t_latest) (v_t_faults_touchedWords := v_t_faults_touchedWords) (v_t_faults_bits := v_t_faults_bits) (n_t_faults_victimWords := n_t_faults_victimWords) (n_t_faults_victimMasks := n_t_faults_victimMasks) (n_t_faults_kinds := n_t_faults_kinds) (n_t_held := n_t_held) (n_t_faults_otherWords := n_t_faults_otherWords) (n_t_faults_otherMasks := n_t_faults_otherMasks) (t_faults_count := t_faults_count) (t_faults_victimWords_a := t_faults_victimWords_a) (t_faults_victimMasks_a := t_faults_victimMasks_a) (t_faults_kinds_a := t_faults_kinds_a) (t_held_a := t_held_a) (t_faults_otherWords_a := t_faults_otherWords_a) (t_faults_otherMasks_a := t_faults_otherMasks_a) (sz := H.size) (res := q61_1) (hf := hc)) w_222 w_223 w_224 w_41 w_225 (by decide +kernel) rfl rfl ⟨Nat.le_of_ble_eq_true rfl, Nat.le_of_ble_eq_true rfl⟩ hP hD hS hA [0, 1, 2, 3, 4, 5, 6, 7] [] rfl rfl (by decide) (by decide) (by decide) (ci := 5) 0 rfl rfl hl.1 rfl rfl (lv_room (Nat.le_of_ble_eq_true rfl)) d_Memory_rest_61 ⟨Nat.le_of_ble_eq_true rfl, Nat.le_of_ble_eq_true rfl⟩ (fun o ws' H locs hp hP hD hS => ?_)
    obtain ⟨rfl, rfl⟩ := hp
    have hP : va_P D classes [(h_t, .inr (5, [v_t_words, v_t_bits, .ref h_t_held, .ref h_t_faults, v_t_latest])), (h_t_faults, .inr (3, [.ref h_t_faults_kinds, .ref h_t_faults_victimWords, .ref h_t_faults_victimMasks, .ref h_t_faults_otherWords, .ref h_t_faults_otherMasks, .int t_faults_count, v_t_faults_touchedWords, v_t_faults_bits])), (h_t_faults_victimWords, .inl (cI, n_t_faults_victimWords, .inl t_faults_victimWords_a)), (h_t_faults_victimMasks, .inl (cI, n_t_faults_victimMasks, .inl t_faults_victimMasks_a)), (h_t_faults_kinds, .inl (cI, n_t_faults_kinds, .inl t_faults_kinds_a)), (h_t_held, .inl (cI, n_t_held, .inl q61_1)), (h_t_faults_otherWords, .inl (cI, n_t_faults_otherWords, .inl t_faults_otherWords_a)), (h_t_faults_otherMasks, .inl (cI, n_t_faults_otherMasks, .inl t_faults_otherMasks_a))] H := hP.sub [0, 1, 2, 3, 4, 5, 6, 7] rfl
    have hD : va_D A [(h_t, .inr (5, [v_t_words, v_t_bits, .ref h_t_held, .ref h_t_faults, v_t_latest])), (h_t_faults, .inr (3, [.ref h_t_faults_kinds, .ref h_t_faults_victimWords, .ref h_t_faults_victimMasks, .ref h_t_faults_otherWords, .ref h_t_faults_otherMasks, .int t_faults_count, v_t_faults_touchedWords, v_t_faults_bits])), (h_t_faults_victimWords, .inl (cI, n_t_faults_victimWords, .inl t_faults_victimWords_a)), (h_t_faults_victimMasks, .inl (cI, n_t_faults_victimMasks, .inl t_faults_victimMasks_a)), (h_t_faults_kinds, .inl (cI, n_t_faults_kinds, .inl t_faults_kinds_a)), (h_t_held, .inl (cI, n_t_held, .inl q61_1)), (h_t_faults_otherWords, .inl (cI, n_t_faults_otherWords, .inl t_faults_otherWords_a)), (h_t_faults_otherMasks, .inl (cI, n_t_faults_otherMasks, .inl t_faults_otherMasks_a))] := hD.sub [0, 1, 2, 3, 4, 5, 6, 7] (by decide) rfl
    obtain rfl := Option.some.inj hf
    exact ret_v hx hb hr hlocks hP hD hS ⟨rfl, rfl⟩ d_Memory_rest_64
  · have hf := ifF cc10 hf
    refine lv_aload_n hx hb d_Memory_rest_13 rfl (lv_at hl 0 rfl) ?_
    refine va_get (D := D) (ci := 5) (v := .ref h_t_faults) (C := R_Memory) (T := F_Memory) (N := 5) hx hb hts i_Memory hown hK.1 hP 0 rfl rfl 3 (by decide) (hts _ w_32) (fun _ h9 => h9) rfl d_Memory_rest_14 ?_
    refine va_get (D := D) (ci := 3) (v := .ref h_t_faults_kinds) (C := R_FaultList) (T := F_FaultList) (N := 8) hx hb hts i_FaultList hown hK.1 hP 1 rfl rfl 0 (by decide) (hts _ w_218) (fun _ h9 => h9) rfl d_Memory_rest_17 ?_
    refine lv_iload_n hx hb d_Memory_rest_20 rfl (lv_at hl 1 rfl) ?_
    obtain ⟨hin1, hf⟩ := ifG hf
    refine va_iald hx hb hK.1 hP 4 0 rfl rfl (inB_in hin1) d_Memory_rest_21 ?_
    refine lv_iconst (v := 5) hx hb d_Memory_rest_22 (by decide) ?_
    refine lv_icmp_ne (tgt := 54) hx hb d_Memory_rest_23 (by decide) (fun cc23 => ?_) (fun cc23 => ?_)
    · have hf := ifF cc23 hf
      refine lv_iinc (v := (x1 + 1)) (lv' := [(1, .int (x1 + 1)), (0, .ref h_t)]) hx hb d_Memory_rest_54 hl (k := 1) rfl rfl (by decide) rfl (fun ls hl => ?_)
      refine lv_goto (tgt := 2) hx hb d_Memory_rest_57 (by decide) ?_
      exact hrec2 (t_held_a, (x1 + 1)) hf  H locs ls hP hD hS (lv_sub hl [1, 0] rfl)
    · have hf := ifT cc23 hf
      refine lv_aload_n hx hb d_Memory_rest_26 rfl (lv_at hl 0 rfl) ?_
      refine va_get (D := D) (ci := 5) (v := .ref h_t_held) (C := R_Memory) (T := F_Memory) (N := 5) hx hb hts i_Memory hown hK.1 hP 0 rfl rfl 2 (by decide) (hts _ w_25) (fun _ h9 => h9) rfl d_Memory_rest_27 ?_
      refine lv_aload_n hx hb d_Memory_rest_30 rfl (lv_at hl 0 rfl) ?_
      refine va_get (D := D) (ci := 5) (v := .ref h_t_faults) (C := R_Memory) (T := F_Memory) (N := 5) hx hb hts i_Memory hown hK.1 hP 0 rfl rfl 3 (by decide) (hts _ w_32) (fun _ h9 => h9) rfl d_Memory_rest_31 ?_
      refine va_get (D := D) (ci := 3) (v := .ref h_t_faults_victimWords) (C := R_FaultList) (T := F_FaultList) (N := 8) hx hb hts i_FaultList hown hK.1 hP 1 rfl rfl 1 (by decide) (hts _ w_216) (fun _ h9 => h9) rfl d_Memory_rest_34 ?_
      refine lv_iload_n hx hb d_Memory_rest_37 rfl (lv_at hl 1 rfl) ?_
      obtain ⟨hin1, hf⟩ := ifG hf
      refine va_iald hx hb hK.1 hP 2 0 rfl rfl (inB_in hin1) d_Memory_rest_38 ?_
      refine lv_dup2_11 hx hb d_Memory_rest_39 rfl rfl ?_
      obtain ⟨hin1, hf⟩ := ifG hf
      refine va_iald hx hb hK.1 hP 5 0 rfl rfl (inB_in hin1) d_Memory_rest_40 ?_
      refine lv_aload_n hx hb d_Memory_rest_41 rfl (lv_at hl 0 rfl) ?_
      refine va_get (D := D) (ci := 5) (v := .ref h_t_faults) (C := R_Memory) (T := F_Memory) (N := 5) hx hb hts i_Memory hown hK.1 hP 0 rfl rfl 3 (by decide) (hts _ w_32) (fun _ h9 => h9) rfl d_Memory_rest_42 ?_
      refine va_get (D := D) (ci := 3) (v := .ref h_t_faults_victimMasks) (C := R_FaultList) (T := F_FaultList) (N := 8) hx hb hts i_FaultList hown hK.1 hP 1 rfl rfl 2 (by decide) (hts _ w_217) (fun _ h9 => h9) rfl d_Memory_rest_45 ?_
      refine lv_iload_n hx hb d_Memory_rest_48 rfl (lv_at hl 1 rfl) ?_
      obtain ⟨hin1, hf⟩ := ifG hf
      refine va_iald hx hb hK.1 hP 3 0 rfl rfl (inB_in hin1) d_Memory_rest_49 ?_
      refine lv_iconst (v := (-1)) hx hb d_Memory_rest_50 (by decide) ?_
      refine lv_ixor hx hb d_Memory_rest_51 ?_
      refine lv_iand hx hb d_Memory_rest_52 ?_
      obtain ⟨hin1, hf⟩ := ifG hf
      refine va_iast hx hb hK.1 hP hD hS 5 0 rfl rfl (inB_in hin1) d_Memory_rest_53 (fun H locs hP hD hS => ?_)
      have hP : va_P D classes [(h_t, .inr (5, [v_t_words, v_t_bits, .ref h_t_held, .ref h_t_faults, v_t_latest])), (h_t_faults, .inr (3, [.ref h_t_faults_kinds, .ref h_t_faults_victimWords, .ref h_t_faults_victimMasks, .ref h_t_faults_otherWords, .ref h_t_faults_otherMasks, .int t_faults_count, v_t_faults_touchedWords, v_t_faults_bits])), (h_t_faults_victimWords, .inl (cI, n_t_faults_victimWords, .inl t_faults_victimWords_a)), (h_t_faults_victimMasks, .inl (cI, n_t_faults_victimMasks, .inl t_faults_victimMasks_a)), (h_t_faults_kinds, .inl (cI, n_t_faults_kinds, .inl t_faults_kinds_a)), (h_t_held, .inl (cI, n_t_held, .inl (upd t_held_a (Int32.toNatClampNeg (t_faults_victimWords_a (Int32.toNatClampNeg x1))) ((t_held_a (Int32.toNatClampNeg (t_faults_victimWords_a (Int32.toNatClampNeg x1)))) &&& ((t_faults_victimMasks_a (Int32.toNatClampNeg x1)) ^^^ (-1)))))), (h_t_faults_otherWords, .inl (cI, n_t_faults_otherWords, .inl t_faults_otherWords_a)), (h_t_faults_otherMasks, .inl (cI, n_t_faults_otherMasks, .inl t_faults_otherMasks_a))] H := hP
      have hD : va_D A [(h_t, .inr (5, [v_t_words, v_t_bits, .ref h_t_held, .ref h_t_faults, v_t_latest])), (h_t_faults, .inr (3, [.ref h_t_faults_kinds, .ref h_t_faults_victimWords, .ref h_t_faults_victimMasks, .ref h_t_faults_otherWords, .ref h_t_faults_otherMasks, .int t_faults_count, v_t_faults_touchedWords, v_t_faults_bits])), (h_t_faults_victimWords, .inl (cI, n_t_faults_victimWords, .inl t_faults_victimWords_a)), (h_t_faults_victimMasks, .inl (cI, n_t_faults_victimMasks, .inl t_faults_victimMasks_a)), (h_t_faults_kinds, .inl (cI, n_t_faults_kinds, .inl t_faults_kinds_a)), (h_t_held, .inl (cI, n_t_held, .inl (upd t_held_a (Int32.toNatClampNeg (t_faults_victimWords_a (Int32.toNatClampNeg x1))) ((t_held_a (Int32.toNatClampNeg (t_faults_victimWords_a (Int32.toNatClampNeg x1)))) &&& ((t_faults_victimMasks_a (Int32.toNatClampNeg x1)) ^^^ (-1)))))), (h_t_faults_otherWords, .inl (cI, n_t_faults_otherWords, .inl t_faults_otherWords_a)), (h_t_faults_otherMasks, .inl (cI, n_t_faults_otherMasks, .inl t_faults_otherMasks_a))] := hD
      refine lv_iinc (v := (x1 + 1)) (lv' := [(1, .int (x1 + 1)), (0, .ref h_t)]) hx hb d_Memory_rest_54 hl (k := 1) rfl rfl (by decide) rfl (fun ls hl => ?_)
      refine lv_goto (tgt := 2) hx hb d_Memory_rest_57 (by decide) ?_
      exact hrec2 ((upd t_held_a (Int32.toNatClampNeg (t_faults_victimWords_a (Int32.toNatClampNeg x1))) ((t_held_a (Int32.toNatClampNeg (t_faults_victimWords_a (Int32.toNatClampNeg x1)))) &&& ((t_faults_victimMasks_a (Int32.toNatClampNeg x1)) ^^^ (-1)))), (x1 + 1)) hf  H locs ls hP hD hS (lv_sub hl [1, 0] rfl)
set_option maxHeartbeats 4000000 in
set_option maxRecDepth 100000 in
theorem k_Memory_rest_2 {p : Program} {l : Launch} {e : Env} {s : State} {m : MethodId} {args : Array Value} {below : List Frame} {meth : Method} {c : Code} {D : va_G} {cI cB cJ : ClassId} {A : Nat → Prop} (C0 : CX p s m args meth c D [(cI, .int), (cB, .byte), (cJ, .long)] R_Memory b_Memory_rest 2 none "rest") (hA : ∀ q, s.heap.size ≤ q → A q) {h_t h_t_faults h_t_faults_victimWords h_t_faults_victimMasks h_t_faults_kinds h_t_held h_t_faults_otherWords h_t_faults_otherMasks : Nat} {v_t_words v_t_bits v_t_latest v_t_faults_touchedWords v_t_faults_bits : Value} {res : (Nat → Int32)} {n_t_faults_victimWords : Nat} {n_t_faults_victimMasks : Nat} {n_t_faults_kinds : Nat} {n_t_held : Nat} {n_t_faults_otherWords : Nat} {n_t_faults_otherMasks : Nat} {t_faults_count : Int32} {t_faults_victimWords_a : Nat → Int32} {t_faults_victimMasks_a : Nat → Int32} {t_faults_kinds_a : Nat → Int32} {t_faults_otherWords_a : Nat → Int32} {t_faults_otherMasks_a : Nat → Int32}
    : ∀ (n : Nat) (st : ((Nat → Int32) × Int32)), lp (g_Memory_rest_2 n_t_faults_victimWords n_t_faults_victimMasks n_t_faults_kinds n_t_held n_t_faults_otherWords n_t_faults_otherMasks t_faults_count t_faults_victimWords_a t_faults_victimMasks_a t_faults_kinds_a t_faults_otherWords_a t_faults_otherMasks_a) n st = some res → ∀  (H : Heap) (locs : List Loc) (ls : Array Slot), va_P D classes [(h_t, .inr (5, [v_t_words, v_t_bits, .ref h_t_held, .ref h_t_faults, v_t_latest])), (h_t_faults, .inr (3, [.ref h_t_faults_kinds, .ref h_t_faults_victimWords, .ref h_t_faults_victimMasks, .ref h_t_faults_otherWords, .ref h_t_faults_otherMasks, .int t_faults_count, v_t_faults_touchedWords, v_t_faults_bits])), (h_t_faults_victimWords, .inl (cI, n_t_faults_victimWords, .inl t_faults_victimWords_a)), (h_t_faults_victimMasks, .inl (cI, n_t_faults_victimMasks, .inl t_faults_victimMasks_a)), (h_t_faults_kinds, .inl (cI, n_t_faults_kinds, .inl t_faults_kinds_a)), (h_t_held, .inl (cI, n_t_held, .inl st.1)), (h_t_faults_otherWords, .inl (cI, n_t_faults_otherWords, .inl t_faults_otherWords_a)), (h_t_faults_otherMasks, .inl (cI, n_t_faults_otherMasks, .inl t_faults_otherMasks_a))] H → va_D A [(h_t, .inr (5, [v_t_words, v_t_bits, .ref h_t_held, .ref h_t_faults, v_t_latest])), (h_t_faults, .inr (3, [.ref h_t_faults_kinds, .ref h_t_faults_victimWords, .ref h_t_faults_victimMasks, .ref h_t_faults_otherWords, .ref h_t_faults_otherMasks, .int t_faults_count, v_t_faults_touchedWords, v_t_faults_bits])), (h_t_faults_victimWords, .inl (cI, n_t_faults_victimWords, .inl t_faults_victimWords_a)), (h_t_faults_victimMasks, .inl (cI, n_t_faults_victimMasks, .inl t_faults_victimMasks_a)), (h_t_faults_kinds, .inl (cI, n_t_faults_kinds, .inl t_faults_kinds_a)), (h_t_held, .inl (cI, n_t_held, .inl st.1)), (h_t_faults_otherWords, .inl (cI, n_t_faults_otherWords, .inl t_faults_otherWords_a)), (h_t_faults_otherMasks, .inl (cI, n_t_faults_otherMasks, .inl t_faults_otherMasks_a))] → va_S A s.heap H locs → lv_has ls 2 [(0, .ref h_t), (1, .int st.2)] → W p l e rm_Memory_rest s m args below meth c H locs 0 0 (MQ below (QW D (post_Memory_rest h_t h_t_faults h_t_faults_victimWords h_t_faults_victimMasks h_t_faults_kinds h_t_held h_t_faults_otherWords h_t_faults_otherMasks v_t_words v_t_bits v_t_latest v_t_faults_touchedWords v_t_faults_bits n_t_faults_victimWords n_t_faults_victimMasks n_t_faults_kinds n_t_held n_t_faults_otherWords n_t_faults_otherMasks t_faults_count t_faults_victimWords_a t_faults_victimMasks_a t_faults_kinds_a t_faults_otherWords_a t_faults_otherMasks_a cI cB cJ res) A) args s 0 0 A) (F0 m 2 ls []) := by
  intro n
  induction n with
  | zero => intro st hf; exact absurd hf (by simp [lp])
  | succ n ih =>
    intro st hf  H locs ls hP hD hS hl
    exact kb_Memory_rest_2 C0 hA (rec2 := lp (g_Memory_rest_2 n_t_faults_victimWords n_t_faults_victimMasks n_t_faults_kinds n_t_held n_t_faults_otherWords n_t_faults_otherMasks t_faults_count t_faults_victimWords_a t_faults_victimMasks_a t_faults_kinds_a t_faults_otherWords_a t_faults_otherMasks_a) n) (t_held_a := st.1) (x1 := st.2)  (fun st hf  H locs ls hP hD hS hl => ih st hf  H locs ls hP hD hS hl) hf hP hD hS hl
set_option maxHeartbeats 4000000 in
set_option maxRecDepth 100000 in
theorem c_Memory_rest (l : Launch) (D : va_G) (cI cB cJ : ClassId) (h_t h_t_faults h_t_faults_victimWords h_t_faults_victimMasks h_t_faults_kinds h_t_held h_t_faults_otherWords h_t_faults_otherMasks : Nat) (v_t_words v_t_bits v_t_latest v_t_faults_touchedWords v_t_faults_bits : Value) (n_t_faults_victimWords : Nat) (n_t_faults_victimMasks : Nat) (n_t_faults_kinds : Nat) (n_t_held : Nat) (n_t_faults_otherWords : Nat) (n_t_faults_otherMasks : Nat) (t_faults_count : Int32) (t_faults_victimWords_a : Nat → Int32) (t_faults_victimMasks_a : Nat → Int32) (t_faults_kinds_a : Nat → Int32) (t_held_a : Nat → Int32) (t_faults_otherWords_a : Nat → Int32) (t_faults_otherMasks_a : Nat → Int32) (sz : Nat) (res : (Nat → Int32)) (hf : f_Memory_rest n_t_faults_victimWords n_t_faults_victimMasks n_t_faults_kinds n_t_held n_t_faults_otherWords n_t_faults_otherMasks t_faults_count t_faults_victimWords_a t_faults_victimMasks_a t_faults_kinds_a t_held_a t_faults_otherWords_a t_faults_otherMasks_a = some res) : Met l y_Memory_rest (.code y_Memory_rest b_Memory_rest 2 none :: TB) rm_Memory_rest (PcW D [(cI, .int), (cB, .byte), (cJ, .long)] [.ref h_t] [(h_t, .inr (5, [v_t_words, v_t_bits, .ref h_t_held, .ref h_t_faults, v_t_latest])), (h_t_faults, .inr (3, [.ref h_t_faults_kinds, .ref h_t_faults_victimWords, .ref h_t_faults_victimMasks, .ref h_t_faults_otherWords, .ref h_t_faults_otherMasks, .int t_faults_count, v_t_faults_touchedWords, v_t_faults_bits])), (h_t_faults_victimWords, .inl (cI, n_t_faults_victimWords, .inl t_faults_victimWords_a)), (h_t_faults_victimMasks, .inl (cI, n_t_faults_victimMasks, .inl t_faults_victimMasks_a)), (h_t_faults_kinds, .inl (cI, n_t_faults_kinds, .inl t_faults_kinds_a)), (h_t_held, .inl (cI, n_t_held, .inl t_held_a)), (h_t_faults_otherWords, .inl (cI, n_t_faults_otherWords, .inl t_faults_otherWords_a)), (h_t_faults_otherMasks, .inl (cI, n_t_faults_otherMasks, .inl t_faults_otherMasks_a))] sz) (QW D (post_Memory_rest h_t h_t_faults h_t_faults_victimWords h_t_faults_victimMasks h_t_faults_kinds h_t_held h_t_faults_otherWords h_t_faults_otherMasks v_t_words v_t_bits v_t_latest v_t_faults_touchedWords v_t_faults_bits n_t_faults_victimWords n_t_faults_victimMasks n_t_faults_kinds n_t_held n_t_faults_otherWords n_t_faults_otherMasks t_faults_count t_faults_victimWords_a t_faults_victimMasks_a t_faults_kinds_a t_faults_otherWords_a t_faults_otherMasks_a cI cB cJ res) (va_A [(h_t, .inr (5, [v_t_words, v_t_bits, .ref h_t_held, .ref h_t_faults, v_t_latest])), (h_t_faults, .inr (3, [.ref h_t_faults_kinds, .ref h_t_faults_victimWords, .ref h_t_faults_victimMasks, .ref h_t_faults_otherWords, .ref h_t_faults_otherMasks, .int t_faults_count, v_t_faults_touchedWords, v_t_faults_bits])), (h_t_faults_victimWords, .inl (cI, n_t_faults_victimWords, .inl t_faults_victimWords_a)), (h_t_faults_victimMasks, .inl (cI, n_t_faults_victimMasks, .inl t_faults_victimMasks_a)), (h_t_faults_kinds, .inl (cI, n_t_faults_kinds, .inl t_faults_kinds_a)), (h_t_held, .inl (cI, n_t_held, .inl t_held_a)), (h_t_faults_otherWords, .inl (cI, n_t_faults_otherWords, .inl t_faults_otherWords_a)), (h_t_faults_otherMasks, .inl (cI, n_t_faults_otherMasks, .inl t_faults_otherMasks_a))] sz)) 0 0 (va_A [(h_t, .inr (5, [v_t_words, v_t_bits, .ref h_t_held, .ref h_t_faults, v_t_latest])), (h_t_faults, .inr (3, [.ref h_t_faults_kinds, .ref h_t_faults_victimWords, .ref h_t_faults_victimMasks, .ref h_t_faults_otherWords, .ref h_t_faults_otherMasks, .int t_faults_count, v_t_faults_touchedWords, v_t_faults_bits])), (h_t_faults_victimWords, .inl (cI, n_t_faults_victimWords, .inl t_faults_victimWords_a)), (h_t_faults_victimMasks, .inl (cI, n_t_faults_victimMasks, .inl t_faults_victimMasks_a)), (h_t_faults_kinds, .inl (cI, n_t_faults_kinds, .inl t_faults_kinds_a)), (h_t_held, .inl (cI, n_t_held, .inl t_held_a)), (h_t_faults_otherWords, .inl (cI, n_t_faults_otherWords, .inl t_faults_otherWords_a)), (h_t_faults_otherMasks, .inl (cI, n_t_faults_otherMasks, .inl t_faults_otherMasks_a))] sz) := by
  refine entW ⟨by decide +kernel, rfl⟩ fun p e s m below meth c C0 hP hD hsz ls hl => ?_
  subst hsz
  generalize hAe : va_A [(h_t, .inr (5, [v_t_words, v_t_bits, .ref h_t_held, .ref h_t_faults, v_t_latest])), (h_t_faults, .inr (3, [.ref h_t_faults_kinds, .ref h_t_faults_victimWords, .ref h_t_faults_victimMasks, .ref h_t_faults_otherWords, .ref h_t_faults_otherMasks, .int t_faults_count, v_t_faults_touchedWords, v_t_faults_bits])), (h_t_faults_victimWords, .inl (cI, n_t_faults_victimWords, .inl t_faults_victimWords_a)), (h_t_faults_victimMasks, .inl (cI, n_t_faults_victimMasks, .inl t_faults_victimMasks_a)), (h_t_faults_kinds, .inl (cI, n_t_faults_kinds, .inl t_faults_kinds_a)), (h_t_held, .inl (cI, n_t_held, .inl t_held_a)), (h_t_faults_otherWords, .inl (cI, n_t_faults_otherWords, .inl t_faults_otherWords_a)), (h_t_faults_otherMasks, .inl (cI, n_t_faults_otherMasks, .inl t_faults_otherMasks_a))] s.heap.size = A at hD ⊢
  have hA : ∀ q : Nat, s.heap.size ≤ q → A q := fun q h => by rw [← hAe]; exact Or.inr h
  clear hAe
  have hS : va_S A s.heap s.heap [] := va_S.rf
  have hl : lv_has ls 2 [(0, .ref h_t)] := hl
  obtain ⟨hx, hb, hml, hr, hlocks, hts, hown, hK, hin⟩ := id C0
  have hf : (((
  (lp (g_Memory_rest_2 n_t_faults_victimWords n_t_faults_victimMasks n_t_faults_kinds n_t_held n_t_faults_otherWords n_t_faults_otherMasks t_faults_count t_faults_victimWords_a t_faults_victimMasks_a t_faults_kinds_a t_faults_otherWords_a t_faults_otherMasks_a) 100000 (t_held_a, 0)))) : Option ((Nat → Int32))) = some res := hf
  obtain ⟨H, hH⟩ : ∃ H, H = s.heap := ⟨_, rfl⟩
  obtain ⟨locs, hlo⟩ : ∃ x : List Loc, x = [] := ⟨_, rfl⟩
  rw [← hlo] at hS ⊢
  have hP : va_P D classes [(h_t, .inr (5, [v_t_words, v_t_bits, .ref h_t_held, .ref h_t_faults, v_t_latest])), (h_t_faults, .inr (3, [.ref h_t_faults_kinds, .ref h_t_faults_victimWords, .ref h_t_faults_victimMasks, .ref h_t_faults_otherWords, .ref h_t_faults_otherMasks, .int t_faults_count, v_t_faults_touchedWords, v_t_faults_bits])), (h_t_faults_victimWords, .inl (cI, n_t_faults_victimWords, .inl t_faults_victimWords_a)), (h_t_faults_victimMasks, .inl (cI, n_t_faults_victimMasks, .inl t_faults_victimMasks_a)), (h_t_faults_kinds, .inl (cI, n_t_faults_kinds, .inl t_faults_kinds_a)), (h_t_held, .inl (cI, n_t_held, .inl t_held_a)), (h_t_faults_otherWords, .inl (cI, n_t_faults_otherWords, .inl t_faults_otherWords_a)), (h_t_faults_otherMasks, .inl (cI, n_t_faults_otherMasks, .inl t_faults_otherMasks_a))] H := by rw [hH]; exact hP
  have hS : va_S A s.heap H locs := by rw [hH]; exact hS
  show W p l e rm_Memory_rest s m _ below meth c s.heap locs 0 0 (MQ below (QW D (post_Memory_rest h_t h_t_faults h_t_faults_victimWords h_t_faults_victimMasks h_t_faults_kinds h_t_held h_t_faults_otherWords h_t_faults_otherMasks v_t_words v_t_bits v_t_latest v_t_faults_touchedWords v_t_faults_bits n_t_faults_victimWords n_t_faults_victimMasks n_t_faults_kinds n_t_held n_t_faults_otherWords n_t_faults_otherMasks t_faults_count t_faults_victimWords_a t_faults_victimMasks_a t_faults_kinds_a t_faults_otherWords_a t_faults_otherMasks_a cI cB cJ res) A) _ s 0 0 A) (F0 m 0 ls [])
  refine wheap hH ?_
  clear hH hlo
  refine lv_iconst (v := 0) hx hb d_Memory_rest_0 (by decide) ?_
  refine lv_istore_n (lv' := [(1, .int 0), (0, .ref h_t)]) hx hb d_Memory_rest_1 rfl hl (by decide) rfl (fun ls hl => ?_)
  exact k_Memory_rest_2 (s := s) C0 hA _ (t_held_a, 0) hf  H locs ls hP hD hS (lv_sub hl [1, 0] rfl)
def f_FaultList_touches (t_touchedWords : Int32) (a1 : Int32) : Option (Int32) :=
  (if ((t_touchedWords >>> (a1 &&& 31)) &&& 1) = 0 then
    some 0
  else
    some 1)
def post_FaultList_touches (h_t : Nat) (v_t_kinds v_t_victimWords v_t_victimMasks v_t_otherWords v_t_otherMasks v_t_count v_t_bits : Value) (t_touchedWords : Int32) (cI cB cJ : ClassId) (res : Int32) : Option Value → va_W → Prop := fun o ws' => o = some (.int res) ∧ ws' = [(h_t, .inr (3, [v_t_kinds, v_t_victimWords, v_t_victimMasks, v_t_otherWords, v_t_otherMasks, v_t_count, .int t_touchedWords, v_t_bits]))]
abbrev rm_FaultList_touches : Room := { frames := 0, cells := 0, slots := 0, locals := 0 }
set_option maxHeartbeats 4000000 in
set_option maxRecDepth 100000 in
theorem c_FaultList_touches (l : Launch) (D : va_G) (cI cB cJ : ClassId) (h_t : Nat) (v_t_kinds v_t_victimWords v_t_victimMasks v_t_otherWords v_t_otherMasks v_t_count v_t_bits : Value) (t_touchedWords : Int32) (a1 : Int32) (sz : Nat) (res : Int32) (hf : f_FaultList_touches t_touchedWords a1 = some res) : Met l y_FaultList_touches (.code y_FaultList_touches b_FaultList_touches 2 (some .boolean) :: TB) rm_FaultList_touches (PcW D [(cI, .int), (cB, .byte), (cJ, .long)] [.ref h_t, .int a1] [(h_t, .inr (3, [v_t_kinds, v_t_victimWords, v_t_victimMasks, v_t_otherWords, v_t_otherMasks, v_t_count, .int t_touchedWords, v_t_bits]))] sz) (QW D (post_FaultList_touches h_t v_t_kinds v_t_victimWords v_t_victimMasks v_t_otherWords v_t_otherMasks v_t_count v_t_bits t_touchedWords cI cB cJ res) (va_A [(h_t, .inr (3, [v_t_kinds, v_t_victimWords, v_t_victimMasks, v_t_otherWords, v_t_otherMasks, v_t_count, .int t_touchedWords, v_t_bits]))] sz)) 0 0 (va_A [(h_t, .inr (3, [v_t_kinds, v_t_victimWords, v_t_victimMasks, v_t_otherWords, v_t_otherMasks, v_t_count, .int t_touchedWords, v_t_bits]))] sz) := by
  refine entW ⟨by decide +kernel, rfl⟩ fun p e s m below meth c C0 hP hD hsz ls hl => ?_
  subst hsz
  generalize hAe : va_A [(h_t, .inr (3, [v_t_kinds, v_t_victimWords, v_t_victimMasks, v_t_otherWords, v_t_otherMasks, v_t_count, .int t_touchedWords, v_t_bits]))] s.heap.size = A at hD ⊢
  have hA : ∀ q : Nat, s.heap.size ≤ q → A q := fun q h => by rw [← hAe]; exact Or.inr h
  clear hAe
  have hS : va_S A s.heap s.heap [] := va_S.rf
  have hl : lv_has ls 2 [(0, .ref h_t), (1, .int a1)] := hl
  obtain ⟨hx, hb, hml, hr, hlocks, hts, hown, hK, hin⟩ := id C0
  have hf : (((
  (if ((t_touchedWords >>> (a1 &&& 31)) &&& 1) = 0 then
    some 0
  else
    some 1))) : Option (Int32)) = some res := hf
  obtain ⟨H, hH⟩ : ∃ H, H = s.heap := ⟨_, rfl⟩
  obtain ⟨locs, hlo⟩ : ∃ x : List Loc, x = [] := ⟨_, rfl⟩
  rw [← hlo] at hS ⊢
  have hP : va_P D classes [(h_t, .inr (3, [v_t_kinds, v_t_victimWords, v_t_victimMasks, v_t_otherWords, v_t_otherMasks, v_t_count, .int t_touchedWords, v_t_bits]))] H := by rw [hH]; exact hP
  have hS : va_S A s.heap H locs := by rw [hH]; exact hS
  show W p l e rm_FaultList_touches s m _ below meth c s.heap locs 0 0 (MQ below (QW D (post_FaultList_touches h_t v_t_kinds v_t_victimWords v_t_victimMasks v_t_otherWords v_t_otherMasks v_t_count v_t_bits t_touchedWords cI cB cJ res) A) _ s 0 0 A) (F0 m 0 ls [])
  refine wheap hH ?_
  clear hH hlo
  refine lv_aload_n hx hb d_FaultList_touches_0 rfl (lv_at hl 0 rfl) ?_
  refine va_get (D := D) (ci := 3) (v := .int t_touchedWords) (C := R_FaultList) (T := F_FaultList) (N := 8) hx hb hts i_FaultList hown hK.1 hP 0 rfl rfl 6 (by decide) (hts _ w_184) (fun _ h9 => h9) rfl d_FaultList_touches_1 ?_
  refine lv_iload_n hx hb d_FaultList_touches_4 rfl (lv_at hl 1 rfl) ?_
  refine lv_ishr hx hb d_FaultList_touches_5 ?_
  refine lv_iconst (v := 1) hx hb d_FaultList_touches_6 (by decide) ?_
  refine lv_iand hx hb d_FaultList_touches_7 ?_
  refine lv_if_eq (tgt := 15) hx hb d_FaultList_touches_8 (by decide) (fun cc8 => ?_) (fun cc8 => ?_)
  · have hf := ifT cc8 hf
    refine lv_iconst (v := 0) hx hb d_FaultList_touches_15 (by decide) ?_
    obtain rfl := Option.some.inj hf
    exact ret_z hx hb hr rfl hlocks hP hD hS ⟨rfl, rfl⟩ d_FaultList_touches_16
  · have hf := ifF cc8 hf
    refine lv_iconst (v := 1) hx hb d_FaultList_touches_11 (by decide) ?_
    refine lv_goto (tgt := 16) hx hb d_FaultList_touches_12 (by decide) ?_
    obtain rfl := Option.some.inj hf
    exact ret_z hx hb hr rfl hlocks hP hD hS ⟨rfl, rfl⟩ d_FaultList_touches_16
