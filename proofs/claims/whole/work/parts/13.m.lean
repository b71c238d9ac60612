def f_FaultList_isVictim (n_t_victimWords : Nat) (n_t_victimMasks : Nat) (t_victimWords_a : Nat → Int32) (t_victimMasks_a : Nat → Int32) (a1 : Int32) (a2 : Int32) (a3 : Int32) : Option (Int32) :=
  (if inB a1 n_t_victimWords = true then
  (if (t_victimWords_a (Int32.toNatClampNeg a1)) = a2 then
    (if inB a1 n_t_victimMasks = true then
    (if (t_victimMasks_a (Int32.toNatClampNeg a1)) = a3 then
      some 1
    else
      some 0)
    else none)
  else
    some 0)
  else none)
def post_FaultList_isVictim (h_t h_t_victimWords h_t_victimMasks : Nat) (v_t_kinds v_t_otherWords v_t_otherMasks v_t_count v_t_touchedWords v_t_bits : Value) (n_t_victimWords : Nat) (n_t_victimMasks : Nat) (t_victimWords_a : Nat → Int32) (t_victimMasks_a : Nat → Int32) (cI cB cJ : ClassId) (res : Int32) : Option Value → va_W → Prop := fun o ws' => o = some (.int res) ∧ ws' = [(h_t, .inr (3, [v_t_kinds, .ref h_t_victimWords, .ref h_t_victimMasks, v_t_otherWords, v_t_otherMasks, v_t_count, v_t_touchedWords, v_t_bits])), (h_t_victimWords, .inl (cI, n_t_victimWords, .inl t_victimWords_a)), (h_t_victimMasks, .inl (cI, n_t_victimMasks, .inl t_victimMasks_a))]
abbrev rm_FaultList_isVictim : Room := { frames := 0, cells := 0, slots := 0, locals := 0 }
set_option maxHeartbeats 4000000 in
set_option maxRecDepth 100000 in
theorem c_FaultList_isVictim (l : Launch) (D : va_G) (cI cB cJ : ClassId) (h_t h_t_victimWords h_t_victimMasks : Nat) (v_t_kinds v_t_otherWords v_t_otherMasks v_t_count v_t_touchedWords v_t_bits : Value) (n_t_victimWords : Nat) (n_t_victimMasks : Nat) (t_victimWords_a : Nat → Int32) (t_victimMasks_a : Nat → Int32) (a1 : Int32) (a2 : Int32) (a3 : Int32) (sz : Nat) (res : Int32) (hf : f_FaultList_isVictim n_t_victimWords n_t_victimMasks t_victimWords_a t_victimMasks_a a1 a2 a3 = some res) : Met l y_FaultList_isVictim (.code y_FaultList_isVictim b_FaultList_isVictim 4 (some .boolean) :: TB) rm_FaultList_isVictim (PcW D [(cI, .int), (cB, .byte), (cJ, .long)] [.ref h_t, .int a1, .int a2, .int a3] [(h_t, .inr (3, [v_t_kinds, .ref h_t_victimWords, .ref h_t_victimMasks, v_t_otherWords, v_t_otherMasks, v_t_count, v_t_touchedWords, v_t_bits])), (h_t_victimWords, .inl (cI, n_t_victimWords, .inl t_victimWords_a)), (h_t_victimMasks, .inl (cI, n_t_victimMasks, .inl t_victimMasks_a))] sz) (QW D (post_FaultList_isVictim h_t h_t_victimWords h_t_victimMasks v_t_kinds v_t_otherWords v_t_otherMasks v_t_count v_t_touchedWords v_t_bits n_t_victimWords n_t_victimMasks t_victimWords_a t_victimMasks_a cI cB cJ res) (va_A [(h_t, .inr (3, [v_t_kinds, .ref h_t_victimWords, .ref h_t_victimMasks, v_t_otherWords, v_t_otherMasks, v_t_count, v_t_touchedWords, v_t_bits])), (h_t_victimWords, .inl (cI, n_t_victimWords, .inl t_victimWords_a)), (h_t_victimMasks, .inl (cI, n_t_victimMasks, .inl t_victimMasks_a))] sz)) 0 0 (va_A [(h_t, .inr (3, [v_t_kinds, .ref h_t_victimWords, .ref h_t_victimMasks, v_t_otherWords, v_t_otherMasks, v_t_count, v_t_touchedWords, v_t_bits])), (h_t_victimWords, .inl (cI, n_t_victimWords, .inl t_victimWords_a)), (h_t_victimMasks, .inl (cI, n_t_victimMasks, .inl t_victimMasks_a))] sz) := by
  refine entW ⟨by decide +kernel, rfl⟩ fun p e s m below meth c C0 hP hD hsz ls hl => ?_
  subst hsz
  generalize hAe : va_A [(h_t, .inr (3, [v_t_kinds, .ref h_t_victimWords, .ref h_t_victimMasks, v_t_otherWords, v_t_otherMasks, v_t_count, v_t_touchedWords, v_t_bits])), (h_t_victimWords, .inl (cI, n_t_victimWords, .inl t_victimWords_a)), (h_t_victimMasks, .inl (cI, n_t_victimMasks, .inl t_victimMasks_a))] s.heap.size = A at hD ⊢
  have hA : ∀ q : Nat, s.heap.size ≤ q → A q := fun q h => by rw [← hAe]; exact Or.inr h
  clear hAe
  have hS : va_S A s.heap s.heap [] := va_S.rf
  have hl : lv_has ls 4 [(0, .ref h_t), (1, .int a1), (2, .int a2), (3, .int a3)] := hl
  obtain ⟨hx, hb, hml, hr, hlocks, hts, hown, hK, hin⟩ := id C0
  have hf : (((
  (if inB a1 n_t_victimWords = true then
  (if (t_victimWords_a (Int32.toNatClampNeg a1)) = a2 then
    (if inB a1 n_t_victimMasks = true then
    (if (t_victimMasks_a (Int32.toNatClampNeg a1)) = a3 then
      some 1
    else
      some 0)
    else none)
  else
    some 0)
  else none))) : Option (Int32)) = some res := hf
  obtain ⟨H, hH⟩ : ∃ H, H = s.heap := ⟨_, rfl⟩
  obtain ⟨locs, hlo⟩ : ∃ x : List Loc, x = [] := ⟨_, rfl⟩
  rw [← hlo] at hS ⊢
  have hP : va_P D classes [(h_t, .inr (3, [v_t_kinds, .ref h_t_victimWords, .ref h_t_victimMasks, v_t_otherWords, v_t_otherMasks, v_t_count, v_t_touchedWords, v_t_bits])), (h_t_victimWords, .inl (cI, n_t_victimWords, .inl t_victimWords_a)), (h_t_victimMasks, .inl (cI, n_t_victimMasks, .inl t_victimMasks_a))] H := by rw [hH]; exact hP
  have hS : va_S A s.heap H locs := by rw [hH]; exact hS
  show W p l e rm_FaultList_isVictim s m _ below meth c s.heap locs 0 0 (MQ below (QW D (post_FaultList_isVictim h_t h_t_victimWords h_t_victimMasks v_t_kinds v_t_otherWords v_t_otherMasks v_t_count v_t_touchedWords v_t_bits n_t_victimWords n_t_victimMasks t_victimWords_a t_victimMasks_a cI cB cJ res) A) _ s 0 0 A) (F0 m 0 ls [])
  refine wheap hH ?_
  clear hH hlo
  refine lv_aload_n hx hb d_FaultList_isVictim_0 rfl (lv_at hl 0 rfl) ?_
  refine va_get (D := D) (ci := 3) (v := .ref h_t_victimWords) (C := R_FaultList) (T := F_FaultList) (N := 8) hx hb hts i_FaultList hown hK.1 hP 0 rfl rfl 1 (by decide) (hts _ w_12) (fun _ h9 => h9) rfl d_FaultList_isVictim_1 ?_
  refine lv_iload_n hx hb d_FaultList_isVictim_4 rfl (lv_at hl 1 rfl) ?_
  obtain ⟨hin1, hf⟩ := ifG hf
  refine va_iald hx hb hK.1 hP 1 0 rfl rfl (inB_in hin1) d_FaultList_isVictim_5 ?_
  refine lv_iload_n hx hb d_FaultList_isVictim_6 rfl (lv_at hl 2 rfl) ?_
  refine lv_icmp_ne (tgt := 24) hx hb d_FaultList_isVictim_7 (by decide) (fun cc7 => ?_) (fun cc7 => ?_)
  · have hf := ifF cc7 hf
    refine lv_iconst (v := 0) hx hb d_FaultList_isVictim_24 (by decide) ?_
    obtain rfl := Option.some.inj hf
    exact ret_z hx hb hr rfl hlocks hP hD hS ⟨rfl, rfl⟩ d_FaultList_isVictim_25
  · have hf := ifT cc7 hf
    refine lv_aload_n hx hb d_FaultList_isVictim_10 rfl (lv_at hl 0 rfl) ?_
    refine va_get (D := D) (ci := 3) (v := .ref h_t_victimMasks) (C := R_FaultList) (T := F_FaultList) (N := 8) hx hb hts i_FaultList hown hK.1 hP 0 rfl rfl 2 (by decide) (hts _ w_13) (fun _ h9 => h9) rfl d_FaultList_isVictim_11 ?_
    refine lv_iload_n hx hb d_FaultList_isVictim_14 rfl (lv_at hl 1 rfl) ?_
    obtain ⟨hin1, hf⟩ := ifG hf
    refine va_iald hx hb hK.1 hP 2 0 rfl rfl (inB_in hin1) d_FaultList_isVictim_15 ?_
    refine lv_iload_n hx hb d_FaultList_isVictim_16 rfl (lv_at hl 3 rfl) ?_
    refine lv_icmp_ne (tgt := 24) hx hb d_FaultList_isVictim_17 (by decide) (fun cc17 => ?_) (fun cc17 => ?_)
    · have hf := ifF cc17 hf
      refine lv_iconst (v := 0) hx hb d_FaultList_isVictim_24 (by decide) ?_
      obtain rfl := Option.some.inj hf
      exact ret_z hx hb hr rfl hlocks hP hD hS ⟨rfl, rfl⟩ d_FaultList_isVictim_25
    · have hf := ifT cc17 hf
      refine lv_iconst (v := 1) hx hb d_FaultList_isVictim_20 (by decide) ?_
      refine lv_goto (tgt := 25) hx hb d_FaultList_isVictim_21 (by decide) ?_
      obtain rfl := Option.some.inj hf
      exact ret_z hx hb hr rfl hlocks hP hD hS ⟨rfl, rfl⟩ d_FaultList_isVictim_25
def f_Memory_struckValue (a1 : Int32) (a2 : Int32) (a3 : Int32) (a4 : Int32) (a5 : Int32) : Option (Int32) :=
  (if a1 = 0 then
    some 0
  else
    (if a1 = 1 then
      some a2
    else
      (if a1 = 2 then
        (if a4 = 0 then
          some 0
        else
          some a5)
      else
        (if a1 = 3 then
          (if a4 = 0 then
            some a5
          else
            some a2)
        else
          (if a1 = 4 then
            some a4
          else
            (if a1 = 5 then
              some a5
            else
              (if a1 = 6 then
                some a5
              else
                (if a1 = 7 then
                  some a5
                else
                  (if a1 = 8 then
                    some a5
                  else
                    (if a1 = 9 then
                      (if a3 = a4 then
                        some (a4 ^^^ a2)
                      else
                        some a5)
                    else
                      some a5))))))))))
def post_Memory_struckValue (cI cB cJ : ClassId) (res : Int32) : Option Value → va_W → Prop := fun o ws' => o = some (.int res) ∧ ws' = []
abbrev rm_Memory_struckValue : Room := { frames := 0, cells := 0, slots := 0, locals := 0 }
set_option maxHeartbeats 4000000 in
set_option maxRecDepth 100000 in
theorem c_Memory_struckValue (l : Launch) (D : va_G) (cI cB cJ : ClassId)   (a1 : Int32) (a2 : Int32) (a3 : Int32) (a4 : Int32) (a5 : Int32) (sz : Nat) (res : Int32) (hf : f_Memory_struckValue a1 a2 a3 a4 a5 = some res) : Met l y_Memory_struckValue (.code y_Memory_struckValue b_Memory_struckValue 5 (some .int) :: TB) rm_Memory_struckValue (PcW D [(cI, .int), (cB, .byte), (cJ, .long)] [.int a1, .int a2, .int a3, .int a4, .int a5] [] sz) (QW D (post_Memory_struckValue cI cB cJ res) (va_A [] sz)) 0 0 (va_A [] sz) := by
  refine entW ⟨by decide +kernel, rfl⟩ fun p e s m below meth c C0 hP hD hsz ls hl => ?_
  subst hsz
  generalize hAe : va_A [] s.heap.size = A at hD ⊢
  have hA : ∀ q : Nat, s.heap.size ≤ q → A q := fun q h => by rw [← hAe]; exact Or.inr h
  clear hAe
  have hS : va_S A s.heap s.heap [] := va_S.rf
  have hl : lv_has ls 5 [(0, .int a1), (1, .int a2), (2, .int a3), (3, .int a4), (4, .int a5)] := hl
  obtain ⟨hx, hb, hml, hr, hlocks, hts, hown, hK, hin⟩ := id C0
  have hf : (((
  (if a1 = 0 then
    some 0
  else
    (if a1 = 1 then
      some a2
    else
      (if a1 = 2 then
        (if a4 = 0 then
          some 0
        else
          some a5)
      else
        (if a1 = 3 then
          (if a4 = 0 then
            some a5
          else
            some a2)
        else
          (if a1 = 4 then
            some a4
          else
            (if a1 = 5 then
              some a5
            else
              (if a1 = 6 then
                some a5
              else
                (if a1 = 7 then
                  some a5
                else
                  (if a1 = 8 then
                    some a5
                  else
                    (if a1 = 9 then
                      (if a3 = a4 then
                        some (a4 ^^^ a2)
                      else
                        some a5)
                    else
                      some a5)))))))))))) : Option (Int32)) = some res := hf
  obtain ⟨H, hH⟩ : ∃ H, H = s.heap := ⟨_, rfl⟩
  obtain ⟨locs, hlo⟩ : ∃ x : List Loc, x = [] := ⟨_, rfl⟩
  rw [← hlo] at hS ⊢
  have hP : va_P D classes [] H := by rw [hH]; exact hP
  have hS : va_S A s.heap H locs := by rw [hH]; exact hS
  show W p l e rm_Memory_struckValue s m _ below meth c s.heap locs 0 0 (MQ below (QW D (post_Memory_struckValue cI cB cJ res) A) _ s 0 0 A) (F0 m 0 ls [])
  refine wheap hH ?_
  clear hH hlo
  refine lv_iload_n hx hb d_Memory_struckValue_0 rfl (lv_at hl 0 rfl) ?_
  by_cases cs : a1 = 0
  · have hf := ifT cs hf
    refine lv_tableIn (off := 55) (tgt := 56) hx hb d_Memory_struckValue_1 (by rw [cs]; decide) (by rw [cs]; decide) (by rw [cs] <;> rfl) (by decide) ?_
    refine lv_iconst (v := 0) hx hb d_Memory_struckValue_56 (by decide) ?_
    obtain rfl := Option.some.inj hf
    exact ret_i hx hb hr hlocks hP hD hS ⟨rfl, rfl⟩ d_Memory_struckValue_57
  · have hf := ifF cs hf
    have cs0 := cs
    by_cases cs : a1 = 1
    · have hf := ifT cs hf
      refine lv_tableIn (off := 57) (tgt := 58) hx hb d_Memory_struckValue_1 (by rw [cs]; decide) (by rw [cs]; decide) (by rw [cs] <;> rfl) (by decide) ?_
      refine lv_iload_n hx hb d_Memory_struckValue_58 rfl (lv_at hl 1 rfl) ?_
      obtain rfl := Option.some.inj hf
      exact ret_i hx hb hr hlocks hP hD hS ⟨rfl, rfl⟩ d_Memory_struckValue_59
    · have hf := ifF cs hf
      have cs1 := cs
      by_cases cs : a1 = 2
      · have hf := ifT cs hf
        refine lv_tableIn (off := 59) (tgt := 60) hx hb d_Memory_struckValue_1 (by rw [cs]; decide) (by rw [cs]; decide) (by rw [cs] <;> rfl) (by decide) ?_
        refine lv_iload_n hx hb d_Memory_struckValue_60 rfl (lv_at hl 3 rfl) ?_
        refine lv_if_ne (tgt := 68) hx hb d_Memory_struckValue_61 (by decide) (fun cc61 => ?_) (fun cc61 => ?_)
        · have hf := ifF cc61 hf
          refine lv_iload hx hb d_Memory_struckValue_68 (lv_at hl 4 rfl) ?_
          obtain rfl := Option.some.inj hf
          exact ret_i hx hb hr hlocks hP hD hS ⟨rfl, rfl⟩ d_Memory_struckValue_70
        · have hf := ifT cc61 hf
          refine lv_iconst (v := 0) hx hb d_Memory_struckValue_64 (by decide) ?_
          refine lv_goto (tgt := 70) hx hb d_Memory_struckValue_65 (by decide) ?_
          obtain rfl := Option.some.inj hf
          exact ret_i hx hb hr hlocks hP hD hS ⟨rfl, rfl⟩ d_Memory_struckValue_70
      · have hf := ifF cs hf
        have cs2 := cs
        by_cases cs : a1 = 3
        · have hf := ifT cs hf
          refine lv_tableIn (off := 70) (tgt := 71) hx hb d_Memory_struckValue_1 (by rw [cs]; decide) (by rw [cs]; decide) (by rw [cs] <;> rfl) (by decide) ?_
          refine lv_iload_n hx hb d_Memory_struckValue_71 rfl (lv_at hl 3 rfl) ?_
          refine lv_if_eq (tgt := 79) hx hb d_Memory_struckValue_72 (by decide) (fun cc72 => ?_) (fun cc72 => ?_)
          · have hf := ifT cc72 hf
            refine lv_iload hx hb d_Memory_struckValue_79 (lv_at hl 4 rfl) ?_
            obtain rfl := Option.some.inj hf
            exact ret_i hx hb hr hlocks hP hD hS ⟨rfl, rfl⟩ d_Memory_struckValue_81
          · have hf := ifF cc72 hf
            refine lv_iload_n hx hb d_Memory_struckValue_75 rfl (lv_at hl 1 rfl) ?_
            refine lv_goto (tgt := 81) hx hb d_Memory_struckValue_76 (by decide) ?_
            obtain rfl := Option.some.inj hf
            exact ret_i hx hb hr hlocks hP hD hS ⟨rfl, rfl⟩ d_Memory_struckValue_81
        · have hf := ifF cs hf
          have cs3 := cs
          by_cases cs : a1 = 4
          · have hf := ifT cs hf
            refine lv_tableIn (off := 81) (tgt := 82) hx hb d_Memory_struckValue_1 (by rw [cs]; decide) (by rw [cs]; decide) (by rw [cs] <;> rfl) (by decide) ?_
            refine lv_iload_n hx hb d_Memory_struckValue_82 rfl (lv_at hl 3 rfl) ?_
            obtain rfl := Option.some.inj hf
            exact ret_i hx hb hr hlocks hP hD hS ⟨rfl, rfl⟩ d_Memory_struckValue_83
          · have hf := ifF cs hf
            have cs4 := cs
            by_cases cs : a1 = 5
            · have hf := ifT cs hf
              refine lv_tableIn (off := 97) (tgt := 98) hx hb d_Memory_struckValue_1 (by rw [cs]; decide) (by rw [cs]; decide) (by rw [cs] <;> rfl) (by decide) ?_
              refine lv_iload hx hb d_Memory_struckValue_98 (lv_at hl 4 rfl) ?_
              obtain rfl := Option.some.inj hf
              exact ret_i hx hb hr hlocks hP hD hS ⟨rfl, rfl⟩ d_Memory_struckValue_100
            · have hf := ifF cs hf
              have cs5 := cs
              by_cases cs : a1 = 6
              · have hf := ifT cs hf
                refine lv_tableIn (off := 97) (tgt := 98) hx hb d_Memory_struckValue_1 (by rw [cs]; decide) (by rw [cs]; decide) (by rw [cs] <;> rfl) (by decide) ?_
                refine lv_iload hx hb d_Memory_struckValue_98 (lv_at hl 4 rfl) ?_
                obtain rfl := Option.some.inj hf
                exact ret_i hx hb hr hlocks hP hD hS ⟨rfl, rfl⟩ d_Memory_struckValue_100
              · have hf := ifF cs hf
                have cs6 := cs
                by_cases cs : a1 = 7
                · have hf := ifT cs hf
                  refine lv_tableIn (off := 97) (tgt := 98) hx hb d_Memory_struckValue_1 (by rw [cs]; decide) (by rw [cs]; decide) (by rw [cs] <;> rfl) (by decide) ?_
                  refine lv_iload hx hb d_Memory_struckValue_98 (lv_at hl 4 rfl) ?_
                  obtain rfl := Option.some.inj hf
                  exact ret_i hx hb hr hlocks hP hD hS ⟨rfl, rfl⟩ d_Memory_struckValue_100
                · have hf := ifF cs hf
                  have cs7 := cs
                  by_cases cs : a1 = 8
                  · have hf := ifT cs hf
                    refine lv_tableIn (off := 97) (tgt := 98) hx hb d_Memory_struckValue_1 (by rw [cs]; decide) (by rw [cs]; decide) (by rw [cs] <;> rfl) (by decide) ?_
                    refine lv_iload hx hb d_Memory_struckValue_98 (lv_at hl 4 rfl) ?_
                    obtain rfl := Option.some.inj hf
                    exact ret_i hx hb hr hlocks hP hD hS ⟨rfl, rfl⟩ d_Memory_struckValue_100
                  · have hf := ifF cs hf
                    have cs8 := cs
                    by_cases cs : a1 = 9
                    · have hf := ifT cs hf
                      refine lv_tableIn (off := 83) (tgt := 84) hx hb d_Memory_struckValue_1 (by rw [cs]; decide) (by rw [cs]; decide) (by rw [cs] <;> rfl) (by decide) ?_
                      refine lv_iload_n hx hb d_Memory_struckValue_84 rfl (lv_at hl 2 rfl) ?_
                      refine lv_iload_n hx hb d_Memory_struckValue_85 rfl (lv_at hl 3 rfl) ?_
                      refine lv_icmp_ne (tgt := 95) hx hb d_Memory_struckValue_86 (by decide) (fun cc86 => ?_) (fun cc86 => ?_)
                      · have hf := ifF cc86 hf
                        refine lv_iload hx hb d_Memory_struckValue_95 (lv_at hl 4 rfl) ?_
                        obtain rfl := Option.some.inj hf
                        exact ret_i hx hb hr hlocks hP hD hS ⟨rfl, rfl⟩ d_Memory_struckValue_97
                      · have hf := ifT cc86 hf
                        refine lv_iload_n hx hb d_Memory_struckValue_89 rfl (lv_at hl 3 rfl) ?_
                        refine lv_iload_n hx hb d_Memory_struckValue_90 rfl (lv_at hl 1 rfl) ?_
                        refine lv_ixor hx hb d_Memory_struckValue_91 ?_
                        refine lv_goto (tgt := 97) hx hb d_Memory_struckValue_92 (by decide) ?_
                        obtain rfl := Option.some.inj hf
                        exact ret_i hx hb hr hlocks hP hD hS ⟨rfl, rfl⟩ d_Memory_struckValue_97
                    · have hf := ifF cs hf
                      have cs9 := cs
                      refine lv_tableOut (tgt := 98) hx hb d_Memory_struckValue_1 (by have n0 := lv_neT (a := 0) cs0 (by decide); have n1 := lv_neT (a := 1) cs1 (by decide); have n2 := lv_neT (a := 2) cs2 (by decide); have n3 := lv_neT (a := 3) cs3 (by decide); have n4 := lv_neT (a := 4) cs4 (by decide); have n5 := lv_neT (a := 5) cs5 (by decide); have n6 := lv_neT (a := 6) cs6 (by decide); have n7 := lv_neT (a := 7) cs7 (by decide); have n8 := lv_neT (a := 8) cs8 (by decide); have n9 := lv_neT (a := 9) cs9 (by decide); omega) (by decide) ?_
                      refine lv_iload hx hb d_Memory_struckValue_98 (lv_at hl 4 rfl) ?_
                      obtain rfl := Option.some.inj hf
                      exact ret_i hx hb hr hlocks hP hD hS ⟨rfl, rfl⟩ d_Memory_struckValue_100
def g_Memory_valueToStore_16 (n_t_faults_victimWords : Nat) (n_t_faults_victimMasks : Nat) (n_t_faults_kinds : Nat) (t_faults_count : Int32) (t_faults_victimWords_a : Nat → Int32) (t_faults_victimMasks_a : Nat → Int32) (t_faults_kinds_a : Nat → Int32) (x1 : Int32) (x2 : Int32) (x3 : Int32) (x4 : Int32) (rec16 : (Int32 × Int32) → Option (Int32)) (st : (Int32 × Int32)) : Option (Int32) :=
  (if t_faults_count ≤ st.2 then
    some st.1
  else
    (Option.bind (f_FaultList_isVictim n_t_faults_victimWords n_t_faults_victimMasks t_faults_victimWords_a t_faults_victimMasks_a st.2 x1 x2) fun q36_1 =>
    (if q36_1 = 0 then
      (rec16 (st.1, (st.2 + 1)))
    else
      (if inB st.2 n_t_faults_kinds = true then
      (Option.bind (f_Memory_struckValue (t_faults_kinds_a (Int32.toNatClampNeg st.2)) x2 x3 x4 st.1) fun q58_2 =>
      (rec16 (q58_2, (st.2 + 1))))
      else none))))
def f_Memory_valueToStore (n_t_held : Nat) (n_t_faults_victimWords : Nat) (n_t_faults_victimMasks : Nat) (n_t_faults_kinds : Nat) (t_held_a : Nat → Int32) (t_faults_count : Int32) (t_faults_victimWords_a : Nat → Int32) (t_faults_victimMasks_a : Nat → Int32) (t_faults_kinds_a : Nat → Int32) (a1 : Int32) (a2 : Int32) (a3 : Int32) : Option (Int32) :=
  (if inB a1 n_t_held = true then
  (lp (g_Memory_valueToStore_16 n_t_faults_victimWords n_t_faults_victimMasks n_t_faults_kinds t_faults_count t_faults_victimWords_a t_faults_victimMasks_a t_faults_kinds_a a1 a2 a3 ((t_held_a (Int32.toNatClampNeg a1)) &&& a2)) 100000 (a3, 0))
  else none)
def post_Memory_valueToStore (h_t h_t_held h_t_faults h_t_faults_victimWords h_t_faults_victimMasks h_t_faults_kinds : Nat) (v_t_words v_t_bits v_t_latest v_t_faults_otherWords v_t_faults_otherMasks v_t_faults_touchedWords v_t_faults_bits : Value) (n_t_held : Nat) (n_t_faults_victimWords : Nat) (n_t_faults_victimMasks : Nat) (n_t_faults_kinds : Nat) (t_held_a : Nat → Int32) (t_faults_count : Int32) (t_faults_victimWords_a : Nat → Int32) (t_faults_victimMasks_a : Nat → Int32) (t_faults_kinds_a : Nat → Int32) (cI cB cJ : ClassId) (res : Int32) : Option Value → va_W → Prop := fun o ws' => o = some (.int res) ∧ ws' = [(h_t, .inr (5, [v_t_words, v_t_bits, .ref h_t_held, .ref h_t_faults, v_t_latest])), (h_t_held, .inl (cI, n_t_held, .inl t_held_a)), (h_t_faults, .inr (3, [.ref h_t_faults_kinds, .ref h_t_faults_victimWords, .ref h_t_faults_victimMasks, v_t_faults_otherWords, v_t_faults_otherMasks, .int t_faults_count, v_t_faults_touchedWords, v_t_faults_bits])), (h_t_faults_victimWords, .inl (cI, n_t_faults_victimWords, .inl t_faults_victimWords_a)), (h_t_faults_victimMasks, .inl (cI, n_t_faults_victimMasks, .inl t_faults_victimMasks_a)), (h_t_faults_kinds, .inl (cI, n_t_faults_kinds, .inl t_faults_kinds_a))]
abbrev rm_Memory_valueToStore : Room := { frames := 1, cells := 0, slots := 0, locals := 24 }
set_option maxHeartbeats 4000000 in
set_option maxRecDepth 100000 in
theorem kb_Memory_valueToStore_16 {p : Program} {l : Launch} {e : Env} {s : State} {m : MethodId} {args : Array Value} {below : List Frame} {meth : Method} {c : Code} {D : va_G} {cI cB cJ : ClassId} {A : Nat → Prop} (C0 : CX p s m args meth c D [(cI, .int), (cB, .byte), (cJ, .long)] R_Memory b_Memory_valueToStore 7 (some .int) "valueToStore") (hA : ∀ q, s.heap.size ≤ q → A q) {h_t h_t_held h_t_faults h_t_faults_victimWords h_t_faults_victimMasks h_t_faults_kinds : Nat} {v_t_words v_t_bits v_t_latest v_t_faults_otherWords v_t_faults_otherMasks v_t_faults_touchedWords v_t_faults_bits : Value} {res : Int32} {rec16 : (Int32 × Int32) → Option (Int32)} {n_t_held : Nat} {n_t_faults_victimWords : Nat} {n_t_faults_victimMasks : Nat} {n_t_faults_kinds : Nat} {t_held_a : Nat → Int32} {t_faults_count : Int32} {t_faults_victimWords_a : Nat → Int32} {t_faults_victimMasks_a : Nat → Int32} {t_faults_kinds_a : Nat → Int32} {x1 : Int32} {x2 : Int32} {x3 : Int32} {x4 : Int32} {x5 : Int32} {x6 : Int32}
    (hrec16 : ∀ (st : (Int32 × Int32)), rec16 st = some res → ∀  (H : Heap) (locs : List Loc) (ls : Array Slot), va_P D classes [(h_t, .inr (5, [v_t_words, v_t_bits, .ref h_t_held, .ref h_t_faults, v_t_latest])), (h_t_held, .inl (cI, n_t_held, .inl t_held_a)), (h_t_faults, .inr (3, [.ref h_t_faults_kinds, .ref h_t_faults_victimWords, .ref h_t_faults_victimMasks, v_t_faults_otherWords, v_t_faults_otherMasks, .int t_faults_count, v_t_faults_touchedWords, v_t_faults_bits])), (h_t_faults_victimWords, .inl (cI, n_t_faults_victimWords, .inl t_faults_victimWords_a)), (h_t_faults_victimMasks, .inl (cI, n_t_faults_victimMasks, .inl t_faults_victimMasks_a)), (h_t_faults_kinds, .inl (cI, n_t_faults_kinds, .inl t_faults_kinds_a))] H → va_D A [(h_t, .inr (5, [v_t_words, v_t_bits, .ref h_t_held, .ref h_t_faults, v_t_latest])), (h_t_held, .inl (cI, n_t_held, .inl t_held_a)), (h_t_faults, .inr (3, [.ref h_t_faults_kinds, .ref h_t_faults_victimWords, .ref h_t_faults_victimMasks, v_t_faults_otherWords, v_t_faults_otherMasks, .int t_faults_count, v_t_faults_touchedWords, v_t_faults_bits])), (h_t_faults_victimWords, .inl (cI, n_t_faults_victimWords, .inl t_faults_victimWords_a)), (h_t_faults_victimMasks, .inl (cI, n_t_faults_victimMasks, .inl t_faults_victimMasks_a)), (h_t_faults_kinds, .inl (cI, n_t_faults_kinds, .inl t_faults_kinds_a))] → va_S A s.heap H locs → lv_has ls 7 [(0, .ref h_t), (1, .int x1), (2, .int x2), (3, .int x3), (4, .int x4), (5, .int st.1), (6, .int st.2)] → W p l e rm_Memory_valueToStore s m args below meth c H locs 0 0 (MQ below (QW D (post_Memory_valueToStore h_t h_t_held h_t_faults h_t_faults_victimWords h_t_faults_victimMasks h_t_faults_kinds v_t_words v_t_bits v_t_latest v_t_faults_otherWords v_t_faults_otherMasks v_t_faults_touchedWords v_t_faults_bits n_t_held n_t_faults_victimWords n_t_faults_victimMasks n_t_faults_kinds t_held_a t_faults_count t_faults_victimWords_a t_faults_victimMasks_a t_faults_kinds_a cI cB cJ res) A) args s 0 0 A) (F0 m 16 ls []))
    (hf : g_Memory_valueToStore_16 n_t_faults_victimWords n_t_faults_victimMasks n_t_faults_kinds t_faults_count t_faults_victimWords_a t_faults_victimMasks_a t_faults_kinds_a x1 x2 x3 x4 rec16 (x5, x6) = some res) {H : Heap} {locs : List Loc} {ls : Array Slot} (hP : va_P D classes [(h_t, .inr (5, [v_t_words, v_t_bits, .ref h_t_held, .ref h_t_faults, v_t_latest])), (h_t_held, .inl (cI, n_t_held, .inl t_held_a)), (h_t_faults, .inr (3, [.ref h_t_faults_kinds, .ref h_t_faults_victimWords, .ref h_t_faults_victimMasks, v_t_faults_otherWords, v_t_faults_otherMasks, .int t_faults_count, v_t_faults_touchedWords, v_t_faults_bits])), (h_t_faults_victimWords, .inl (cI, n_t_faults_victimWords, .inl t_faults_victimWords_a)), (h_t_faults_victimMasks, .inl (cI, n_t_faults_victimMasks, .inl t_faults_victimMasks_a)), (h_t_faults_kinds, .inl (cI, n_t_faults_kinds, .inl t_faults_kinds_a))] H) (hD : va_D A [(h_t, .inr (5, [v_t_words, v_t_bits, .ref h_t_held, .ref h_t_faults, v_t_latest])), (h_t_held, .inl (cI, n_t_held, .inl t_held_a)), (h_t_faults, .inr (3, [.ref h_t_faults_kinds, .ref h_t_faults_victimWords, .ref h_t_faults_victimMasks, v_t_faults_otherWords, v_t_faults_otherMasks, .int t_faults_count, v_t_faults_touchedWords, v_t_faults_bits])), (h_t_faults_victimWords, .inl (cI, n_t_faults_victimWords, .inl t_faults_victimWords_a)), (h_t_faults_victimMasks, .inl (cI, n_t_faults_victimMasks, .inl t_faults_victimMasks_a)), (h_t_faults_kinds, .inl (cI, n_t_faults_kinds, .inl t_faults_kinds_a))]) (hS : va_S A s.heap H locs) (hl : lv_has ls 7 [(0, .ref h_t), (1, .int x1), (2, .int x2), (3, .int x3), (4, .int x4), (5, .int x5), (6, .int x6)]) : W p l e rm_Memory_valueToStore s m args below meth c H locs 0 0 (MQ below (QW D (post_Memory_valueToStore h_t h_t_held h_t_faults h_t_faults_victimWords h_t_faults_victimMasks h_t_faults_kinds v_t_words v_t_bits v_t_latest v_t_faults_otherWords v_t_faults_otherMasks v_t_faults_touchedWords v_t_faults_bits n_t_held n_t_faults_victimWords n_t_faults_victimMasks n_t_faults_kinds t_held_a t_faults_count t_faults_victimWords_a t_faults_victimMasks_a t_faults_kinds_a cI cB cJ res) A) args s 0 0 A) (F0 m 16 ls []) := by
  obtain ⟨hx, hb, hml, hr, hlocks, hts, hown, hK, hin⟩ := id C0
  have hf : (((
  (if t_faults_count ≤ x6 then
    some x5
  else
    (Option.bind (f_FaultList_isVictim n_t_faults_victimWords n_t_faults_victimMasks t_faults_victimWords_a t_faults_victimMasks_a x6 x1 x2) fun q36_1 =>
    (if q36_1 = 0 then
      (rec16 (x5, (x6 + 1)))
    else
      (if inB x6 n_t_faults_kinds = true then
      (Option.bind (f_Memory_struckValue (t_faults_kinds_a (Int32.toNatClampNeg x6)) x2 x3 x4 x5) fun q58_2 =>
      (rec16 (q58_2, (x6 + 1))))
      else none)))))) : Option (Int32)) = some res := hf
  refine lv_iload hx hb d_Memory_valueToStore_16 (lv_at hl 6 rfl) ?_
  refine lv_aload_n hx hb d_Memory_valueToStore_18 rfl (lv_at hl 0 rfl) ?_
  refine va_get (D := D) (ci := 5) (v := .ref h_t_faults) (C := R_Memory) (T := F_Memory) (N := 5) hx hb hts i_Memory hown hK.1 hP 0 rfl rfl 3 (by decide) (hts _ w_32) (fun _ h9 => h9) rfl d_Memory_valueToStore_19 ?_
  refine va_get (D := D) (ci := 3) (v := .int t_faults_count) (C := R_FaultList) (T := F_FaultList) (N := 8) hx hb hts i_FaultList hown hK.1 hP 2 rfl rfl 5 (by decide) (hts _ w_215) (fun _ h9 => h9) rfl d_Memory_valueToStore_22 ?_
  refine lv_icmp_ge (tgt := 69) hx hb d_Memory_valueToStore_25 (by decide) (fun cc25 => ?_) (fun cc25 => ?_)
  · have hf := ifT cc25 hf
    refine lv_iload hx hb d_Memory_valueToStore_69 (lv_at hl 5 rfl) ?_
    obtain rfl := Option.some.inj hf
    exact ret_i hx hb hr hlocks hP hD hS ⟨rfl, rfl⟩ d_Memory_valueToStore_71
  · have hf := ifF cc25 hf
    refine lv_aload_n hx hb d_Memory_valueToStore_28 rfl (lv_at hl 0 rfl) ?_
    refine va_get (D := D) (ci := 5) (v := .ref h_t_faults) (C := R_Memory) (T := F_Memory) (N := 5) hx hb hts i_Memory hown hK.1 hP 0 rfl rfl 3 (by decide) (hts _ w_32) (fun _ h9 => h9) rfl d_Memory_valueToStore_29 ?_
    refine lv_iload hx hb d_Memory_valueToStore_32 (lv_at hl 6 rfl) ?_
    refine lv_iload_n hx hb d_Memory_valueToStore_34 rfl (lv_at hl 1 rfl) ?_
    refine lv_iload_n hx hb d_Memory_valueToStore_35 rfl (lv_at hl 2 rfl) ?_
    obtain ⟨q36_1, hc, hf⟩ := bindS hf
    refine mcV (n := 3) (As := [.int x6, .int x1, .int x2]) (rest := []) (wr := [(h_t, .inr (5, [v_t_words, v_t_bits, .ref h_t_held, .ref h_t_faults, v_t_latest])), (h_t_held, .inl (cI, n_t_held, .inl t_held_a)), (h_t_faults_kinds, .inl (cI, n_t_faults_kinds, .inl t_faults_kinds_a))]) hx hb hml hown hts hK (c_FaultList_isVictim (l := l) (D := D) (cI := cI) (cB := cB) (cJ := cJ) (h_t := h_t_faults) (h_t_victimWords := h_t_faults_victimWords) (h_t_victimMasks := h_t_faults_victimMasks) (v_t_kinds := (.ref h_t_faults_kinds)) (v_t_otherWords := v_t_faults_otherWords) (v_t_otherMasks := v_t_faults_otherMasks) (v_t_count := (.int t_faults_count)) (v_t_touchedWords := v_t_faults_touchedWords) (v_t_bits := v_t_faults_bits) (n_t_victimWords := n_t_faults_victimWords) (n_t_victimMasks := n_t_faults_victimMasks) (t_victimWords_a := t_faults_victimWords_a) (t_victimMasks_a := t_faults_victimMasks_a) (a1 := x6) (a2 := x1) (a3 := x2) (sz := H.size) (res := q36_1) (hf := hc)) w_226 w_227 w_228 w_28 w_229 (by decide +kernel) rfl rfl ⟨Nat.le_of_ble_eq_true rfl, Nat.le_of_ble_eq_true rfl⟩ hP hD hS hA [2, 3, 4] [0, 1, 5] rfl rfl (by decide) (by decide) (by decide) (ci := 3) 0 rfl rfl hl.1 rfl rfl (lv_room (Nat.le_of_ble_eq_true rfl)) d_Memory_valueToStore_36 ⟨Nat.le_of_ble_eq_true rfl, Nat.le_of_ble_eq_true rfl⟩ (fun o ws' H locs hp hP hD hS => ?_)
    obtain ⟨rfl, rfl⟩ := hp
    have hP : va_P D classes [(h_t, .inr (5, [v_t_words, v_t_bits, .ref h_t_held, .ref h_t_faults, v_t_latest])), (h_t_held, .inl (cI, n_t_held, .inl t_held_a)), (h_t_faults, .inr (3, [.ref h_t_faults_kinds, .ref h_t_faults_victimWords, .ref h_t_faults_victimMasks, v_t_faults_otherWords, v_t_faults_otherMasks, .int t_faults_count, v_t_faults_touchedWords, v_t_faults_bits])), (h_t_faults_victimWords, .inl (cI, n_t_faults_victimWords, .inl t_faults_victimWords_a)), (h_t_faults_victimMasks, .inl (cI, n_t_faults_victimMasks, .inl t_faults_victimMasks_a)), (h_t_faults_kinds, .inl (cI, n_t_faults_kinds, .inl t_faults_kinds_a))] H := hP.sub [0, 1, 3, 4, 5, 2] rfl
    have hD : va_D A [(h_t, .inr (5, [v_t_words, v_t_bits, .ref h_t_held, .ref h_t_faults, v_t_latest])), (h_t_held, .inl (cI, n_t_held, .inl t_held_a)), (h_t_faults, .inr (3, [.ref h_t_faults_kinds, .ref h_t_faults_victimWords, .ref h_t_faults_victimMasks, v_t_faults_otherWords, v_t_faults_otherMasks, .int t_faults_count, v_t_faults_touchedWords, v_t_faults_bits])), (h_t_faults_victimWords, .inl (cI, n_t_faults_victimWords, .inl t_faults_victimWords_a)), (h_t_faults_victimMasks, .inl (cI, n_t_faults_victimMasks, .inl t_faults_victimMasks_a)), (h_t_faults_kinds, .inl (cI, n_t_faults_kinds, .inl t_faults_kinds_a))] := hD.sub [0, 1, 3, 4, 5, 2] (by decide) rfl
    refine lv_if_eq (tgt := 63) hx hb d_Memory_valueToStore_39 (by decide) (fun cc39 => ?_) (fun cc39 => ?_)
    · have hf := ifT cc39 hf
      refine lv_iinc (v := (x6 + 1)) (lv' := [(6, .int (x6 + 1)), (0, .ref h_t), (1, .int x1), (2, .int x2), (3, .int x3), (4, .int x4), (5, .int x5)]) hx hb d_Memory_valueToStore_63 hl (k := 6) rfl rfl (by decide) rfl (fun ls hl => ?_)
      refine lv_goto (tgt := 16) hx hb d_Memory_valueToStore_66 (by decide) ?_
      exact hrec16 (x5, (x6 + 1)) hf  H locs ls hP hD hS (lv_sub hl [1, 2, 3, 4, 5, 6, 0] rfl)
    · have hf := ifF cc39 hf
      refine lv_aload_n hx hb d_Memory_valueToStore_42 rfl (lv_at hl 0 rfl) ?_
      refine va_get (D := D) (ci := 5) (v := .ref h_t_faults) (C := R_Memory) (T := F_Memory) (N := 5) hx hb hts i_Memory hown hK.1 hP 0 rfl rfl 3 (by decide) (hts _ w_32) (fun _ h9 => h9) rfl d_Memory_valueToStore_43 ?_
      refine va_get (D := D) (ci := 3) (v := .ref h_t_faults_kinds) (C := R_FaultList) (T := F_FaultList) (N := 8) hx hb hts i_FaultList hown hK.1 hP 2 rfl rfl 0 (by decide) (hts _ w_218) (fun _ h9 => h9) rfl d_Memory_valueToStore_46 ?_
      refine lv_iload hx hb d_Memory_valueToStore_49 (lv_at hl 6 rfl) ?_
      obtain ⟨hin1, hf⟩ := ifG hf
      refine va_iald hx hb hK.1 hP 5 0 rfl rfl (inB_in hin1) d_Memory_valueToStore_51 ?_
      refine lv_iload_n hx hb d_Memory_valueToStore_52 rfl (lv_at hl 2 rfl) ?_
      refine lv_iload_n hx hb d_Memory_valueToStore_53 rfl (lv_at hl 3 rfl) ?_
      refine lv_iload hx hb d_Memory_valueToStore_54 (lv_at hl 4 rfl) ?_
      refine lv_iload hx hb d_Memory_valueToStore_56 (lv_at hl 5 rfl) ?_
      obtain ⟨q58_2, hc, hf⟩ := bindS hf
      refine mcS (n := 5) (As := [.int (t_faults_kinds_a (Int32.toNatClampNeg x6)), .int x2, .int x3, .int x4, .int x5]) (rest := []) (wr := [(h_t, .inr (5, [v_t_words, v_t_bits, .ref h_t_held, .ref h_t_faults, v_t_latest])), (h_t_held, .inl (cI, n_t_held, .inl t_held_a)), (h_t_faults, .inr (3, [.ref h_t_faults_kinds, .ref h_t_faults_victimWords, .ref h_t_faults_victimMasks, v_t_faults_otherWords, v_t_faults_otherMasks, .int t_faults_count, v_t_faults_touchedWords, v_t_faults_bits])), (h_t_faults_victimWords, .inl (cI, n_t_faults_victimWords, .inl t_faults_victimWords_a)), (h_t_faults_victimMasks, .inl (cI, n_t_faults_victimMasks, .inl t_faults_victimMasks_a)), (h_t_faults_kinds, .inl (cI, n_t_faults_kinds, .inl t_faults_kinds_a))]) hx hb hml hown hts hK (c_Memory_struckValue (l := l) (D := D) (cI := cI) (cB := cB) (cJ := cJ) (a1 := (t_faults_kinds_a (Int32.toNatClampNeg x6))) (a2 := x2) (a3 := x3) (a4 := x4) (a5 := x5) (sz := H.size) (res := q58_2) (hf := hc)) w_230 w_231 w_41 w_232 (by decide +kernel) rfl rfl ⟨Nat.le_of_ble_eq_true rfl, Nat.le_of_ble_eq_true rfl⟩ hP hD hS hA [] [0, 1, 2, 3, 4, 5] rfl rfl (by decide) (by decide) (by decide) hl.1 rfl rfl (lv_room (Nat.le_of_ble_eq_true rfl)) d_Memory_valueToStore_58 ⟨Nat.le_of_ble_eq_true rfl, Nat.le_of_ble_eq_true rfl⟩ (fun o ws' H locs hp hP hD hS => ?_)
      obtain ⟨rfl, rfl⟩ := hp
      have hP : va_P D classes [(h_t, .inr (5, [v_t_words, v_t_bits, .ref h_t_held, .ref h_t_faults, v_t_latest])), (h_t_held, .inl (cI, n_t_held, .inl t_held_a)), (h_t_faults, .inr (3, [.ref h_t_faults_kinds, .ref h_t_faults_victimWords, .ref h_t_faults_victimMasks, v_t_faults_otherWords, v_t_faults_otherMasks, .int t_faults_count, v_t_faults_touchedWords, v_t_faults_bits])), (h_t_faults_victimWords, .inl (cI, n_t_faults_victimWords, .inl t_faults_victimWords_a)), (h_t_faults_victimMasks, .inl (cI, n_t_faults_victimMasks, .inl t_faults_victimMasks_a)), (h_t_faults_kinds, .inl (cI, n_t_faults_kinds, .inl t_faults_kinds_a))] H := hP.sub [0, 1, 2, 3, 4, 5] rfl
      have hD : va_D A [(h_t, .inr (5, [v_t_words, v_t_bits, .ref h_t_held, .ref h_t_faults, v_t_latest])), (h_t_held, .inl (cI, n_t_held, .inl t_held_a)), (h_t_faults, .inr (3, [.ref h_t_faults_kinds, .ref h_t_faults_victimWords, .ref h_t_faults_victimMasks, v_t_faults_otherWords, v_t_faults_otherMasks, .int t_faults_count, v_t_faults_touchedWords, v_t_faults_bits])), (h_t_faults_victimWords, .inl (cI, n_t_faults_victimWords, .inl t_faults_victimWords_a)), (h_t_faults_victimMasks, .inl (cI, n_t_faults_victimMasks, .inl t_faults_victimMasks_a)), (h_t_faults_kinds, .inl (cI, n_t_faults_kinds, .inl t_faults_kinds_a))] := hD.sub [0, 1, 2, 3, 4, 5] (by decide) rfl
      refine lv_istore (lv' := [(5, .int q58_2), (0, .ref h_t), (1, .int x1), (2, .int x2), (3, .int x3), (4, .int x4), (6, .int x6)]) hx hb d_Memory_valueToStore_61 hl (by decide) rfl (fun ls hl => ?_)
      refine lv_iinc (v := (x6 + 1)) (lv' := [(6, .int (x6 + 1)), (5, .int q58_2), (0, .ref h_t), (1, .int x1), (2, .int x2), (3, .int x3), (4, .int x4)]) hx hb d_Memory_valueToStore_63 hl (k := 6) rfl rfl (by decide) rfl (fun ls hl => ?_)
      refine lv_goto (tgt := 16) hx hb d_Memory_valueToStore_66 (by decide) ?_
      exact hrec16 (q58_2, (x6 + 1)) hf  H locs ls hP hD hS (lv_sub hl [2, 3, 4, 5, 6, 1, 0] rfl)
set_option maxHeartbeats 4000000 in
set_option maxRecDepth 100000 in
theorem k_Memory_valueToStore_16 {p : Program} {l : Launch} {e : Env} {s : State} {m : MethodId} {args : Array Value} {below : List Frame} {meth : Method} {c : Code} {D : va_G} {cI cB cJ : ClassId} {A : Nat → Prop} (C0 : CX p s m args meth c D [(cI, .int), (cB, .byte), (cJ, .long)] R_Memory b_Memory_valueToStore 7 (some .int) "valueToStore") (hA : ∀ q, s.heap.size ≤ q → A q) {h_t h_t_held h_t_faults h_t_faults_victimWords h_t_faults_victimMasks h_t_faults_kinds : Nat} {v_t_words v_t_bits v_t_latest v_t_faults_otherWords v_t_faults_otherMasks v_t_faults_touchedWords v_t_faults_bits : Value} {res : Int32} {n_t_held : Nat} {n_t_faults_victimWords : Nat} {n_t_faults_victimMasks : Nat} {n_t_faults_kinds : Nat} {t_held_a : Nat → Int32} {t_faults_count : Int32} {t_faults_victimWords_a : Nat → Int32} {t_faults_victimMasks_a : Nat → Int32} {t_faults_kinds_a : Nat → Int32} {x1 : Int32} {x2 : Int32} {x3 : Int32} {x4 : Int32}
    : ∀ (n : Nat) (st : (Int32 × Int32)), lp (g_Memory_valueToStore_16 n_t_faults_victimWords n_t_faults_victimMasks n_t_faults_kinds t_faults_count t_faults_victimWords_a t_faults_victimMasks_a t_faults_kinds_a x1 x2 x3 x4) n st = some res → ∀  (H : Heap) (locs : List Loc) (ls : Array Slot), va_P D classes [(h_t, .inr (5, [v_t_words, v_t_bits, .ref h_t_held, .ref h_t_faults, v_t_latest])), (h_t_held, .inl (cI, n_t_held, .inl t_held_a)), (h_t_faults, .inr (3, [.ref h_t_faults_kinds, .ref h_t_faults_victimWords, .ref h_t_faults_victimMasks, v_t_faults_otherWords, v_t_faults_otherMasks, .int t_faults_count, v_t_faults_touchedWords, v_t_faults_bits])), (h_t_faults_victimWords, .inl (cI, n_t_faults_victimWords, .inl t_faults_victimWords_a)), (h_t_faults_victimMasks, .inl (cI, n_t_faults_victimMasks, .inl t_faults_victimMasks_a)), (h_t_faults_kinds, .inl (cI, n_t_faults_kinds, .inl t_faults_kinds_a))] H → va_D A [(h_t, .inr (5, [v_t_words, v_t_bits, .ref h_t_held, .ref h_t_faults, v_t_latest])), (h_t_held, .inl (cI, n_t_held, .inl t_held_a)), (h_t_faults, .inr (3, [.ref h_t_faults_kinds, .ref h_t_faults_victimWords, .ref h_t_faults_victimMasks, v_t_faults_otherWords, v_t_faults_otherMasks, .int t_faults_count, v_t_faults_touchedWords, v_t_faults_bits])), (h_t_faults_victimWords, .inl (cI, n_t_faults_victimWords, .inl t_faults_victimWords_a)), (h_t_faults_victimMasks, .inl (cI, n_t_faults_victimMasks, .inl t_faults_victimMasks_a)), (h_t_faults_kinds, .inl (cI, n_t_faults_kinds, .inl t_faults_kinds_a))] → va_S A s.heap H locs → lv_has ls 7 [(0, .ref h_t), (1, .int x1), (2, .int x2), (3, .int x3), (4, .int x4), (5, .int st.1), (6, .int st.2)] → W p l e rm_Memory_valueToStore s m args below meth c H locs 0 0 (MQ below (QW D (post_Memory_valueToStore h_t h_t_held h_t_faults h_t_faults_victimWords h_t_faults_victimMasks h_t_faults_kinds v_t_words v_t_bits v_t_latest v_t_faults_otherWords v_t_faults_otherMasks v_t_faults_touchedWords v_t_faults_bits n_t_held n_t_faults_victimWords n_t_faults_victimMasks n_t_faults_kinds t_held_a t_faults_count t_faults_victimWords_a t_faults_victimMasks_a t_faults_kinds_a cI cB cJ res) A) args s 0 0 A) (F0 m 16 ls []) := by
  intro n
  induction n with
  | zero => intro st hf; exact absurd hf (by simp [lp])
  | succ n ih =>
    intro st hf  H locs ls hP hD hS hl
    exact kb_Memory_valueToStore_16 C0 hA (rec16 := lp (g_Memory_valueToStore_16 n_t_faults_victimWords n_t_faults_victimMasks n_t_faults_kinds t_faults_count t_faults_victimWords_a t_faults_victimMasks_a t_faults_kinds_a x1 x2 x3 x4) n) (x5 := st.1) (x6 := st.2)  (fun st hf  H locs ls hP hD hS hl => ih st hf  H locs ls hP hD hS hl) hf hP hD hS hl
set_option maxHeartbeats 4000000 in
set_option maxRecDepth 100000 in
theorem c_Memory_valueToStore (l : Launch) (D : va_G) (cI cB cJ : ClassId) (h_t h_t_held h_t_faults h_t_faults_victimWords h_t_faults_victimMasks h_t_faults_kinds : Nat) (v_t_words v_t_bits v_t_latest v_t_faults_otherWords v_t_faults_otherMasks v_t_faults_touchedWords v_t_faults_bits : Value) (n_t_held : Nat) (n_t_faults_victimWords : Nat) (n_t_faults_victimMasks : Nat) (n_t_faults_kinds : Nat) (t_held_a : Nat → Int32) (t_faults_count : Int32) (t_faults_victimWords_a : Nat → Int32) (t_faults_victimMasks_a : Nat → Int32) (t_faults_kinds_a : Nat → Int32) (a1 : Int32) (a2 : Int32) (a3 : Int32) (sz : Nat) (res : Int32) (hf : f_Memory_valueToStore n_t_held n_t_faults_victimWords n_t_faults_victimMasks n_t_faults_kinds t_held_a t_faults_count t_faults_victimWords_a t_faults_victimMasks_a t_faults_kinds_a a1 a2 a3 = some res) : Met l y_Memory_valueToStore (.code y_Memory_valueToStore b_Memory_valueToStore 7 (some .int) :: TB) rm_Memory_valueToStore (PcW D [(cI, .int), (cB, .byte), (cJ, .long)] [.ref h_t, .int a1, .int a2, .int a3] [(h_t, .inr (5, [v_t_words, v_t_bits, .ref h_t_held, .ref h_t_faults, v_t_latest])), (h_t_held, .inl (cI, n_t_held, .inl t_held_a)), (h_t_faults, .inr (3, [.ref h_t_faults_kinds, .ref h_t_faults_victimWords, .ref h_t_faults_victimMasks, v_t_faults_otherWords, v_t_faults_otherMasks, .int t_faults_count, v_t_faults_touchedWords, v_t_faults_bits])), (h_t_faults_victimWords, .inl (cI, n_t_faults_victimWords, .inl t_faults_victimWords_a)), (h_t_faults_victimMasks, .inl (cI, n_t_faults_victimMasks, .inl t_faults_victimMasks_a)), (h_t_faults_kinds, .inl (cI, n_t_faults_kinds, .inl t_faults_kinds_a))] sz) (QW D (post_Memory_valueToStore h_t h_t_held h_t_faults h_t_faults_victimWords h_t_faults_victimMasks h_t_faults_kinds v_t_words v_t_bits v_t_latest v_t_faults_otherWords v_t_faults_otherMasks v_t_faults_touchedWords v_t_faults_bits n_t_held n_t_faults_victimWords n_t_faults_victimMasks n_t_faults_kinds t_held_a t_faults_count t_faults_victimWords_a t_faults_victimMasks_a t_faults_kinds_a cI cB cJ res) (va_A [(h_t, .inr (5, [v_t_words, v_t_bits, .ref h_t_held, .ref h_t_faults, v_t_latest])), (h_t_held, .inl (cI, n_t_held, .inl t_held_a)), (h_t_faults, .inr (3, [.ref h_t_faults_kinds, .ref h_t_faults_victimWords, .ref h_t_faults_victimMasks, v_t_faults_otherWords, v_t_faults_otherMasks, .int t_faults_count, v_t_faults_touchedWords, v_t_faults_bits])), (h_t_faults_victimWords, .inl (cI, n_t_faults_victimWords, .inl t_faults_victimWords_a)), (h_t_faults_victimMasks, .inl (cI, n_t_faults_victimMasks, .inl t_faults_victimMasks_a)), (h_t_faults_kinds, .inl (cI, n_t_faults_kinds, .inl t_faults_kinds_a))] sz)) 0 0 (va_A [(h_t, .inr (5, [v_t_words, v_t_bits, .ref h_t_held, .ref h_t_faults, v_t_latest])), (h_t_held, .inl (cI, n_t_held, .inl t_held_a)), (h_t_faults, .inr (3, [.ref h_t_faults_kinds, .ref h_t_faults_victimWords, .ref h_t_faults_victimMasks, v_t_faults_otherWords, v_t_faults_otherMasks, .int t_faults_count, v_t_faults_touchedWords, v_t_faults_bits])), (h_t_faults_victimWords, .inl (cI, n_t_faults_victimWords, .inl t_faults_victimWords_a)), (h_t_faults_victimMasks, .inl (cI, n_t_faults_victimMasks, .inl t_faults_victimMasks_a)), (h_t_faults_kinds, .inl (cI, n_t_faults_kinds, .inl t_faults_kinds_a))] sz) := by
  refine entW ⟨by decide +kernel, rfl⟩ fun p e s m below meth c C0 hP hD hsz ls hl => ?_
  subst hsz
  generalize hAe : va_A [(h_t, .inr (5, [v_t_words, v_t_bits, .ref h_t_held, .ref h_t_faults, v_t_latest])), (h_t_held, .inl (cI, n_t_held, .inl t_held_a)), (h_t_faults, .inr (3, [.ref h_t_faults_kinds, .ref h_t_faults_victimWords, .ref h_t_faults_victimMasks, v_t_faults_otherWords, v_t_faults_otherMasks, .int t_faults_count, v_t_faults_touchedWords, v_t_faults_bits])), (h_t_faults_victimWords, .inl (cI, n_t_faults_victimWords, .inl t_faults_victimWords_a)), (h_t_faults_victimMasks, .inl (cI, n_t_faults_victimMasks, .inl t_faults_victimMasks_a)), (h_t_faults_kinds, .inl (cI, n_t_faults_kinds, .inl t_faults_kinds_a))] s.heap.size = A at hD ⊢
  have hA : ∀ q : Nat, s.heap.size ≤ q → A q := fun q h => by rw [← hAe]; exact Or.inr h
  clear hAe
  have hS : va_S A s.heap s.heap [] := va_S.rf
  have hl : lv_has ls 7 [(0, .ref h_t), (1, .int a1), (2, .int a2), (3, .int a3)] := hl
  obtain ⟨hx, hb, hml, hr, hlocks, hts, hown, hK, hin⟩ := id C0
  have hf : (((
  (if inB a1 n_t_held = true then
  (lp (g_Memory_valueToStore_16 n_t_faults_victimWords n_t_faults_victimMasks n_t_faults_kinds t_faults_count t_faults_victimWords_a t_faults_victimMasks_a t_faults_kinds_a a1 a2 a3 ((t_held_a (Int32.toNatClampNeg a1)) &&& a2)) 100000 (a3, 0))
  else none))) : Option (Int32)) = some res := hf
  obtain ⟨H, hH⟩ : ∃ H, H = s.heap := ⟨_, rfl⟩
  obtain ⟨locs, hlo⟩ : ∃ x : List Loc, x = [] := ⟨_, rfl⟩
  rw [← hlo] at hS ⊢
  have hP : va_P D classes [(h_t, .inr (5, [v_t_words, v_t_bits, .ref h_t_held, .ref h_t_faults, v_t_latest])), (h_t_held, .inl (cI, n_t_held, .inl t_held_a)), (h_t_faults, .inr (3, [.ref h_t_faults_kinds, .ref h_t_faults_victimWords, .ref h_t_faults_victimMasks, v_t_faults_otherWords, v_t_faults_otherMasks, .int t_faults_count, v_t_faults_touchedWords, v_t_faults_bits])), (h_t_faults_victimWords, .inl (cI, n_t_faults_victimWords, .inl t_faults_victimWords_a)), (h_t_faults_victimMasks, .inl (cI, n_t_faults_victimMasks, .inl t_faults_victimMasks_a)), (h_t_faults_kinds, .inl (cI, n_t_faults_kinds, .inl t_faults_kinds_a))] H := by rw [hH]; exact hP
  have hS : va_S A s.heap H locs := by rw [hH]; exact hS
  show W p l e rm_Memory_valueToStore s m _ below meth c s.heap locs 0 0 (MQ below (QW D (post_Memory_valueToStore h_t h_t_held h_t_faults h_t_faults_victimWords h_t_faults_victimMasks h_t_faults_kinds v_t_words v_t_bits v_t_latest v_t_faults_otherWords v_t_faults_otherMasks v_t_faults_touchedWords v_t_faults_bits n_t_held n_t_faults_victimWords n_t_faults_victimMasks n_t_faults_kinds t_held_a t_faults_count t_faults_victimWords_a t_faults_victimMasks_a t_faults_kinds_a cI cB cJ res) A) _ s 0 0 A) (F0 m 0 ls [])
  refine wheap hH ?_
  clear hH hlo
  refine lv_aload_n hx hb d_Memory_valueToStore_0 rfl (lv_at hl 0 rfl) ?_
  refine va_get (D := D) (ci := 5) (v := .ref h_t_held) (C := R_Memory) (T := F_Memory) (N := 5) hx hb hts i_Memory hown hK.1 hP 0 rfl rfl 2 (by decide) (hts _ w_25) (fun _ h9 => h9) rfl d_Memory_valueToStore_1 ?_
  refine lv_iload_n hx hb d_Memory_valueToStore_4 rfl (lv_at hl 1 rfl) ?_
  obtain ⟨hin1, hf⟩ := ifG hf
  refine va_iald hx hb hK.1 hP 1 0 rfl rfl (inB_in hin1) d_Memory_valueToStore_5 ?_
  refine lv_iload_n hx hb d_Memory_valueToStore_6 rfl (lv_at hl 2 rfl) ?_
  refine lv_iand hx hb d_Memory_valueToStore_7 ?_
  refine lv_istore (lv' := [(4, .int ((t_held_a (Int32.toNatClampNeg a1)) &&& a2)), (0, .ref h_t), (1, .int a1), (2, .int a2), (3, .int a3)]) hx hb d_Memory_valueToStore_8 hl (by decide) rfl (fun ls hl => ?_)
  refine lv_iload_n hx hb d_Memory_valueToStore_10 rfl (lv_at hl 4 rfl) ?_
  refine lv_istore (lv' := [(5, .int a3), (4, .int ((t_held_a (Int32.toNatClampNeg a1)) &&& a2)), (0, .ref h_t), (1, .int a1), (2, .int a2), (3, .int a3)]) hx hb d_Memory_valueToStore_11 hl (by decide) rfl (fun ls hl => ?_)
  refine lv_iconst (v := 0) hx hb d_Memory_valueToStore_13 (by decide) ?_
  refine lv_istore (lv' := [(6, .int 0), (5, .int a3), (4, .int ((t_held_a (Int32.toNatClampNeg a1)) &&& a2)), (0, .ref h_t), (1, .int a1), (2, .int a2), (3, .int a3)]) hx hb d_Memory_valueToStore_14 hl (by decide) rfl (fun ls hl => ?_)
  exact k_Memory_valueToStore_16 (s := s) C0 hA _ (a3, 0) hf  H locs ls hP hD hS (lv_sub hl [3, 4, 5, 6, 2, 1, 0] rfl)
def f_FaultList_isOther (n_t_otherWords : Nat) (n_t_otherMasks : Nat) (t_otherWords_a : Nat → Int32) (t_otherMasks_a : Nat → Int32) (a1 : Int32) (a2 : Int32) (a3 : Int32) : Option (Int32) :=
  (if inB a1 n_t_otherWords = true then
  (if (t_otherWords_a (Int32.toNatClampNeg a1)) = a2 then
    (if inB a1 n_t_otherMasks = true then
    (if (t_otherMasks_a (Int32.toNatClampNeg a1)) = a3 then
      some 1
    else
      some 0)
    else none)
  else
    some 0)
  else none)
def post_FaultList_isOther (h_t h_t_otherWords h_t_otherMasks : Nat) (v_t_kinds v_t_victimWords v_t_victimMasks v_t_count v_t_touchedWords v_t_bits : Value) (n_t_otherWords : Nat) (n_t_otherMasks : Nat) (t_otherWords_a : Nat → Int32) (t_otherMasks_a : Nat → Int32) (cI cB cJ : ClassId) (res : Int32) : Option Value → va_W → Prop := fun o ws' => o = some (.int res) ∧ ws' = [(h_t, .inr (3, [v_t_kinds, v_t_victimWords, v_t_victimMasks, .ref h_t_otherWords, .ref h_t_otherMasks, v_t_count, v_t_touchedWords, v_t_bits])), (h_t_otherWords, .inl (cI, n_t_otherWords, .inl t_otherWords_a)), (h_t_otherMasks, .inl (cI, n_t_otherMasks, .inl t_otherMasks_a))]
abbrev rm_FaultList_isOther : Room := { frames := 0, cells := 0, slots := 0, locals := 0 }
set_option maxHeartbeats 4000000 in
set_option maxRecDepth 100000 in
theorem c_FaultList_isOther (l : Launch) (D : va_G) (cI cB cJ : ClassId) (h_t h_t_otherWords h_t_otherMasks : Nat) (v_t_kinds v_t_victimWords v_t_victimMasks v_t_count v_t_touchedWords v_t_bits : Value) (n_t_otherWords : Nat) (n_t_otherMasks : Nat) (t_otherWords_a : Nat → Int32) (t_otherMasks_a : Nat → Int32) (a1 : Int32) (a2 : Int32) (a3 : Int32) (sz : Nat) (res : Int32) (hf : f_FaultList_isOther n_t_otherWords n_t_otherMasks t_otherWords_a t_otherMasks_a a1 a2 a3 = some res) : Met l y_FaultList_isOther (.code y_FaultList_isOther b_FaultList_isOther 4 (some .boolean) :: TB) rm_FaultList_isOther (PcW D [(cI, .int), (cB, .byte), (cJ, .long)] [.ref h_t, .int a1, .int a2, .int a3] [(h_t, .inr (3, [v_t_kinds, v_t_victimWords, v_t_victimMasks, .ref h_t_otherWords, .ref h_t_otherMasks, v_t_count, v_t_touchedWords, v_t_bits])), (h_t_otherWords, .inl (cI, n_t_otherWords, .inl t_otherWords_a)), (h_t_otherMasks, .inl (cI, n_t_otherMasks, .inl t_otherMasks_a))] sz) (QW D (post_FaultList_isOther h_t h_t_otherWords h_t_otherMasks v_t_kinds v_t_victimWords v_t_victimMasks v_t_count v_t_touchedWords v_t_bits n_t_otherWords n_t_otherMasks t_otherWords_a t_otherMasks_a cI cB cJ res) (va_A [(h_t, .inr (3, [v_t_kinds, v_t_victimWords, v_t_victimMasks, .ref h_t_otherWords, .ref h_t_otherMasks, v_t_count, v_t_touchedWords, v_t_bits])), (h_t_otherWords, .inl (cI, n_t_otherWords, .inl t_otherWords_a)), (h_t_otherMasks, .inl (cI, n_t_otherMasks, .inl t_otherMasks_a))] sz)) 0 0 (va_A [(h_t, .inr (3, [v_t_kinds, v_t_victimWords, v_t_victimMasks, .ref h_t_otherWords, .ref h_t_otherMasks, v_t_count, v_t_touchedWords, v_t_bits])), (h_t_otherWords, .inl (cI, n_t_otherWords, .inl t_otherWords_a)), (h_t_otherMasks, .inl (cI, n_t_otherMasks, .inl t_otherMasks_a))] sz) := by
  refine entW ⟨by decide +kernel, rfl⟩ fun p e s m below meth c C0 hP hD hsz ls hl => ?_
  subst hsz
  generalize hAe : va_A [(h_t, .inr (3, [v_t_kinds, v_t_victimWords, v_t_victimMasks, .ref h_t_otherWords, .ref h_t_otherMasks, v_t_count, v_t_touchedWords, v_t_bits])), (h_t_otherWords, .inl (cI, n_t_otherWords, .inl t_otherWords_a)), (h_t_otherMasks, .inl (cI, n_t_otherMasks, .inl t_otherMasks_a))] s.heap.size = A at hD ⊢
  have hA : ∀ q : Nat, s.heap.size ≤ q → A q := fun q h => by rw [← hAe]; exact Or.inr h
  clear hAe
  have hS : va_S A s.heap s.heap [] := va_S.rf
  have hl : lv_has ls 4 [(0, .ref h_t), (1, .int a1), (2, .int a2), (3, .int a3)] := hl
  obtain ⟨hx, hb, hml, hr, hlocks, hts, hown, hK, hin⟩ := id C0
  have hf : (((
  (if inB a1 n_t_otherWords = true then
  (if (t_otherWords_a (Int32.toNatClampNeg a1)) = a2 then
    (if inB a1 n_t_otherMasks = true then
    (if (t_otherMasks_a (Int32.toNatClampNeg a1)) = a3 then
      some 1
    else
      some 0)
    else none)
  else
    some 0)
  else none))) : Option (Int32)) = some res := hf
  obtain ⟨H, hH⟩ : ∃ H, H = s.heap := ⟨_, rfl⟩
  obtain ⟨locs, hlo⟩ : ∃ x : List Loc, x = [] := ⟨_, rfl⟩
  rw [← hlo] at hS ⊢
  have hP : va_P D classes [(h_t, .inr (3, [v_t_kinds, v_t_victimWords, v_t_victimMasks, .ref h_t_otherWords, .ref h_t_otherMasks, v_t_count, v_t_touchedWords, v_t_bits])), (h_t_otherWords, .inl (cI, n_t_otherWords, .inl t_otherWords_a)), (h_t_otherMasks, .inl (cI, n_t_otherMasks, .inl t_otherMasks_a))] H := by rw [hH]; exact hP
  have hS : va_S A s.heap H locs := by rw [hH]; exact hS
  show W p l e rm_FaultList_isOther s m _ below meth c s.heap locs 0 0 (MQ below (QW D (post_FaultList_isOther h_t h_t_otherWords h_t_otherMasks v_t_kinds v_t_victimWords v_t_victimMasks v_t_count v_t_touchedWords v_t_bits n_t_otherWords n_t_otherMasks t_otherWords_a t_otherMasks_a cI cB cJ res) A) _ s 0 0 A) (F0 m 0 ls [])
  refine wheap hH ?_
  clear hH hlo
  refine lv_aload_n hx hb d_FaultList_isOther_0 rfl (lv_at hl 0 rfl) ?_
  refine va_get (D := D) (ci := 3) (v := .ref h_t_otherWords) (C := R_FaultList) (T := F_FaultList) (N := 8) hx hb hts i_FaultList hown hK.1 hP 0 rfl rfl 3 (by decide) (hts _ w_14) (fun _ h9 => h9) rfl d_FaultList_isOther_1 ?_
  refine lv_iload_n hx hb d_FaultList_isOther_4 rfl (lv_at hl 1 rfl) ?_
  obtain ⟨hin1, hf⟩ := ifG hf
  refine va_iald hx hb hK.1 hP 1 0 rfl rfl (inB_in hin1) d_FaultList_isOther_5 ?_
  refine lv_iload_n hx hb d_FaultList_isOther_6 rfl (lv_at hl 2 rfl) ?_
  refine lv_icmp_ne (tgt := 24) hx hb d_FaultList_isOther_7 (by decide) (fun cc7 => ?_) (fun cc7 => ?_)
  · have hf := ifF cc7 hf
    refine lv_iconst (v := 0) hx hb d_FaultList_isOther_24 (by decide) ?_
    obtain rfl := Option.some.inj hf
    exact ret_z hx hb hr rfl hlocks hP hD hS ⟨rfl, rfl⟩ d_FaultList_isOther_25
  · have hf := ifT cc7 hf
    refine lv_aload_n hx hb d_FaultList_isOther_10 rfl (lv_at hl 0 rfl) ?_
    refine va_get (D := D) (ci := 3) (v := .ref h_t_otherMasks) (C := R_FaultList) (T := F_FaultList) (N := 8) hx hb hts i_FaultList hown hK.1 hP 0 rfl rfl 4 (by decide) (hts _ w_15) (fun _ h9 => h9) rfl d_FaultList_isOther_11 ?_
    refine lv_iload_n hx hb d_FaultList_isOther_14 rfl (lv_at hl 1 rfl) ?_
    obtain ⟨hin1, hf⟩ := ifG hf
    refine va_iald hx hb hK.1 hP 2 0 rfl rfl (inB_in hin1) d_FaultList_isOther_15 ?_
    refine lv_iload_n hx hb d_FaultList_isOther_16 rfl (lv_at hl 3 rfl) ?_
    refine lv_icmp_ne (tgt := 24) hx hb d_FaultList_isOther_17 (by decide) (fun cc17 => ?_) (fun cc17 => ?_)
    · have hf := ifF cc17 hf
      refine lv_iconst (v := 0) hx hb d_FaultList_isOther_24 (by decide) ?_
      obtain rfl := Option.some.inj hf
      exact ret_z hx hb hr rfl hlocks hP hD hS ⟨rfl, rfl⟩ d_FaultList_isOther_25
    · have hf := ifT cc17 hf
      refine lv_iconst (v := 1) hx hb d_FaultList_isOther_20 (by decide) ?_
      refine lv_goto (tgt := 25) hx hb d_FaultList_isOther_21 (by decide) ?_
      obtain rfl := Option.some.inj hf
      exact ret_z hx hb hr rfl hlocks hP hD hS ⟨rfl, rfl⟩ d_FaultList_isOther_25
def g_Memory_setCell_39 (n_t_held : Nat) (n_t_faults_kinds : Nat) (n_t_faults_otherWords : Nat) (n_t_faults_otherMasks : Nat) (n_t_faults_victimWords : Nat) (n_t_faults_victimMasks : Nat) (t_faults_count : Int32) (t_faults_kinds_a : Nat → Int32) (t_faults_otherWords_a : Nat → Int32) (t_faults_otherMasks_a : Nat → Int32) (t_faults_victimWords_a : Nat → Int32) (t_faults_victimMasks_a : Nat → Int32) (x1 : Int32) (x2 : Int32) (x4 : Int32) (rec39 : ((Nat → Int32) × Int32) → Option ((Nat → Int32))) (st : ((Nat → Int32) × Int32)) : Option ((Nat → Int32)) :=
  (if t_faults_count ≤ st.2 then
    some st.1
  else
    (if inB st.2 n_t_faults_kinds = true then
    (if (t_faults_kinds_a (Int32.toNatClampNeg st.2)) = x4 then
      (Option.bind (f_FaultList_isOther n_t_faults_otherWords n_t_faults_otherMasks t_faults_otherWords_a t_faults_otherMasks_a st.2 x1 x2) fun q74_1 =>
      (if q74_1 = 0 then
        (rec39 (st.1, (st.2 + 1)))
      else
        (if inB st.2 n_t_faults_victimWords = true then
        (if inB (t_faults_victimWords_a (Int32.toNatClampNeg st.2)) n_t_held = true then
        (if inB st.2 n_t_faults_victimMasks = true then
        (if inB (t_faults_victimWords_a (Int32.toNatClampNeg st.2)) n_t_held = true then
        (rec39 ((upd st.1 (Int32.toNatClampNeg (t_faults_victimWords_a (Int32.toNatClampNeg st.2))) ((st.1 (Int32.toNatClampNeg (t_faults_victimWords_a (Int32.toNatClampNeg st.2)))) ^^^ (t_faults_victimMasks_a (Int32.toNatClampNeg st.2)))), (st.2 + 1)))
        else none)
        else none)
        else none)
        else none)))
    else
      (rec39 (st.1, (st.2 + 1))))
    else none))
def f_Memory_setCell (n_t_held : Nat) (n_t_faults_kinds : Nat) (n_t_faults_otherWords : Nat) (n_t_faults_otherMasks : Nat) (n_t_faults_victimWords : Nat) (n_t_faults_victimMasks : Nat) (t_held_a : Nat → Int32) (t_faults_count : Int32) (t_faults_kinds_a : Nat → Int32) (t_faults_otherWords_a : Nat → Int32) (t_faults_otherMasks_a : Nat → Int32) (t_faults_victimWords_a : Nat → Int32) (t_faults_victimMasks_a : Nat → Int32) (a1 : Int32) (a2 : Int32) (a3 : Int32) : Option ((Nat → Int32)) :=
  (if inB a1 n_t_held = true then
  (if ((t_held_a (Int32.toNatClampNeg a1)) &&& a2) = a3 then
    some t_held_a
  else
    (if inB a1 n_t_held = true then
    (if inB a1 n_t_held = true then
    (if a3 = 0 then
      (lp (g_Memory_setCell_39 n_t_held n_t_faults_kinds n_t_faults_otherWords n_t_faults_otherMasks n_t_faults_victimWords n_t_faults_victimMasks t_faults_count t_faults_kinds_a t_faults_otherWords_a t_faults_otherMasks_a t_faults_victimWords_a t_faults_victimMasks_a a1 a2 11) 100000 ((upd t_held_a (Int32.toNatClampNeg a1) ((t_held_a (Int32.toNatClampNeg a1)) ^^^ a2)), 0))
    else
      (lp (g_Memory_setCell_39 n_t_held n_t_faults_kinds n_t_faults_otherWords n_t_faults_otherMasks n_t_faults_victimWords n_t_faults_victimMasks t_faults_count t_faults_kinds_a t_faults_otherWords_a t_faults_otherMasks_a t_faults_victimWords_a t_faults_victimMasks_a a1 a2 10) 100000 ((upd t_held_a (Int32.toNatClampNeg a1) ((t_held_a (Int32.toNatClampNeg a1)) ^^^ a2)), 0)))
    else none)
    else none))
  else none)
def post_Memory_setCell (h_t h_t_held h_t_faults h_t_faults_kinds h_t_faults_otherWords h_t_faults_otherMasks h_t_faults_victimWords h_t_faults_victimMasks : Nat) (v_t_words v_t_bits v_t_latest v_t_faults_touchedWords v_t_faults_bits : Value) (n_t_held : Nat) (n_t_faults_kinds : Nat) (n_t_faults_otherWords : Nat) (n_t_faults_otherMasks : Nat) (n_t_faults_victimWords : Nat) (n_t_faults_victimMasks : Nat) (t_faults_count : Int32) (t_faults_kinds_a : Nat → Int32) (t_faults_otherWords_a : Nat → Int32) (t_faults_otherMasks_a : Nat → Int32) (t_faults_victimWords_a : Nat → Int32) (t_faults_victimMasks_a : Nat → Int32) (cI cB cJ : ClassId) (res : (Nat → Int32)) : Option Value → va_W → Prop := fun o ws' => o = none ∧ ws' = [(h_t, .inr (5, [v_t_words, v_t_bits, .ref h_t_held, .ref h_t_faults, v_t_latest])), (h_t_held, .inl (cI, n_t_held, .inl res)), (h_t_faults, .inr (3, [.ref h_t_faults_kinds, .ref h_t_faults_victimWords, .ref h_t_faults_victimMasks, .ref h_t_faults_otherWords, .ref h_t_faults_otherMasks, .int t_faults_count, v_t_faults_touchedWords, v_t_faults_bits])), (h_t_faults_kinds, .inl (cI, n_t_faults_kinds, .inl t_faults_kinds_a)), (h_t_faults_otherWords, .inl (cI, n_t_faults_otherWords, .inl t_faults_otherWords_a)), (h_t_faults_otherMasks, .inl (cI, n_t_faults_otherMasks, .inl t_faults_otherMasks_a)), (h_t_faults_victimWords, .inl (cI, n_t_faults_victimWords, .inl t_faults_victimWords_a)), (h_t_faults_victimMasks, .inl (cI, n_t_faults_victimMasks, .inl t_faults_victimMasks_a))]
abbrev rm_Memory_setCell : Room := { frames := 1, cells := 0, slots := 0, locals := 23 }
set_option maxHeartbeats 4000000 in
set_option maxRecDepth 100000 in
theorem kb_Memory_setCell_39 {p : Program} {l : Launch} {e : Env} {s : State} {m : MethodId} {args : Array Value} {below : List Frame} {meth : Method} {c : Code} {D : va_G} {cI cB cJ : ClassId} {A : Nat → Prop} (C0 : CX p s m args meth c D [(cI, .int), (cB, .byte), (cJ, .long)] R_Memory b_Memory_setCell 6 none "setCell") (hA : ∀ q, s.heap.size ≤ q → A q) {h_t h_t_held h_t_faults h_t_faults_kinds h_t_faults_otherWords h_t_faults_otherMasks h_t_faults_victimWords h_t_faults_victimMasks : Nat} {v_t_words v_t_bits v_t_latest v_t_faults_touchedWords v_t_faults_bits : Value} {res : (Nat → Int32)} {rec39 : ((Nat → Int32) × Int32) → Option ((Nat → Int32))} {n_t_held : Nat} {n_t_faults_kinds : Nat} {n_t_faults_otherWords : Nat} {n_t_faults_otherMasks : Nat} {n_t_faults_victimWords : Nat} {n_t_faults_victimMasks : Nat} {t_held_a : Nat → Int32} {t_faults_count : Int32} {t_faults_kinds_a : Nat → Int32} {t_faults_otherWords_a : Nat → Int32} {t_faults_otherMasks_a : Nat → Int32} {t_faults_victimWords_a : Nat → Int32} {t_faults_victimMasks_a : Nat → Int32} {x1 : Int32} {x2 : Int32} {x4 : Int32} {x5 : Int32}
    (hrec39 : ∀ (st : ((Nat → Int32) × Int32)), rec39 st = some res → ∀  (H : Heap) (locs : List Loc) (ls : Array Slot), va_P D classes [(h_t, .inr (5, [v_t_words, v_t_bits, .ref h_t_held, .ref h_t_faults, v_t_latest])), (h_t_held, .inl (cI, n_t_held, .inl st.1)), (h_t_faults, .inr (3, [.ref h_t_faults_kinds, .ref h_t_faults_victimWords, .ref h_t_faults_victimMasks, .ref h_t_faults_otherWords, .ref h_t_faults_otherMasks, .int t_faults_count, v_t_faults_touchedWords, v_t_faults_bits])), (h_t_faults_kinds, .inl (cI, n_t_faults_kinds, .inl t_faults_kinds_a)), (h_t_faults_otherWords, .inl (cI, n_t_faults_otherWords, .inl t_faults_otherWords_a)), (h_t_faults_otherMasks, .inl (cI, n_t_faults_otherMasks, .inl t_faults_otherMasks_a)), (h_t_faults_victimWords, .inl (cI, n_t_faults_victimWords, .inl t_faults_victimWords_a)), (h_t_faults_victimMasks, .inl (cI, n_t_faults_victimMasks, .inl t_faults_victimMasks_a))] H → va_D A [(h_t, .inr (5, [v_t_words, v_t_bits, .ref h_t_held, .ref h_t_faults, v_t_latest])), (h_t_held, .inl (cI, n_t_held, .inl st.1)), (h_t_faults, .inr (3, [.ref h_t_faults_kinds, .ref h_t_faults_victimWords, .ref h_t_faults_victimMasks, .ref h_t_faults_otherWords, .ref h_t_faults_otherMasks, .int t_faults_count, v_t_faults_touchedWords, v_t_faults_bits])), (h_t_faults_kinds, .inl (cI, n_t_faults_kinds, .inl t_faults_kinds_a)), (h_t_faults_otherWords, .inl (cI, n_t_faults_otherWords, .inl t_faults_otherWords_a)), (h_t_faults_otherMasks, .inl (cI, n_t_faults_otherMasks, .inl t_faults_otherMasks_a)), (h_t_faults_victimWords, .inl (cI, n_t_faults_victimWords, .inl t_faults_victimWords_a)), (h_t_faults_victimMasks, .inl (cI, n_t_faults_victimMasks, .inl t_faults_victimMasks_a))] → va_S A s.heap H locs → lv_has ls 6 [(0, .ref h_t), (1, .int x1), (2, .int x2), (4, .int x4), (5, .int st.2)] → W p l e rm_Memory_setCell s m args below meth c H locs 0 0 (MQ below (QW D (post_Memory_setCell h_t h_t_held h_t_faults h_t_faults_kinds h_t_faults_otherWords h_t_faults_otherMasks h_t_faults_victimWords h_t_faults_victimMasks v_t_words v_t_bits v_t_latest v_t_faults_touchedWords v_t_faults_bits n_t_held n_t_faults_kinds n_t_faults_otherWords n_t_faults_otherMasks n_t_faults_victimWords n_t_faults_victimMasks t_faults_count t_faults_kinds_a t_faults_otherWords_a t_faults_otherMasks_a t_faults_victimWords_a t_faults_victimMasks_a cI cB cJ res) A) args s 0 0 A) (F0 m 39 ls []))
    (hf : g_Memory_setCell_39 n_t_held n_t_faults_kinds n_t_faults_otherWords n_t_faults_otherMasks n_t_faults_victimWords n_t_faults_victimMasks t_faults_count t_faults_kinds_a t_faults_otherWords_a t_faults_otherMasks_a t_faults_victimWords_a t_faults_victimMasks_a x1 x2 x4 rec39 (t_held_a, x5) = some res) {H : Heap} {locs : List Loc} {ls : Array Slot} (hP : va_P D classes [(h_t, .inr (5, [v_t_words, v_t_bits, .ref h_t_held, .ref h_t_faults, v_t_latest])), (h_t_held, .inl (cI, n_t_held, .inl t_held_a)), (h_t_faults, .inr (3, [.ref h_t_faults_kinds, .ref h_t_faults_victimWords, .ref h_t_faults_victimMasks, .ref h_t_faults_otherWords, .ref h_t_faults_otherMasks, .int t_faults_count, v_t_faults_touchedWords, v_t_faults_bits])), (h_t_faults_kinds, .inl (cI, n_t_faults_kinds, .inl t_faults_kinds_a)), (h_t_faults_otherWords, .inl (cI, n_t_faults_otherWords, .inl t_faults_otherWords_a)), (h_t_faults_otherMasks, .inl (cI, n_t_faults_otherMasks, .inl t_faults_otherMasks_a)), (h_t_faults_victimWords, .inl (cI, n_t_faults_victimWords, .inl t_faults_victimWords_a)), (h_t_faults_victimMasks, .inl (cI, n_t_faults_victimMasks, .inl t_faults_victimMasks_a))] H) (hD : va_D A [(h_t, .inr (5, [v_t_words, v_t_bits, .ref h_t_held, .ref h_t_faults, v_t_latest])), (h_t_held, .inl (cI, n_t_held, .inl t_held_a)), (h_t_faults, .inr (3, [.ref h_t_faults_kinds, .ref h_t_faults_victimWords, .ref h_t_faults_victimMasks, .ref h_t_faults_otherWords, .ref h_t_faults_otherMasks, .int t_faults_count, v_t_faults_touchedWords, v_t_faults_bits])), (h_t_faults_kinds, .inl (cI, n_t_faults_kinds, .inl t_faults_kinds_a)), (h_t_faults_otherWords, .inl (cI, n_t_faults_otherWords, .inl t_faults_otherWords_a)), (h_t_faults_otherMasks, .inl (cI, n_t_faults_otherMasks, .inl t_faults_otherMasks_a)), (h_t_faults_victimWords, .inl (cI, n_t_faults_victimWords, .inl t_faults_victimWords_a)), (h_t_faults_victimMasks, .inl (cI, n_t_faults_victimMasks, .inl t_faults_victimMasks_a))]) (hS : va_S A s.heap H locs) (hl : lv_has ls 6 [(0, .ref h_t), (1, .int x1), (2, .int x2), (4, .int x4), (5, .int x5)]) : W p l e rm_Memory_setCell s m args below meth c H locs 0 0 (MQ below (QW D (post_Memory_setCell h_t h_t_held h_t_faults h_t_faults_kinds h_t_faults_otherWords h_t_faults_otherMasks h_t_faults_victimWords h_t_faults_victimMasks v_t_words v_t_bits v_t_latest v_t_faults_touchedWords v_t_faults_bits n_t_held n_t_faults_kinds n_t_faults_otherWords n_t_faults_otherMasks n_t_faults_victimWords n_t_faults_victimMasks t_faults_count t_faults_kinds_a t_faults_otherWords_a t_faults_otherMasks_a t_faults_victimWords_a t_faults_victimMasks_a cI cB cJ res) A) args s 0 0 A) (F0 m 39 ls []) := by
  obtain ⟨hx, hb, hml, hr, hlocks, hts, hown, hK, hin⟩ := id C0
  have hf : (((
  (if t_faults_count ≤ x5 then
    some t_held_a
  else
    (if inB x5 n_t_faults_kinds = true then
    (if (t_faults_kinds_a (Int32.toNatClampNeg x5)) = x4 then
      (Option.bind (f_FaultList_isOther n_t_faults_otherWords n_t_faults_otherMasks t_faults_otherWords_a t_faults_otherMasks_a x5 x1 x2) fun q74_1 =>
      (if q74_1 = 0 then
        (rec39 (t_held_a, (x5 + 1)))
      else
        (if inB x5 n_t_faults_victimWords = true then
        (if inB (t_faults_victimWords_a (Int32.toNatClampNeg x5)) n_t_held = true then
        (if inB x5 n_t_faults_victimMasks = true then
        (if inB (t_faults_victimWords_a (Int32.toNatClampNeg x5)) n_t_held = true then
        (rec39 ((upd t_held_a (Int32.toNatClampNeg (t_faults_victimWords_a (Int32.toNatClampNeg x5))) ((t_held_a (Int32.toNatClampNeg (t_faults_victimWords_a (Int32.toNatClampNeg x5)))) ^^^ (t_faults_victimMasks_a (Int32.toNatClampNeg x5)))), (x5 + 1)))
        else none)
        else none)
        else none)
        else none)))
    else
      (rec39 (t_held_a, (x5 + 1))))
    else none)))) : Option ((Nat → Int32))) = some res := hf
  refine lv_iload hx hb d_Memory_setCell_39 (lv_at hl 4 rfl) ?_
  refine lv_aload_n hx hb d_Memory_setCell_41 rfl (lv_at hl 0 rfl) ?_
  refine va_get (D := D) (ci := 5) (v := .ref h_t_faults) (C := R_Memory) (T := F_Memory) (N := 5) hx hb hts i_Memory hown hK.1 hP 0 rfl rfl 3 (by decide) (hts _ w_32) (fun _ h9 => h9) rfl d_Memory_setCell_42 ?_
  refine va_get (D := D) (ci := 3) (v := .int t_faults_count) (C := R_FaultList) (T := F_FaultList) (N := 8) hx hb hts i_FaultList hown hK.1 hP 2 rfl rfl 5 (by decide) (hts _ w_215) (fun _ h9 => h9) rfl d_Memory_setCell_45 ?_
  refine lv_icmp_ge (tgt := 114) hx hb d_Memory_setCell_48 (by decide) (fun cc48 => ?_) (fun cc48 => ?_)
  · have hf := ifT cc48 hf
    obtain rfl := Option.some.inj hf
    exact ret_v hx hb hr hlocks hP hD hS ⟨rfl, rfl⟩ d_Memory_setCell_114
  · have hf := ifF cc48 hf
    refine lv_aload_n hx hb d_Memory_setCell_51 rfl (lv_at hl 0 rfl) ?_
    refine va_get (D := D) (ci := 5) (v := .ref h_t_faults) (C := R_Memory) (T := F_Memory) (N := 5) hx hb hts i_Memory hown hK.1 hP 0 rfl rfl 3 (by decide) (hts _ w_32) (fun _ h9 => h9) rfl d_Memory_setCell_52 ?_
    refine va_get (D := D) (ci := 3) (v := .ref h_t_faults_kinds) (C := R_FaultList) (T := F_FaultList) (N := 8) hx hb hts i_FaultList hown hK.1 hP 2 rfl rfl 0 (by decide) (hts _ w_218) (fun _ h9 => h9) rfl d_Memory_setCell_55 ?_
    refine lv_iload hx hb d_Memory_setCell_58 (lv_at hl 4 rfl) ?_
    obtain ⟨hin1, hf⟩ := ifG hf
    refine va_iald hx hb hK.1 hP 3 0 rfl rfl (inB_in hin1) d_Memory_setCell_60 ?_
    refine lv_iload hx hb d_Memory_setCell_61 (lv_at hl 3 rfl) ?_
    refine lv_icmp_ne (tgt := 108) hx hb d_Memory_setCell_63 (by decide) (fun cc63 => ?_) (fun cc63 => ?_)
    · have hf := ifF cc63 hf
      refine lv_iinc (v := (x5 + 1)) (lv' := [(5, .int (x5 + 1)), (0, .ref h_t), (1, .int x1), (2, .int x2), (4, .int x4)]) hx hb d_Memory_setCell_108 hl (k := 4) rfl rfl (by decide) rfl (fun ls hl => ?_)
      refine lv_goto (tgt := 39) hx hb d_Memory_setCell_111 (by decide) ?_
      exact hrec39 (t_held_a, (x5 + 1)) hf  H locs ls hP hD hS (lv_sub hl [1, 2, 3, 4, 0] rfl)
    · have hf := ifT cc63 hf
      refine lv_aload_n hx hb d_Memory_setCell_66 rfl (lv_at hl 0 rfl) ?_
      refine va_get (D := D) (ci := 5) (v := .ref h_t_faults) (C := R_Memory) (T := F_Memory) (N := 5) hx hb hts i_Memory hown hK.1 hP 0 rfl rfl 3 (by decide) (hts _ w_32) (fun _ h9 => h9) rfl d_Memory_setCell_67 ?_
      refine lv_iload hx hb d_Memory_setCell_70 (lv_at hl 4 rfl) ?_
      refine lv_iload_n hx hb d_Memory_setCell_72 rfl (lv_at hl 1 rfl) ?_
      refine lv_iload_n hx hb d_Memory_setCell_73 rfl (lv_at hl 2 rfl) ?_
      obtain ⟨q74_1, hc, hf⟩ := bindS hf
      refine mcV (n := 3) (As := [.int x5, .int x1, .int x2]) (rest := []) (wr := [(h_t, .inr (5, [v_t_words, v_t_bits, .ref h_t_held, .ref h_t_faults, v_t_latest])), (h_t_held, .inl (cI, n_t_held, .inl t_held_a)), (h_t_faults_kinds, .inl (cI, n_t_faults_kinds, .inl t_faults_kinds_a)), (h_t_faults_victimWords, .inl (cI, n_t_faults_victimWords, .inl t_faults_victimWords_a)), (h_t_faults_victimMasks, .inl (cI, n_t_faults_victimMasks, .inl t_faults_victimMasks_a))]) hx hb hml hown hts hK (c_FaultList_isOther (l := l) (D := D) (cI := cI) (cB := cB) (cJ := cJ) (h_t := h_t_faults) (h_t_otherWords := h_t_faults_otherWords) (h_t_otherMasks := h_t_faults_otherMasks) (v_t_kinds := (.ref h_t_faults_kinds)) (v_t_victimWords := (.ref h_t_faults_victimWords)) (v_t_victimMasks := (.ref h_t_faults_victimMasks)) (v_t_count := (.int t_faults_count)) (v_t_touchedWords := v_t_faults_touchedWords) (v_t_bits := v_t_faults_bits) (n_t_otherWords := n_t_faults_otherWords) (n_t_otherMasks := n_t_faults_otherMasks) (t_otherWords_a := t_faults_otherWords_a) (t_otherMasks_a := t_faults_otherMasks_a) (a1 := x5) (a2 := x1) (a3 := x2) (sz := H.size) (res := q74_1) (hf := hc)) w_233 w_234 w_235 w_28 w_236 (by decide +kernel) rfl rfl ⟨Nat.le_of_ble_eq_true rfl, Nat.le_of_ble_eq_true rfl⟩ hP hD hS hA [2, 4, 5] [0, 1, 3, 6, 7] rfl rfl (by decide) (by decide) (by decide) (ci := 3) 0 rfl rfl hl.1 rfl rfl (lv_room (Nat.le_of_ble_eq_true rfl)) d_Memory_setCell_74 ⟨Nat.le_of_ble_eq_true rfl, Nat.le_of_ble_eq_true rfl⟩ (fun o ws' H locs hp hP hD hS => ?_)
      obtain ⟨rfl, rfl⟩ := hp
      have hP : va_P D classes [(h_t, .inr (5, [v_t_words, v_t_bits, .ref h_t_held, .ref h_t_faults, v_t_latest])), (h_t_held, .inl (cI, n_t_held, .inl t_held_a)), (h_t_faults, .inr (3, [.ref h_t_faults_kinds, .ref h_t_faults_victimWords, .ref h_t_faults_victimMasks, .ref h_t_faults_otherWords, .ref h_t_faults_otherMasks, .int t_faults_count, v_t_faults_touchedWords, v_t_faults_bits])), (h_t_faults_kinds, .inl (cI, n_t_faults_kinds, .inl t_faults_kinds_a)), (h_t_faults_otherWords, .inl (cI, n_t_faults_otherWords, .inl t_faults_otherWords_a)), (h_t_faults_otherMasks, .inl (cI, n_t_faults_otherMasks, .inl t_faults_otherMasks_a)), (h_t_faults_victimWords, .inl (cI, n_t_faults_victimWords, .inl t_faults_victimWords_a)), (h_t_faults_victimMasks, .inl (cI, n_t_faults_victimMasks, .inl t_faults_victimMasks_a))] H := hP.sub [0, 1, 5, 2, 6, 7, 3, 4] rfl
      have hD : va_D A [(h_t, .inr (5, [v_t_words, v_t_bits, .ref h_t_held, .ref h_t_faults, v_t_latest])), (h_t_held, .inl (cI, n_t_held, .inl t_held_a)), (h_t_faults, .inr (3, [.ref h_t_faults_kinds, .ref h_t_faults_victimWords, .ref h_t_faults_victimMasks, .ref h_t_faults_otherWords, .ref h_t_faults_otherMasks, .int t_faults_count, v_t_faults_touchedWords, v_t_faults_bits])), (h_t_faults_kinds, .inl (cI, n_t_faults_kinds, .inl t_faults_kinds_a)), (h_t_faults_otherWords, .inl (cI, n_t_faults_otherWords, .inl t_faults_otherWords_a)), (h_t_faults_otherMasks, .inl (cI, n_t_faults_otherMasks, .inl t_faults_otherMasks_a)), (h_t_faults_victimWords, .inl (cI, n_t_faults_victimWords, .inl t_faults_victimWords_a)), (h_t_faults_victimMasks, .inl (cI, n_t_faults_victimMasks, .inl t_faults_victimMasks_a))] := hD.sub [0, 1, 5, 2, 6, 7, 3, 4] (by decide) rfl
      refine lv_if_eq (tgt := 108) hx hb d_Memory_setCell_77 (by decide) (fun cc77 => ?_) (fun cc77 => ?_)
      · have hf := ifT cc77 hf
        refine lv_iinc (v := (x5 + 1)) (lv' := [(5, .int (x5 + 1)), (0, .ref h_t), (1, .int x1), (2, .int x2), (4, .int x4)]) hx hb d_Memory_setCell_108 hl (k := 4) rfl rfl (by decide) rfl (fun ls hl => ?_)
        refine lv_goto (tgt := 39) hx hb d_Memory_setCell_111 (by decide) ?_
        exact hrec39 (t_held_a, (x5 + 1)) hf  H locs ls hP hD hS (lv_sub hl [1, 2, 3, 4, 0] rfl)
      · have hf := ifF cc77 hf
        refine lv_aload_n hx hb d_Memory_setCell_80 rfl (lv_at hl 0 rfl) ?_
        refine va_get (D := D) (ci := 5) (v := .ref h_t_held) (C := R_Memory) (T := F_Memory) (N := 5) hx hb hts i_Memory hown hK.1 hP 0 rfl rfl 2 (by decide) (hts _ w_25) (fun _ h9 => h9) rfl d_Memory_setCell_81 ?_
        refine lv_aload_n hx hb d_Memory_setCell_84 rfl (lv_at hl 0 rfl) ?_
        refine va_get (D := D) (ci := 5) (v := .ref h_t_faults) (C := R_Memory) (T := F_Memory) (N := 5) hx hb hts i_Memory hown hK.1 hP 0 rfl rfl 3 (by decide) (hts _ w_32) (fun _ h9 => h9) rfl d_Memory_setCell_85 ?_
        refine va_get (D := D) (ci := 3) (v := .ref h_t_faults_victimWords) (C := R_FaultList) (T := F_FaultList) (N := 8) hx hb hts i_FaultList hown hK.1 hP 2 rfl rfl 1 (by decide) (hts _ w_216) (fun _ h9 => h9) rfl d_Memory_setCell_88 ?_
        refine lv_iload hx hb d_Memory_setCell_91 (lv_at hl 4 rfl) ?_
        obtain ⟨hin1, hf⟩ := ifG hf
        refine va_iald hx hb hK.1 hP 6 0 rfl rfl (inB_in hin1) d_Memory_setCell_93 ?_
        refine lv_dup2_11 hx hb d_Memory_setCell_94 rfl rfl ?_
        obtain ⟨hin1, hf⟩ := ifG hf
        refine va_iald hx hb hK.1 hP 1 0 rfl rfl (inB_in hin1) d_Memory_setCell_95 ?_
        refine lv_aload_n hx hb d_Memory_setCell_96 rfl (lv_at hl 0 rfl) ?_
        refine va_get (D := D) (ci := 5) (v := .ref h_t_faults) (C := R_Memory) (T := F_Memory) (N := 5) hx hb hts i_Memory hown hK.1 hP 0 rfl rfl 3 (by decide) (hts _ w_32) (fun _ h9 => h9) rfl d_Memory_setCell_97 ?_
        refine va_get (D := D) (ci := 3) (v := .ref h_t_faults_victimMasks) (C := R_FaultList) (T := F_FaultList) (N := 8) hx hb hts i_FaultList hown hK.1 hP 2 rfl rfl 2 (by decide) (hts _ w_217) (fun _ h9 => h9) rfl d_Memory_setCell_100 ?_
        refine lv_iload hx hb d_Memory_setCell_103 (lv_at hl 4 rfl) ?_
        obtain ⟨hin1, hf⟩ := ifG hf
        refine va_iald hx hb hK.1 hP 7 0 rfl rfl (inB_in hin1) d_Memory_setCell_105 ?_
        refine lv_ixor hx hb d_Memory_setCell_106 ?_
        obtain ⟨hin1, hf⟩ := ifG hf
        refine va_iast hx hb hK.1 hP hD hS 1 0 rfl rfl (inB_in hin1) d_Memory_setCell_107 (fun H locs hP hD hS => ?_)
        have hP : va_P D classes [(h_t, .inr (5, [v_t_words, v_t_bits, .ref h_t_held, .ref h_t_faults, v_t_latest])), (h_t_held, .inl (cI, n_t_held, .inl (upd t_held_a (Int32.toNatClampNeg (t_faults_victimWords_a (Int32.toNatClampNeg x5))) ((t_held_a (Int32.toNatClampNeg (t_faults_victimWords_a (Int32.toNatClampNeg x5)))) ^^^ (t_faults_victimMasks_a (Int32.toNatClampNeg x5)))))), (h_t_faults, .inr (3, [.ref h_t_faults_kinds, .ref h_t_faults_victimWords, .ref h_t_faults_victimMasks, .ref h_t_faults_otherWords, .ref h_t_faults_otherMasks, .int t_faults_count, v_t_faults_touchedWords, v_t_faults_bits])), (h_t_faults_kinds, .inl (cI, n_t_faults_kinds, .inl t_faults_kinds_a)), (h_t_faults_otherWords, .inl (cI, n_t_faults_otherWords, .inl t_faults_otherWords_a)), (h_t_faults_otherMasks, .inl (cI, n_t_faults_otherMasks, .inl t_faults_otherMasks_a)), (h_t_faults_victimWords, .inl (cI, n_t_faults_victimWords, .inl t_faults_victimWords_a)), (h_t_faults_victimMasks, .inl (cI, n_t_faults_victimMasks, .inl t_faults_victimMasks_a))] H := hP
        have hD : va_D A [(h_t, .inr (5, [v_t_words, v_t_bits, .ref h_t_held, .ref h_t_faults, v_t_latest])), (h_t_held, .inl (cI, n_t_held, .inl (upd t_held_a (Int32.toNatClampNeg (t_faults_victimWords_a (Int32.toNatClampNeg x5))) ((t_held_a (Int32.toNatClampNeg (t_faults_victimWords_a (Int32.toNatClampNeg x5)))) ^^^ (t_faults_victimMasks_a (Int32.toNatClampNeg x5)))))), (h_t_faults, .inr (3, [.ref h_t_faults_kinds, .ref h_t_faults_victimWords, .ref h_t_faults_victimMasks, .ref h_t_faults_otherWords, .ref h_t_faults_otherMasks, .int t_faults_count, v_t_faults_touchedWords, v_t_faults_bits])), (h_t_faults_kinds, .inl (cI, n_t_faults_kinds, .inl t_faults_kinds_a)), (h_t_faults_otherWords, .inl (cI, n_t_faults_otherWords, .inl t_faults_otherWords_a)), (h_t_faults_otherMasks, .inl (cI, n_t_faults_otherMasks, .inl t_faults_otherMasks_a)), (h_t_faults_victimWords, .inl (cI, n_t_faults_victimWords, .inl t_faults_victimWords_a)), (h_t_faults_victimMasks, .inl (cI, n_t_faults_victimMasks, .inl t_faults_victimMasks_a))] := hD
        refine lv_iinc (v := (x5 + 1)) (lv' := [(5, .int (x5 + 1)), (0, .ref h_t), (1, .int x1), (2, .int x2), (4, .int x4)]) hx hb d_Memory_setCell_108 hl (k := 4) rfl rfl (by decide) rfl (fun ls hl => ?_)
        refine lv_goto (tgt := 39) hx hb d_Memory_setCell_111 (by decide) ?_
        exact hrec39 ((upd t_held_a (Int32.toNatClampNeg (t_faults_victimWords_a (Int32.toNatClampNeg x5))) ((t_held_a (Int32.toNatClampNeg (t_faults_victimWords_a (Int32.toNatClampNeg x5)))) ^^^ (t_faults_victimMasks_a (Int32.toNatClampNeg x5)))), (x5 + 1)) hf  H locs ls hP hD hS (lv_sub hl [1, 2, 3, 4, 0] rfl)
set_option maxHeartbeats 4000000 in
set_option maxRecDepth 100000 in
theorem k_Memory_setCell_39 {p : Program} {l : Launch} {e : Env} {s : State} {m : MethodId} {args : Array Value} {below : List Frame} {meth : Method} {c : Code} {D : va_G} {cI cB cJ : ClassId} {A : Nat → Prop} (C0 : CX p s m args meth c D [(cI, .int), (cB, .byte), (cJ, .long)] R_Memory b_Memory_setCell 6 none "setCell") (hA : ∀ q, s.heap.size ≤ q → A q) {h_t h_t_held h_t_faults h_t_faults_kinds h_t_faults_otherWords h_t_faults_otherMasks h_t_faults_victimWords h_t_faults_victimMasks : Nat} {v_t_words v_t_bits v_t_latest v_t_faults_touchedWords v_t_faults_bits : Value} {res : (Nat → Int32)} {n_t_held : Nat} {n_t_faults_kinds : Nat} {n_t_faults_otherWords : Nat} {n_t_faults_otherMasks : Nat} {n_t_faults_victimWords : Nat} {n_t_faults_victimMasks : Nat} {t_faults_count : Int32} {t_faults_kinds_a : Nat → Int32} {t_faults_otherWords_a : Nat → Int32} {t_faults_otherMasks_a : Nat → Int32} {t_faults_victimWords_a : Nat → Int32} {t_faults_victimMasks_a : Nat → Int32} {x1 : Int32} {x2 : Int32} {x4 : Int32}
    : ∀ (n : Nat) (st : ((Nat → Int32) × Int32)), lp (g_Memory_setCell_39 n_t_held n_t_faults_kinds n_t_faults_otherWords n_t_faults_otherMasks n_t_faults_victimWords n_t_faults_victimMasks t_faults_count t_faults_kinds_a t_faults_otherWords_a t_faults_otherMasks_a t_faults_victimWords_a t_faults_victimMasks_a x1 x2 x4) n st = some res → ∀  (H : Heap) (locs : List Loc) (ls : Array Slot), va_P D classes [(h_t, .inr (5, [v_t_words, v_t_bits, .ref h_t_held, .ref h_t_faults, v_t_latest])), (h_t_held, .inl (cI, n_t_held, .inl st.1)), (h_t_faults, .inr (3, [.ref h_t_faults_kinds, .ref h_t_faults_victimWords, .ref h_t_faults_victimMasks, .ref h_t_faults_otherWords, .ref h_t_faults_otherMasks, .int t_faults_count, v_t_faults_touchedWords, v_t_faults_bits])), (h_t_faults_kinds, .inl (cI, n_t_faults_kinds, .inl t_faults_kinds_a)), (h_t_faults_otherWords, .inl (cI, n_t_faults_otherWords, .inl t_faults_otherWords_a)), (h_t_faults_otherMasks, .inl (cI, n_t_faults_otherMasks, .inl t_faults_otherMasks_a)), (h_t_faults_victimWords, .inl (cI, n_t_faults_victimWords, .inl t_faults_victimWords_a)), (h_t_faults_victimMasks, .inl (cI, n_t_faults_victimMasks, .inl t_faults_victimMasks_a))] H → va_D A [(h_t, .inr (5, [v_t_words, v_t_bits, .ref h_t_held, .ref h_t_faults, v_t_latest])), (h_t_held, .inl (cI, n_t_held, .inl st.1)), (h_t_faults, .inr (3, [.ref h_t_faults_kinds, .ref h_t_faults_victimWords, .ref h_t_faults_victimMasks, .ref h_t_faults_otherWords, .ref h_t_faults_otherMasks, .int t_faults_count, v_t_faults_touchedWords, v_t_faults_bits])), (h_t_faults_kinds, .inl (cI, n_t_faults_kinds, .inl t_faults_kinds_a)), (h_t_faults_otherWords, .inl (cI, n_t_faults_otherWords, .inl t_faults_otherWords_a)), (h_t_faults_otherMasks, .inl (cI, n_t_faults_otherMasks, .inl t_faults_otherMasks_a)), (h_t_faults_victimWords, .inl (cI, n_t_faults_victimWords, .inl t_faults_victimWords_a)), (h_t_faults_victimMasks, .inl (cI, n_t_faults_victimMasks, .inl t_faults_victimMasks_a))] → va_S A s.heap H locs → lv_has ls 6 [(0, .ref h_t), (1, .int x1), (2, .int x2), (4, .int x4), (5, .int st.2)] → W p l e rm_Memory_setCell s m args below meth c H locs 0 0 (MQ below (QW D (post_Memory_setCell h_t h_t_held h_t_faults h_t_faults_kinds h_t_faults_otherWords h_t_faults_otherMasks h_t_faults_victimWords h_t_faults_victimMasks v_t_words v_t_bits v_t_latest v_t_faults_touchedWords v_t_faults_bits n_t_held n_t_faults_kinds n_t_faults_otherWords n_t_faults_otherMasks n_t_faults_victimWords n_t_faults_victimMasks t_faults_count t_faults_kinds_a t_faults_otherWords_a t_faults_otherMasks_a t_faults_victimWords_a t_faults_victimMasks_a cI cB cJ res) A) args s 0 0 A) (F0 m 39 ls []) := by
  intro n
  induction n with
  | zero => intro st hf; exact absurd hf (by simp [lp])
  | succ n ih =>
    intro st hf  H locs ls hP hD hS hl
    exact kb_Memory_setCell_39 C0 hA (rec39 := lp (g_Memory_setCell_39 n_t_held n_t_faults_kinds n_t_faults_otherWords n_t_faults_otherMasks n_t_faults_victimWords n_t_faults_victimMasks t_faults_count t_faults_kinds_a t_faults_otherWords_a t_faults_otherMasks_a t_faults_victimWords_a t_faults_victimMasks_a x1 x2 x4) n) (t_held_a := st.1) (x5 := st.2)  (fun st hf  H locs ls hP hD hS hl => ih st hf  H locs ls hP hD hS hl) hf hP hD hS hl
set_option maxHeartbeats 4000000 in
set_option maxRecDepth 100000 in
theorem c_Memory_setCell (l : Launch) (D : va_G) (cI cB cJ : ClassId) (h_t h_t_held h_t_faults h_t_faults_kinds h_t_faults_otherWords h_t_faults_otherMasks h_t_faults_victimWords h_t_faults_victimMasks : Nat) (v_t_words v_t_bits v_t_latest v_t_faults_touchedWords v_t_faults_bits : Value) (n_t_held : Nat) (n_t_faults_kinds : Nat) (n_t_faults_otherWords : Nat) (n_t_faults_otherMasks : Nat) (n_t_faults_victimWords : Nat) (n_t_faults_victimMasks : Nat) (t_held_a : Nat → Int32) (t_faults_count : Int32) (t_faults_kinds_a : Nat → Int32) (t_faults_otherWords_a : Nat → Int32) (t_faults_otherMasks_a : Nat → Int32) (t_faults_victimWords_a : Nat → Int32) (t_faults_victimMasks_a : Nat → Int32) (a1 : Int32) (a2 : Int32) (a3 : Int32) (sz : Nat) (res : (Nat → Int32)) (hf : f_Memory_setCell n_t_held n_t_faults_kinds n_t_faults_otherWords n_t_faults_otherMasks n_t_faults_victimWords n_t_faults_victimMasks t_held_a t_faults_count t_faults_kinds_a t_faults_otherWords_a t_faults_otherMasks_a t_faults_victimWords_a t_faults_victimMasks_a a1 a2 a3 = some res) : Met l y_Memory_setCell (.code y_Memory_setCell b_Memory_setCell 6 none :: TB) rm_Memory_setCell (PcW D [(cI, .int), (cB, .byte), (cJ, .long)] [.ref h_t, .int a1, .int a2, .int a3] [(h_t, .inr (5, [v_t_words, v_t_bits, .ref h_t_held, .ref h_t_faults, v_t_latest])), (h_t_held, .inl (cI, n_t_held, .inl t_held_a)), (h_t_faults, .inr (3, [.ref h_t_faults_kinds, .ref h_t_faults_victimWords, .ref h_t_faults_victimMasks, .ref h_t_faults_otherWords, .ref h_t_faults_otherMasks, .int t_faults_count, v_t_faults_touchedWords, v_t_faults_bits])), (h_t_faults_kinds, .inl (cI, n_t_faults_kinds, .inl t_faults_kinds_a)), (h_t_faults_otherWords, .inl (cI, n_t_faults_otherWords, .inl t_faults_otherWords_a)), (h_t_faults_otherMasks, .inl (cI, n_t_faults_otherMasks, .inl t_faults_otherMasks_a)), (h_t_faults_victimWords, .inl (cI, n_t_faults_victimWords, .inl t_faults_victimWords_a)), (h_t_faults_victimMasks, .inl (cI, n_t_faults_victimMasks, .inl t_faults_victimMasks_a))] sz) (QW D (post_Memory_setCell h_t h_t_held h_t_faults h_t_faults_kinds h_t_faults_otherWords h_t_faults_otherMasks h_t_faults_victimWords h_t_faults_victimMasks v_t_words v_t_bits v_t_latest v_t_faults_touchedWords v_t_faults_bits n_t_held n_t_faults_kinds n_t_faults_otherWords n_t_faults_otherMasks n_t_faults_victimWords n_t_faults_victimMasks t_faults_count t_faults_kinds_a t_faults_otherWords_a t_faults_otherMasks_a t_faults_victimWords_a t_faults_victimMasks_a cI cB cJ res) (va_A [(h_t, .inr (5, [v_t_words, v_t_bits, .ref h_t_held, .ref h_t_faults, v_t_latest])), (h_t_held, .inl (cI, n_t_held, .inl t_held_a)), (h_t_faults, .inr (3, [.ref h_t_faults_kinds, .ref h_t_faults_victimWords, .ref h_t_faults_victimMasks, .ref h_t_faults_otherWords, .ref h_t_faults_otherMasks, .int t_faults_count, v_t_faults_touchedWords, v_t_faults_bits])), (h_t_faults_kinds, .inl (cI, n_t_faults_kinds, .inl t_faults_kinds_a)), (h_t_faults_otherWords, .inl (cI, n_t_faults_otherWords, .inl t_faults_otherWords_a)), (h_t_faults_otherMasks, .inl (cI, n_t_faults_otherMasks, .inl t_faults_otherMasks_a)), (h_t_faults_victimWords, .inl (cI, n_t_faults_victimWords, .inl t_faults_victimWords_a)), (h_t_faults_victimMasks, .inl (cI, n_t_faults_victimMasks, .inl t_faults_victimMasks_a))] sz)) 0 0 (va_A [(h_t, .inr (5, [v_t_words, v_t_bits, .ref h_t_held, .ref h_t_faults, v_t_latest])), (h_t_held, .inl (cI, n_t_held, .inl t_held_a)), (h_t_faults, .inr (3, [.ref h_t_faults_kinds, .ref h_t_faults_victimWords, .ref h_t_faults_victimMasks, .ref h_t_faults_otherWords, .ref h_t_faults_otherMasks, .int t_faults_count, v_t_faults_touchedWords, v_t_faults_bits])), (h_t_faults_kinds, .inl (cI, n_t_faults_kinds, .inl t_faults_kinds_a)), (h_t_faults_otherWords, .inl (cI, n_t_faults_otherWords, .inl t_faults_otherWords_a)), (h_t_faults_otherMasks, .inl (cI, n_t_faults_otherMasks, .inl t_faults_otherMasks_a)), (h_t_faults_victimWords, .inl (cI, n_t_faults_victimWords, .inl t_faults_victimWords_a)), (h_t_faults_victimMasks, .inl (cI, n_t_faults_victimMasks, .inl t_faults_victimMasks_a))] sz) := by
  refine entW ⟨by decide +kernel, rfl⟩ fun p e s m below meth c C0 hP hD hsz ls hl => ?_
  subst hsz
  generalize hAe : va_A [(h_t, .inr (5, [v_t_words, v_t_bits, .ref h_t_held, .ref h_t_faults, v_t_latest])), (h_t_held, .inl (cI, n_t_held, .inl t_held_a)), (h_t_faults, .inr (3, [.ref h_t_faults_kinds, .ref h_t_faults_victimWords, .ref h_t_faults_victimMasks, .ref h_t_faults_otherWords, .ref h_t_faults_otherMasks, .int t_faults_count, v_t_faults_touchedWords, v_t_faults_bits])), (h_t_faults_kinds, .inl (cI, n_t_faults_kinds, .inl t_faults_kinds_a)), (h_t_faults_otherWords, .inl (cI, n_t_faults_otherWords, .inl t_faults_otherWords_a)), (h_t_faults_otherMasks, .inl (cI, n_t_faults_otherMasks, .inl t_faults_otherMasks_a)), (h_t_faults_victimWords, .inl (cI, n_t_faults_victimWords, .inl t_faults_victimWords_a)), (h_t_faults_victimMasks, .inl (cI, n_t_faults_victimMasks, .inl t_faults_victimMasks_a))] s.heap.size = A at hD ⊢
  have hA : ∀ q : Nat, s.heap.size ≤ q → A q := fun q h => by rw [← hAe]; exact Or.inr h
  clear hAe
  have hS : va_S A s.heap s.heap [] := va_S.rf
  have hl : lv_has ls 6 [(0, .ref h_t), (1, .int a1), (2, .int a2), (3, .int a3)] := hl
  obtain ⟨hx, hb, hml, hr, hlocks, hts, hown, hK, hin⟩ := id C0
  have hf : (((
  (if inB a1 n_t_held = true then
  (if ((t_held_a (Int32.toNatClampNeg a1)) &&& a2) = a3 then
    some t_held_a
  else
    (if inB a1 n_t_held = true then
    (if inB a1 n_t_held = true then
    (if a3 = 0 then
      (lp (g_Memory_setCell_39 n_t_held n_t_faults_kinds n_t_faults_otherWords n_t_faults_otherMasks n_t_faults_victimWords n_t_faults_victimMasks t_faults_count t_faults_kinds_a t_faults_otherWords_a t_faults_otherMasks_a t_faults_victimWords_a t_faults_victimMasks_a a1 a2 11) 100000 ((upd t_held_a (Int32.toNatClampNeg a1) ((t_held_a (Int32.toNatClampNeg a1)) ^^^ a2)), 0))
    else
      (lp (g_Memory_setCell_39 n_t_held n_t_faults_kinds n_t_faults_otherWords n_t_faults_otherMasks n_t_faults_victimWords n_t_faults_victimMasks t_faults_count t_faults_kinds_a t_faults_otherWords_a t_faults_otherMasks_a t_faults_victimWords_a t_faults_victimMasks_a a1 a2 10) 100000 ((upd t_held_a (Int32.toNatClampNeg a1) ((t_held_a (Int32.toNatClampNeg a1)) ^^^ a2)), 0)))
    else none)
    else none))
  else none))) : Option ((Nat → Int32))) = some res := hf
  obtain ⟨H, hH⟩ : ∃ H, H = s.heap := ⟨_, rfl⟩
  obtain ⟨locs, hlo⟩ : ∃ x : List Loc, x = [] := ⟨_, rfl⟩
  rw [← hlo] at hS ⊢
  have hP : va_P D classes [(h_t, .inr (5, [v_t_words, v_t_bits, .ref h_t_held, .ref h_t_faults, v_t_latest])), (h_t_held, .inl (cI, n_t_held, .inl t_held_a)), (h_t_faults, .inr (3, [.ref h_t_faults_kinds, .ref h_t_faults_victimWords, .ref h_t_faults_victimMasks, .ref h_t_faults_otherWords, .ref h_t_faults_otherMasks, .int t_faults_count, v_t_faults_touchedWords, v_t_faults_bits])), (h_t_faults_kinds, .inl (cI, n_t_faults_kinds, .inl t_faults_kinds_a)), (h_t_faults_otherWords, .inl (cI, n_t_faults_otherWords, .inl t_faults_otherWords_a)), (h_t_faults_otherMasks, .inl (cI, n_t_faults_otherMasks, .inl t_faults_otherMasks_a)), (h_t_faults_victimWords, .inl (cI, n_t_faults_victimWords, .inl t_faults_victimWords_a)), (h_t_faults_victimMasks, .inl (cI, n_t_faults_victimMasks, .inl t_faults_victimMasks_a))] H := by rw [hH]; exact hP
  have hS : va_S A s.heap H locs := by rw [hH]; exact hS
  show W p l e rm_Memory_setCell s m _ below meth c s.heap locs 0 0 (MQ below (QW D (post_Memory_setCell h_t h_t_held h_t_faults h_t_faults_kinds h_t_faults_otherWords h_t_faults_otherMasks h_t_faults_victimWords h_t_faults_victimMasks v_t_words v_t_bits v_t_latest v_t_faults_touchedWords v_t_faults_bits n_t_held n_t_faults_kinds n_t_faults_otherWords n_t_faults_otherMasks n_t_faults_victimWords n_t_faults_victimMasks t_faults_count t_faults_kinds_a t_faults_otherWords_a t_faults_otherMasks_a t_faults_victimWords_a t_faults_victimMasks_a cI cB cJ res) A) _ s 0 0 A) (F0 m 0 ls [])
  refine wheap hH ?_
  clear hH hlo
  refine lv_aload_n hx hb d_Memory_setCell_0 rfl (lv_at hl 0 rfl) ?_
  refine va_get (D := D) (ci := 5) (v := .ref h_t_held) (C := R_Memory) (T := F_Memory) (N := 5) hx hb hts i_Memory hown hK.1 hP 0 rfl rfl 2 (by decide) (hts _ w_25) (fun _ h9 => h9) rfl d_Memory_setCell_1 ?_
  refine lv_iload_n hx hb d_Memory_setCell_4 rfl (lv_at hl 1 rfl) ?_
  obtain ⟨hin1, hf⟩ := ifG hf
  refine va_iald hx hb hK.1 hP 1 0 rfl rfl (inB_in hin1) d_Memory_setCell_5 ?_
  refine lv_iload_n hx hb d_Memory_setCell_6 rfl (lv_at hl 2 rfl) ?_
  refine lv_iand hx hb d_Memory_setCell_7 ?_
  refine lv_iload_n hx hb d_Memory_setCell_8 rfl (lv_at hl 3 rfl) ?_
  refine lv_icmp_ne (tgt := 13) hx hb d_Memory_setCell_9 (by decide) (fun cc9 => ?_) (fun cc9 => ?_)
  · have hf := ifF cc9 hf
    refine lv_aload_n hx hb d_Memory_setCell_13 rfl (lv_at hl 0 rfl) ?_
    refine va_get (D := D) (ci := 5) (v := .ref h_t_held) (C := R_Memory) (T := F_Memory) (N := 5) hx hb hts i_Memory hown hK.1 hP 0 rfl rfl 2 (by decide) (hts _ w_25) (fun _ h9 => h9) rfl d_Memory_setCell_14 ?_
    refine lv_iload_n hx hb d_Memory_setCell_17 rfl (lv_at hl 1 rfl) ?_
    refine lv_dup2_11 hx hb d_Memory_setCell_18 rfl rfl ?_
    obtain ⟨hin1, hf⟩ := ifG hf
    refine va_iald hx hb hK.1 hP 1 0 rfl rfl (inB_in hin1) d_Memory_setCell_19 ?_
    refine lv_iload_n hx hb d_Memory_setCell_20 rfl (lv_at hl 2 rfl) ?_
    refine lv_ixor hx hb d_Memory_setCell_21 ?_
    obtain ⟨hin1, hf⟩ := ifG hf
    refine va_iast hx hb hK.1 hP hD hS 1 0 rfl rfl (inB_in hin1) d_Memory_setCell_22 (fun H locs hP hD hS => ?_)
    have hP : va_P D classes [(h_t, .inr (5, [v_t_words, v_t_bits, .ref h_t_held, .ref h_t_faults, v_t_latest])), (h_t_held, .inl (cI, n_t_held, .inl (upd t_held_a (Int32.toNatClampNeg a1) ((t_held_a (Int32.toNatClampNeg a1)) ^^^ a2)))), (h_t_faults, .inr (3, [.ref h_t_faults_kinds, .ref h_t_faults_victimWords, .ref h_t_faults_victimMasks, .ref h_t_faults_otherWords, .ref h_t_faults_otherMasks, .int t_faults_count, v_t_faults_touchedWords, v_t_faults_bits])), (h_t_faults_kinds, .inl (cI, n_t_faults_kinds, .inl t_faults_kinds_a)), (h_t_faults_otherWords, .inl (cI, n_t_faults_otherWords, .inl t_faults_otherWords_a)), (h_t_faults_otherMasks, .inl (cI, n_t_faults_otherMasks, .inl t_faults_otherMasks_a)), (h_t_faults_victimWords, .inl (cI, n_t_faults_victimWords, .inl t_faults_victimWords_a)), (h_t_faults_victimMasks, .inl (cI, n_t_faults_victimMasks, .inl t_faults_victimMasks_a))] H := hP
    have hD : va_D A [(h_t, .inr (5, [v_t_words, v_t_bits, .ref h_t_held, .ref h_t_faults, v_t_latest])), (h_t_held, .inl (cI, n_t_held, .inl (upd t_held_a (Int32.toNatClampNeg a1) ((t_held_a (Int32.toNatClampNeg a1)) ^^^ a2)))), (h_t_faults, .inr (3, [.ref h_t_faults_kinds, .ref h_t_faults_victimWords, .ref h_t_faults_victimMasks, .ref h_t_faults_otherWords, .ref h_t_faults_otherMasks, .int t_faults_count, v_t_faults_touchedWords, v_t_faults_bits])), (h_t_faults_kinds, .inl (cI, n_t_faults_kinds, .inl t_faults_kinds_a)), (h_t_faults_otherWords, .inl (cI, n_t_faults_otherWords, .inl t_faults_otherWords_a)), (h_t_faults_otherMasks, .inl (cI, n_t_faults_otherMasks, .inl t_faults_otherMasks_a)), (h_t_faults_victimWords, .inl (cI, n_t_faults_victimWords, .inl t_faults_victimWords_a)), (h_t_faults_victimMasks, .inl (cI, n_t_faults_victimMasks, .inl t_faults_victimMasks_a))] := hD
    refine lv_iload_n hx hb d_Memory_setCell_23 rfl (lv_at hl 3 rfl) ?_
    refine lv_if_eq (tgt := 32) hx hb d_Memory_setCell_24 (by decide) (fun cc24 => ?_) (fun cc24 => ?_)
    · have hf := ifT cc24 hf
      refine lv_bipush (v := 11) hx hb d_Memory_setCell_32 (by decide) ?_
      refine lv_istore (lv' := [(4, .int 11), (0, .ref h_t), (1, .int a1), (2, .int a2), (3, .int a3)]) hx hb d_Memory_setCell_34 hl (by decide) rfl (fun ls hl => ?_)
      refine lv_iconst (v := 0) hx hb d_Memory_setCell_36 (by decide) ?_
      refine lv_istore (lv' := [(5, .int 0), (4, .int 11), (0, .ref h_t), (1, .int a1), (2, .int a2), (3, .int a3)]) hx hb d_Memory_setCell_37 hl (by decide) rfl (fun ls hl => ?_)
      exact k_Memory_setCell_39 (s := s) C0 hA _ ((upd t_held_a (Int32.toNatClampNeg a1) ((t_held_a (Int32.toNatClampNeg a1)) ^^^ a2)), 0) hf  H locs ls hP hD hS (lv_sub hl [2, 3, 4, 1, 0] rfl)
    · have hf := ifF cc24 hf
      refine lv_bipush (v := 10) hx hb d_Memory_setCell_27 (by decide) ?_
      refine lv_goto (tgt := 34) hx hb d_Memory_setCell_29 (by decide) ?_
      refine lv_istore (lv' := [(4, .int 10), (0, .ref h_t), (1, .int a1), (2, .int a2), (3, .int a3)]) hx hb d_Memory_setCell_34 hl (by decide) rfl (fun ls hl => ?_)
      refine lv_iconst (v := 0) hx hb d_Memory_setCell_36 (by decide) ?_
      refine lv_istore (lv' := [(5, .int 0), (4, .int 10), (0, .ref h_t), (1, .int a1), (2, .int a2), (3, .int a3)]) hx hb d_Memory_setCell_37 hl (by decide) rfl (fun ls hl => ?_)
      exact k_Memory_setCell_39 (s := s) C0 hA _ ((upd t_held_a (Int32.toNatClampNeg a1) ((t_held_a (Int32.toNatClampNeg a1)) ^^^ a2)), 0) hf  H locs ls hP hD hS (lv_sub hl [2, 3, 4, 1, 0] rfl)
  · have hf := ifT cc9 hf
    obtain rfl := Option.some.inj hf
    exact ret_v hx hb hr hlocks hP hD hS ⟨rfl, rfl⟩ d_Memory_setCell_12
def g_Memory_store_13 (n_t_held : Nat) (n_t_faults_victimWords : Nat) (n_t_faults_victimMasks : Nat) (n_t_faults_kinds : Nat) (n_t_faults_otherWords : Nat) (n_t_faults_otherMasks : Nat) (t_bits : Int32) (t_faults_count : Int32) (t_faults_victimWords_a : Nat → Int32) (t_faults_victimMasks_a : Nat → Int32) (t_faults_kinds_a : Nat → Int32) (t_faults_otherWords_a : Nat → Int32) (t_faults_otherMasks_a : Nat → Int32) (x1 : Int32) (x2 : Int32) (rec13 : ((Nat → Int32) × Int32) → Option ((Nat → Int32))) (st : ((Nat → Int32) × Int32)) : Option ((Nat → Int32)) :=
  (if t_bits ≤ st.2 then
    (Option.bind (f_Memory_settle n_t_faults_victimWords n_t_faults_victimMasks n_t_faults_kinds n_t_held n_t_faults_otherWords n_t_faults_otherMasks t_faults_count t_faults_victimWords_a t_faults_victimMasks_a t_faults_kinds_a st.1 t_faults_otherWords_a t_faults_otherMasks_a) fun q61_3 =>
    some q61_3)
  else
    (Option.bind (f_Memory_valueToStore n_t_held n_t_faults_victimWords n_t_faults_victimMasks n_t_faults_kinds st.1 t_faults_count t_faults_victimWords_a t_faults_victimMasks_a t_faults_kinds_a x1 (1 <<< (st.2 &&& 31)) (x2 &&& (1 <<< (st.2 &&& 31)))) fun q38_4 =>
    (Option.bind (f_Memory_setCell n_t_held n_t_faults_kinds n_t_faults_otherWords n_t_faults_otherMasks n_t_faults_victimWords n_t_faults_victimMasks st.1 t_faults_count t_faults_kinds_a t_faults_otherWords_a t_faults_otherMasks_a t_faults_victimWords_a t_faults_victimMasks_a x1 (1 <<< (st.2 &&& 31)) q38_4) fun q41_5 =>
    (rec13 (q41_5, (st.2 + 1))))))
def f_Memory_store (n_t_held : Nat) (n_t_faults_victimWords : Nat) (n_t_faults_victimMasks : Nat) (n_t_faults_kinds : Nat) (n_t_faults_otherWords : Nat) (n_t_faults_otherMasks : Nat) (t_bits : Int32) (t_faults_count : Int32) (t_faults_touchedWords : Int32) (t_held_a : Nat → Int32) (t_faults_victimWords_a : Nat → Int32) (t_faults_victimMasks_a : Nat → Int32) (t_faults_kinds_a : Nat → Int32) (t_faults_otherWords_a : Nat → Int32) (t_faults_otherMasks_a : Nat → Int32) (a1 : Int32) (a2 : Int32) : Option ((Nat → Int32)) :=
  (Option.bind (f_FaultList_touches t_faults_touchedWords a1) fun q5_1 =>
  (if q5_1 = 0 then
    (if inB a1 n_t_held = true then
    (Option.bind (f_Memory_settle n_t_faults_victimWords n_t_faults_victimMasks n_t_faults_kinds n_t_held n_t_faults_otherWords n_t_faults_otherMasks t_faults_count t_faults_victimWords_a t_faults_victimMasks_a t_faults_kinds_a (upd t_held_a (Int32.toNatClampNeg a1) a2) t_faults_otherWords_a t_faults_otherMasks_a) fun q61_2 =>
    some q61_2)
    else none)
  else
    (lp (g_Memory_store_13 n_t_held n_t_faults_victimWords n_t_faults_victimMasks n_t_faults_kinds n_t_faults_otherWords n_t_faults_otherMasks t_bits t_faults_count t_faults_victimWords_a t_faults_victimMasks_a t_faults_kinds_a t_faults_otherWords_a t_faults_otherMasks_a a1 a2) 100000 (t_held_a, 0))))
def post_Memory_store (h_t h_t_faults h_t_held h_t_faults_victimWords h_t_faults_victimMasks h_t_faults_kinds h_t_faults_otherWords h_t_faults_otherMasks : Nat) (v_t_words v_t_latest v_t_faults_bits : Value) (n_t_held : Nat) (n_t_faults_victimWords : Nat) (n_t_faults_victimMasks : Nat) (n_t_faults_kinds : Nat) (n_t_faults_otherWords : Nat) (n_t_faults_otherMasks : Nat) (t_bits : Int32) (t_faults_count : Int32) (t_faults_touchedWords : Int32) (t_faults_victimWords_a : Nat → Int32) (t_faults_victimMasks_a : Nat → Int32) (t_faults_kinds_a : Nat → Int32) (t_faults_otherWords_a : Nat → Int32) (t_faults_otherMasks_a : Nat → Int32) (cI cB cJ : ClassId) (res : (Nat → Int32)) : Option Value → va_W → Prop := fun o ws' => o = none ∧ ws' = [(h_t, .inr (5, [v_t_words, .int t_bits, .ref h_t_held, .ref h_t_faults, v_t_latest])), (h_t_faults, .inr (3, [.ref h_t_faults_kinds, .ref h_t_faults_victimWords, .ref h_t_faults_victimMasks, .ref h_t_faults_otherWords, .ref h_t_faults_otherMasks, .int t_faults_count, .int t_faults_touchedWords, v_t_faults_bits])), (h_t_held, .inl (cI, n_t_held, .inl res)), (h_t_faults_victimWords, .inl (cI, n_t_faults_victimWords, .inl t_faults_victimWords_a)), (h_t_faults_victimMasks, .inl (cI, n_t_faults_victimMasks, .inl t_faults_victimMasks_a)), (h_t_faults_kinds, .inl (cI, n_t_faults_kinds, .inl t_faults_kinds_a)), (h_t_faults_otherWords, .inl (cI, n_t_faults_otherWords, .inl t_faults_otherWords_a)), (h_t_faults_otherMasks, .inl (cI, n_t_faults_otherMasks, .inl t_faults_otherMasks_a))]
abbrev rm_Memory_store : Room := { frames := 2, cells := 0, slots := 0, locals := 50 }
set_option maxHeartbeats 4000000 in
set_option maxRecDepth 100000 in
theorem kb_Memory_store_13 {p : Program} {l : Launch} {e : Env} {s : State} {m : MethodId} {args : Array Value} {below : List Frame} {meth : Method} {c : Code} {D : va_G} {cI cB cJ : ClassId} {A : Nat → Prop} (C0 : CX p s m args meth c D [(cI, .int), (cB, .byte), (cJ, .long)] R_Memory b_Memory_store 5 none "store") (hA : ∀ q, s.heap.size ≤ q → A q) {h_t h_t_faults h_t_held h_t_faults_victimWords h_t_faults_victimMasks h_t_faults_kinds h_t_faults_otherWords h_t_faults_otherMasks : Nat} {v_t_words v_t_latest v_t_faults_bits : Value} {res : (Nat → Int32)} {rec13 : ((Nat → Int32) × Int32) → Option ((Nat → Int32))} {n_t_held : Nat} {n_t_faults_victimWords : Nat} {n_t_faults_victimMasks : Nat} {n_t_faults_kinds : Nat} {n_t_faults_otherWords : Nat} {n_t_faults_otherMasks : Nat} {t_bits : Int32} {t_faults_count : Int32} {t_faults_touchedWords : Int32} {t_held_a : Nat → Int32} {t_faults_victimWords_a : Nat → Int32} {t_faults_victimMasks_a : Nat → Int32} {t_faults_kinds_a : Nat → Int32} {t_faults_otherWords_a : Nat → Int32} {t_faults_otherMasks_a : Nat → Int32} {x1 : Int32} {x2 : Int32} {x3 : Int32}
    (hrec13 : ∀ (st : ((Nat → Int32) × Int32)), rec13 st = some res → ∀  (H : Heap) (locs : List Loc) (ls : Array Slot), va_P D classes [(h_t, .inr (5, [v_t_words, .int t_bits, .ref h_t_held, .ref h_t_faults, v_t_latest])), (h_t_faults, .inr (3, [.ref h_t_faults_kinds, .ref h_t_faults_victimWords, .ref h_t_faults_victimMasks, .ref h_t_faults_otherWords, .ref h_t_faults_otherMasks, .int t_faults_count, .int t_faults_touchedWords, v_t_faults_bits])), (h_t_held, .inl (cI, n_t_held, .inl st.1)), (h_t_faults_victimWords, .inl (cI, n_t_faults_victimWords, .inl t_faults_victimWords_a)), (h_t_faults_victimMasks, .inl (cI, n_t_faults_victimMasks, .inl t_faults_victimMasks_a)), (h_t_faults_kinds, .inl (cI, n_t_faults_kinds, .inl t_faults_kinds_a)), (h_t_faults_otherWords, .inl (cI, n_t_faults_otherWords, .inl t_faults_otherWords_a)), (h_t_faults_otherMasks, .inl (cI, n_t_faults_otherMasks, .inl t_faults_otherMasks_a))] H → va_D A [(h_t, .inr (5, [v_t_words, .int t_bits, .ref h_t_held, .ref h_t_faults, v_t_latest])), (h_t_faults, .inr (3, [.ref h_t_faults_kinds, .ref h_t_faults_victimWords, .ref h_t_faults_victimMasks, .ref h_t_faults_otherWords, .ref h_t_faults_otherMasks, .int t_faults_count, .int t_faults_touchedWords, v_t_faults_bits])), (h_t_held, .inl (cI, n_t_held, .inl st.1)), (h_t_faults_victimWords, .inl (cI, n_t_faults_victimWords, .inl t_faults_victimWords_a)), (h_t_faults_victimMasks, .inl (cI, n_t_faults_victimMasks, .inl t_faults_victimMasks_a)), (h_t_faults_kinds, .inl (cI, n_t_faults_kinds, .inl t_faults_kinds_a)), (h_t_faults_otherWords, .inl (cI, n_t_faults_otherWords, .inl t_faults_otherWords_a)), (h_t_faults_otherMasks, .inl (cI, n_t_faults_otherMasks, .inl t_faults_otherMasks_a))] → va_S A s.heap H locs → lv_has ls 5 [(0, .ref h_t), (1, .int x1), (2, .int x2), (3, .int st.2)] → W p l e rm_Memory_store s m args below meth c H locs 0 0 (MQ below (QW D (post_Memory_store h_t h_t_faults h_t_held h_t_faults_victimWords h_t_faults_victimMasks h_t_faults_kinds h_t_faults_otherWords h_t_faults_otherMasks v_t_words v_t_latest v_t_faults_bits n_t_held n_t_faults_victimWords n_t_faults_victimMasks n_t_faults_kinds n_t_faults_otherWords n_t_faults_otherMasks t_bits t_faults_count t_faults_touchedWords t_faults_victimWords_a t_faults_victimMasks_a t_faults_kinds_a t_faults_otherWords_a t_faults_otherMasks_a cI cB cJ res) A) args s 0 0 A) (F0 m 13 ls []))
    (hf : g_Memory_store_13 n_t_held n_t_faults_victimWords n_t_faults_victimMasks n_t_faults_kinds n_t_faults_otherWords n_t_faults_otherMasks t_bits t_faults_count t_faults_victimWords_a t_faults_victimMasks_a t_faults_kinds_a t_faults_otherWords_a t_faults_otherMasks_a x1 x2 rec13 (t_held_a, x3) = some res) {H : Heap} {locs : List Loc} {ls : Array Slot} (hP : va_P D classes [(h_t, .inr (5, [v_t_words, .int t_bits, .ref h_t_held, .ref h_t_faults, v_t_latest])), (h_t_faults, .inr (3, [.ref h_t_faults_kinds, .ref h_t_faults_victimWords, .ref h_t_faults_victimMasks, .ref h_t_faults_otherWords, .ref h_t_faults_otherMasks, .int t_faults_count, .int t_faults_touchedWords, v_t_faults_bits])), (h_t_held, .inl (cI, n_t_held, .inl t_held_a)), (h_t_faults_victimWords, .inl (cI, n_t_faults_victimWords, .inl t_faults_victimWords_a)), (h_t_faults_victimMasks, .inl (cI, n_t_faults_victimMasks, .inl t_faults_victimMasks_a)), (h_t_faults_kinds, .inl (cI, n_t_faults_kinds, .inl t_faults_kinds_a)), (h_t_faults_otherWords, .inl (cI, n_t_faults_otherWords, .inl t_faults_otherWords_a)), (h_t_faults_otherMasks, .inl (cI, n_t_faults_otherMasks, .inl t_faults_otherMasks_a))] H) (hD : va_D A [(h_t, .inr (5, [v_t_words, .int t_bits, .ref h_t_held, .ref h_t_faults, v_t_latest])), (h_t_faults, .inr (3, [.ref h_t_faults_kinds, .ref h_t_faults_victimWords, .ref h_t_faults_victimMasks, .ref h_t_faults_otherWords, .ref h_t_faults_otherMasks, .int t_faults_count, .int t_faults_touchedWords, v_t_faults_bits])), (h_t_held, .inl (cI, n_t_held, .inl t_held_a)), (h_t_faults_victimWords, .inl (cI, n_t_faults_victimWords, .inl t_faults_victimWords_a)), (h_t_faults_victimMasks, .inl (cI, n_t_faults_victimMasks, .inl t_faults_victimMasks_a)), (h_t_faults_kinds, .inl (cI, n_t_faults_kinds, .inl t_faults_kinds_a)), (h_t_faults_otherWords, .inl (cI, n_t_faults_otherWords, .inl t_faults_otherWords_a)), (h_t_faults_otherMasks, .inl (cI, n_t_faults_otherMasks, .inl t_faults_otherMasks_a))]) (hS : va_S A s.heap H locs) (hl : lv_has ls 5 [(0, .ref h_t), (1, .int x1), (2, .int x2), (3, .int x3)]) : W p l e rm_Memory_store s m args below meth c H locs 0 0 (MQ below (QW D (post_Memory_store h_t h_t_faults h_t_held h_t_faults_victimWords h_t_faults_victimMasks h_t_faults_kinds h_t_faults_otherWords h_t_faults_otherMasks v_t_words v_t_latest v_t_faults_bits n_t_held n_t_faults_victimWords n_t_faults_victimMasks n_t_faults_kinds n_t_faults_otherWords n_t_faults_otherMasks t_bits t_faults_count t_faults_touchedWords t_faults_victimWords_a t_faults_victimMasks_a t_faults_kinds_a t_faults_otherWords_a t_faults_otherMasks_a cI cB cJ res) A) args s 0 0 A) (F0 m 13 ls []) := by
  obtain ⟨hx, hb, hml, hr, hlocks, hts, hown, hK, hin⟩ := id C0
  have hf : (((
  (if t_bits ≤ x3 then
    (Option.bind (f_Memory_settle n_t_faults_victimWords n_t_faults_victimMasks n_t_faults_kinds n_t_held n_t_faults_otherWords n_t_faults_otherMasks t_faults_count t_faults_victimWords_a t_faults_victimMasks_a t_faults_kinds_a t_held_a t_faults_otherWords_a t_faults_otherMasks_a) fun q61_3 =>
    some q61_3)
  else
    (Option.bind (f_Memory_valueToStore n_t_held n_t_faults_victimWords n_t_faults_victimMasks n_t_faults_kinds t_held_a t_faults_count t_faults_victimWords_a t_faults_victimMasks_a t_faults_kinds_a x1 (1 <<< (x3 &&& 31)) (x2 &&& (1 <<< (x3 &&& 31)))) fun q38_4 =>
    (Option.bind (f_Memory_setCell n_t_held n_t_faults_kinds n_t_faults_otherWords n_t_faults_otherMasks n_t_faults_victimWords n_t_faults_victimMasks t_held_a t_faults_count t_faults_kinds_a t_faults_otherWords_a t_faults_otherMasks_a t_faults_victimWords_a t_faults_victimMasks_a x1 (1 <<< (x3 &&& 31)) q38_4) fun q41_5 =>
    (rec13 (q41_5, (x3 + 1)))))))) : Option ((Nat → Int32))) = some res := hf
  refine lv_iload_n hx hb d_Memory_store_13 rfl (lv_at hl 3 rfl) ?_
  refine lv_aload_n hx hb d_Memory_store_14 rfl (lv_at hl 0 rfl) ?_
  refine va_get (D := D) (ci := 5) (v := .int t_bits) (C := R_Memory) (T := F_Memory) (N := 5) hx hb hts i_Memory hown hK.1 hP 0 rfl rfl 1 (by decide) (hts _ w_24) (fun _ h9 => h9) rfl d_Memory_store_15 ?_
  refine lv_icmp_ge (tgt := 50) hx hb d_Memory_store_18 (by decide) (fun cc18 => ?_) (fun cc18 => ?_)
  · have hf := ifT cc18 hf
    refine lv_goto (tgt := 60) hx hb d_Memory_store_50 (by decide) ?_
    refine lv_aload_n hx hb d_Memory_store_60 rfl (lv_at hl 0 rfl) ?_
    obtain ⟨q61_3, hc, hf⟩ := bindS hf
    refine mcV (n := 0) (As := []) (rest := []) (wr := []) hx hb hml hown hts hK (c_Memory_settle (l := l) (D := D) (cI := cI) (cB := cB) (cJ := cJ) (h_t := h_t) (h_t_faults := h_t_faults) (h_t_faults_victimWords := h_t_faults_victimWords) (h_t_faults_victimMasks := h_t_faults_victimMasks) (h_t_faults_kinds := h_t_faults_kinds) (h_t_held := h_t_held) (h_t_faults_otherWords := h_t_faults_otherWords) (h_t_faults_otherMasks := h_t_faults_otherMasks) (v_t_words := v_t_words) (v_t_bits := (.int t_bits)) (v_t_latest := v_t_latest) (v_t_faults_touchedWords := (.int t_faults_touchedWords)) (v_t_faults_bits := v_t_faults_bits) (n_t_faults_victimWords := n_t_faults_victimWords) (n_t_faults_victimMasks := n_t_faults_victimMasks) (n_t_faults_kinds := n_t_faults_kinds) (n_t_held := n_t_held) (n_t_faults_otherWords := n_t_faults_otherWords) (n_t_faults_otherMasks := n_t_faults_otherMasks) (t_faults_count := t_faults_count) (t_faults_victimWords_a := t_faults_victimWords_a) (t_faults_victimMasks_a := t_faults_victimMasks_a) (t_faults_kinds_a := t_faults_kinds_a) (t_held_a := t_held_a) (t_faults_otherWords_a := t_faults_otherWords_a) (t_faults_otherMasks_a := t_faults_otherMasks_a) (sz := H.size) (res := q61_3) (hf := hc)) w_222 w_223 w_224 w_41 w_225 (by decide +kernel) rfl rfl ⟨Nat.le_of_ble_eq_true rfl, Nat.le_of_ble_eq_true rfl⟩ hP hD hS hA [0, 1, 3, 4, 5, 2, 6, 7] [] rfl rfl (by decide) (by decide) (by decide) (ci := 5) 0 rfl rfl hl.1 rfl rfl (lv_room (Nat.le_of_ble_eq_true rfl)) d_Memory_store_61 ⟨Nat.le_of_ble_eq_true rfl, Nat.le_of_ble_eq_true rfl⟩ (fun o ws' H locs hp hP hD hS => ?_)
    obtain ⟨rfl, rfl⟩ := hp
    have hP : va_P D classes [(h_t, .inr (5, [v_t_words, .int t_bits, .ref h_t_held, .ref h_t_faults, v_t_latest])), (h_t_faults, .inr (3, [.ref h_t_faults_kinds, .ref h_t_faults_victimWords, .ref h_t_faults_victimMasks, .ref h_t_faults_otherWords, .ref h_t_faults_otherMasks, .int t_faults_count, .int t_faults_touchedWords, v_t_faults_bits])), (h_t_held, .inl (cI, n_t_held, .inl q61_3)), (h_t_faults_victimWords, .inl (cI, n_t_faults_victimWords, .inl t_faults_victimWords_a)), (h_t_faults_victimMasks, .inl (cI, n_t_faults_victimMasks, .inl t_faults_victimMasks_a)), (h_t_faults_kinds, .inl (cI, n_t_faults_kinds, .inl t_faults_kinds_a)), (h_t_faults_otherWords, .inl (cI, n_t_faults_otherWords, .inl t_faults_otherWords_a)), (h_t_faults_otherMasks, .inl (cI, n_t_faults_otherMasks, .inl t_faults_otherMasks_a))] H := hP.sub [0, 1, 5, 2, 3, 4, 6, 7] rfl
    have hD : va_D A [(h_t, .inr (5, [v_t_words, .int t_bits, .ref h_t_held, .ref h_t_faults, v_t_latest])), (h_t_faults, .inr (3, [.ref h_t_faults_kinds, .ref h_t_faults_victimWords, .ref h_t_faults_victimMasks, .ref h_t_faults_otherWords, .ref h_t_faults_otherMasks, .int t_faults_count, .int t_faults_touchedWords, v_t_faults_bits])), (h_t_held, .inl (cI, n_t_held, .inl q61_3)), (h_t_faults_victimWords, .inl (cI, n_t_faults_victimWords, .inl t_faults_victimWords_a)), (h_t_faults_victimMasks, .inl (cI, n_t_faults_victimMasks, .inl t_faults_victimMasks_a)), (h_t_faults_kinds, .inl (cI, n_t_faults_kinds, .inl t_faults_kinds_a)), (h_t_faults_otherWords, .inl (cI, n_t_faults_otherWords, .inl t_faults_otherWords_a)), (h_t_faults_otherMasks, .inl (cI, n_t_faults_otherMasks, .inl t_faults_otherMasks_a))] := hD.sub [0, 1, 5, 2, 3, 4, 6, 7] (by decide) rfl
    obtain rfl := Option.some.inj hf
    exact ret_v hx hb hr hlocks hP hD hS ⟨rfl, rfl⟩ d_Memory_store_64
  · have hf := ifF cc18 hf
    refine lv_iconst (v := 1) hx hb d_Memory_store_21 (by decide) ?_
    refine lv_iload_n hx hb d_Memory_store_22 rfl (lv_at hl 3 rfl) ?_
    refine lv_ishl hx hb d_Memory_store_23 ?_
    refine lv_istore (lv' := [(4, .int (1 <<< (x3 &&& 31))), (0, .ref h_t), (1, .int x1), (2, .int x2), (3, .int x3)]) hx hb d_Memory_store_24 hl (by decide) rfl (fun ls hl => ?_)
    refine lv_aload_n hx hb d_Memory_store_26 rfl (lv_at hl 1 rfl) ?_
    refine lv_iload_n hx hb d_Memory_store_27 rfl (lv_at hl 2 rfl) ?_
    refine lv_iload hx hb d_Memory_store_28 (lv_at hl 0 rfl) ?_
    refine lv_aload_n hx hb d_Memory_store_30 rfl (lv_at hl 1 rfl) ?_
    refine lv_iload_n hx hb d_Memory_store_31 rfl (lv_at hl 2 rfl) ?_
    refine lv_iload hx hb d_Memory_store_32 (lv_at hl 0 rfl) ?_
    refine lv_iload_n hx hb d_Memory_store_34 rfl (lv_at hl 3 rfl) ?_
    refine lv_iload hx hb d_Memory_store_35 (lv_at hl 0 rfl) ?_
    refine lv_iand hx hb d_Memory_store_37 ?_
    obtain ⟨q38_4, hc, hf⟩ := bindS hf
    refine mcV (n := 3) (As := [.int x1, .int (1 <<< (x3 &&& 31)), .int (x2 &&& (1 <<< (x3 &&& 31)))]) (rest := [.int (1 <<< (x3 &&& 31)), .int x1, .ref h_t]) (wr := [(h_t_faults_otherWords, .inl (cI, n_t_faults_otherWords, .inl t_faults_otherWords_a)), (h_t_faults_otherMasks, .inl (cI, n_t_faults_otherMasks, .inl t_faults_otherMasks_a))]) hx hb hml hown hts hK (c_Memory_valueToStore (l := l) (D := D) (cI := cI) (cB := cB) (cJ := cJ) (h_t := h_t) (h_t_held := h_t_held) (h_t_faults := h_t_faults) (h_t_faults_victimWords := h_t_faults_victimWords) (h_t_faults_victimMasks := h_t_faults_victimMasks) (h_t_faults_kinds := h_t_faults_kinds) (v_t_words := v_t_words) (v_t_bits := (.int t_bits)) (v_t_latest := v_t_latest) (v_t_faults_otherWords := (.ref h_t_faults_otherWords)) (v_t_faults_otherMasks := (.ref h_t_faults_otherMasks)) (v_t_faults_touchedWords := (.int t_faults_touchedWords)) (v_t_faults_bits := v_t_faults_bits) (n_t_held := n_t_held) (n_t_faults_victimWords := n_t_faults_victimWords) (n_t_faults_victimMasks := n_t_faults_victimMasks) (n_t_faults_kinds := n_t_faults_kinds) (t_held_a := t_held_a) (t_faults_count := t_faults_count) (t_faults_victimWords_a := t_faults_victimWords_a) (t_faults_victimMasks_a := t_faults_victimMasks_a) (t_faults_kinds_a := t_faults_kinds_a) (a1 := x1) (a2 := (1 <<< (x3 &&& 31))) (a3 := (x2 &&& (1 <<< (x3 &&& 31)))) (sz := H.size) (res := q38_4) (hf := hc)) w_241 w_242 w_243 w_41 w_244 (by decide +kernel) rfl rfl ⟨Nat.le_of_ble_eq_true rfl, Nat.le_of_ble_eq_true rfl⟩ hP hD hS hA [0, 2, 1, 3, 4, 5] [6, 7] rfl rfl (by decide) (by decide) (by decide) (ci := 5) 0 rfl rfl hl.1 rfl rfl (lv_room (Nat.le_of_ble_eq_true rfl)) d_Memory_store_38 ⟨Nat.le_of_ble_eq_true rfl, Nat.le_of_ble_eq_true rfl⟩ (fun o ws' H locs hp hP hD hS => ?_)
    obtain ⟨rfl, rfl⟩ := hp
    have hP : va_P D classes [(h_t, .inr (5, [v_t_words, .int t_bits, .ref h_t_held, .ref h_t_faults, v_t_latest])), (h_t_faults, .inr (3, [.ref h_t_faults_kinds, .ref h_t_faults_victimWords, .ref h_t_faults_victimMasks, .ref h_t_faults_otherWords, .ref h_t_faults_otherMasks, .int t_faults_count, .int t_faults_touchedWords, v_t_faults_bits])), (h_t_held, .inl (cI, n_t_held, .inl t_held_a)), (h_t_faults_victimWords, .inl (cI, n_t_faults_victimWords, .inl t_faults_victimWords_a)), (h_t_faults_victimMasks, .inl (cI, n_t_faults_victimMasks, .inl t_faults_victimMasks_a)), (h_t_faults_kinds, .inl (cI, n_t_faults_kinds, .inl t_faults_kinds_a)), (h_t_faults_otherWords, .inl (cI, n_t_faults_otherWords, .inl t_faults_otherWords_a)), (h_t_faults_otherMasks, .inl (cI, n_t_faults_otherMasks, .inl t_faults_otherMasks_a))] H := hP.sub [2, 4, 3, 5, 6, 7, 0, 1] rfl
    have hD : va_D A [(h_t, .inr (5, [v_t_words, .int t_bits, .ref h_t_held, .ref h_t_faults, v_t_latest])), (h_t_faults, .inr (3, [.ref h_t_faults_kinds, .ref h_t_faults_victimWords, .ref h_t_faults_victimMasks, .ref h_t_faults_otherWords, .ref h_t_faults_otherMasks, .int t_faults_count, .int t_faults_touchedWords, v_t_faults_bits])), (h_t_held, .inl (cI, n_t_held, .inl t_held_a)), (h_t_faults_victimWords, .inl (cI, n_t_faults_victimWords, .inl t_faults_victimWords_a)), (h_t_faults_victimMasks, .inl (cI, n_t_faults_victimMasks, .inl t_faults_victimMasks_a)), (h_t_faults_kinds, .inl (cI, n_t_faults_kinds, .inl t_faults_kinds_a)), (h_t_faults_otherWords, .inl (cI, n_t_faults_otherWords, .inl t_faults_otherWords_a)), (h_t_faults_otherMasks, .inl (cI, n_t_faults_otherMasks, .inl t_faults_otherMasks_a))] := hD.sub [2, 4, 3, 5, 6, 7, 0, 1] (by decide) rfl
    obtain ⟨q41_5, hc, hf⟩ := bindS hf
    refine mcV (n := 3) (As := [.int x1, .int (1 <<< (x3 &&& 31)), .int q38_4]) (rest := []) (wr := []) hx hb hml hown hts hK (c_Memory_setCell (l := l) (D := D) (cI := cI) (cB := cB) (cJ := cJ) (h_t := h_t) (h_t_held := h_t_held) (h_t_faults := h_t_faults) (h_t_faults_kinds := h_t_faults_kinds) (h_t_faults_otherWords := h_t_faults_otherWords) (h_t_faults_otherMasks := h_t_faults_otherMasks) (h_t_faults_victimWords := h_t_faults_victimWords) (h_t_faults_victimMasks := h_t_faults_victimMasks) (v_t_words := v_t_words) (v_t_bits := (.int t_bits)) (v_t_latest := v_t_latest) (v_t_faults_touchedWords := (.int t_faults_touchedWords)) (v_t_faults_bits := v_t_faults_bits) (n_t_held := n_t_held) (n_t_faults_kinds := n_t_faults_kinds) (n_t_faults_otherWords := n_t_faults_otherWords) (n_t_faults_otherMasks := n_t_faults_otherMasks) (n_t_faults_victimWords := n_t_faults_victimWords) (n_t_faults_victimMasks := n_t_faults_victimMasks) (t_held_a := t_held_a) (t_faults_count := t_faults_count) (t_faults_kinds_a := t_faults_kinds_a) (t_faults_otherWords_a := t_faults_otherWords_a) (t_faults_otherMasks_a := t_faults_otherMasks_a) (t_faults_victimWords_a := t_faults_victimWords_a) (t_faults_victimMasks_a := t_faults_victimMasks_a) (a1 := x1) (a2 := (1 <<< (x3 &&& 31))) (a3 := q38_4) (sz := H.size) (res := q41_5) (hf := hc)) w_245 w_246 w_247 w_41 w_248 (by decide +kernel) rfl rfl ⟨Nat.le_of_ble_eq_true rfl, Nat.le_of_ble_eq_true rfl⟩ hP hD hS hA [0, 2, 1, 5, 6, 7, 3, 4] [] rfl rfl (by decide) (by decide) (by decide) (ci := 5) 0 rfl rfl hl.1 rfl rfl (lv_room (Nat.le_of_ble_eq_true rfl)) d_Memory_store_41 ⟨Nat.le_of_ble_eq_true rfl, Nat.le_of_ble_eq_true rfl⟩ (fun o ws' H locs hp hP hD hS => ?_)
    obtain ⟨rfl, rfl⟩ := hp
    have hP : va_P D classes [(h_t, .inr (5, [v_t_words, .int t_bits, .ref h_t_held, .ref h_t_faults, v_t_latest])), (h_t_faults, .inr (3, [.ref h_t_faults_kinds, .ref h_t_faults_victimWords, .ref h_t_faults_victimMasks, .ref h_t_faults_otherWords, .ref h_t_faults_otherMasks, .int t_faults_count, .int t_faults_touchedWords, v_t_faults_bits])), (h_t_held, .inl (cI, n_t_held, .inl q41_5)), (h_t_faults_victimWords, .inl (cI, n_t_faults_victimWords, .inl t_faults_victimWords_a)), (h_t_faults_victimMasks, .inl (cI, n_t_faults_victimMasks, .inl t_faults_victimMasks_a)), (h_t_faults_kinds, .inl (cI, n_t_faults_kinds, .inl t_faults_kinds_a)), (h_t_faults_otherWords, .inl (cI, n_t_faults_otherWords, .inl t_faults_otherWords_a)), (h_t_faults_otherMasks, .inl (cI, n_t_faults_otherMasks, .inl t_faults_otherMasks_a))] H := hP.sub [0, 2, 1, 6, 7, 3, 4, 5] rfl
    have hD : va_D A [(h_t, .inr (5, [v_t_words, .int t_bits, .ref h_t_held, .ref h_t_faults, v_t_latest])), (h_t_faults, .inr (3, [.ref h_t_faults_kinds, .ref h_t_faults_victimWords, .ref h_t_faults_victimMasks, .ref h_t_faults_otherWords, .ref h_t_faults_otherMasks, .int t_faults_count, .int t_faults_touchedWords, v_t_faults_bits])), (h_t_held, .inl (cI, n_t_held, .inl q41_5)), (h_t_faults_victimWords, .inl (cI, n_t_faults_victimWords, .inl t_faults_victimWords_a)), (h_t_faults_victimMasks, .inl (cI, n_t_faults_victimMasks, .inl t_faults_victimMasks_a)), (h_t_faults_kinds, .inl (cI, n_t_faults_kinds, .inl t_faults_kinds_a)), (h_t_faults_otherWords, .inl (cI, n_t_faults_otherWords, .inl t_faults_otherWords_a)), (h_t_faults_otherMasks, .inl (cI, n_t_faults_otherMasks, .inl t_faults_otherMasks_a))] := hD.sub [0, 2, 1, 6, 7, 3, 4, 5] (by decide) rfl
    refine lv_iinc (v := (x3 + 1)) (lv' := [(3, .int (x3 + 1)), (4, .int (1 <<< (x3 &&& 31))), (0, .ref h_t), (1, .int x1), (2, .int x2)]) hx hb d_Memory_store_44 hl (k := 4) rfl rfl (by decide) rfl (fun ls hl => ?_)
    refine lv_goto (tgt := 13) hx hb d_Memory_store_47 (by decide) ?_
    exact hrec13 (q41_5, (x3 + 1)) hf  H locs ls hP hD hS (lv_sub hl [2, 3, 4, 0] rfl)
set_option maxHeartbeats 4000000 in
set_option maxRecDepth 100000 in
theorem k_Memory_store_13 {p : Program} {l : Launch} {e : Env} {s : State} {m : MethodId} {args : Array Value} {below : List Frame} {meth : Method} {c : Code} {D : va_G} {cI cB cJ : ClassId} {A : Nat → Prop} (C0 : CX p s m args meth c D [(cI, .int), (cB, .byte), (cJ, .long)] R_Memory b_Memory_store 5 none "store") (hA : ∀ q, s.heap.size ≤ q → A q) {h_t h_t_faults h_t_held h_t_faults_victimWords h_t_faults_victimMasks h_t_faults_kinds h_t_faults_otherWords h_t_faults_otherMasks : Nat} {v_t_words v_t_latest v_t_faults_bits : Value} {res : (Nat → Int32)} {n_t_held : Nat} {n_t_faults_victimWords : Nat} {n_t_faults_victimMasks : Nat} {n_t_faults_kinds : Nat} {n_t_faults_otherWords : Nat} {n_t_faults_otherMasks : Nat} {t_bits : Int32} {t_faults_count : Int32} {t_faults_touchedWords : Int32} {t_faults_victimWords_a : Nat → Int32} {t_faults_victimMasks_a : Nat → Int32} {t_faults_kinds_a : Nat → Int32} {t_faults_otherWords_a : Nat → Int32} {t_faults_otherMasks_a : Nat → Int32} {x1 : Int32} {x2 : Int32}
    : ∀ (n : Nat) (st : ((Nat → Int32) × Int32)), lp (g_Memory_store_13 n_t_held n_t_faults_victimWords n_t_faults_victimMasks n_t_faults_kinds n_t_faults_otherWords n_t_faults_otherMasks t_bits t_faults_count t_faults_victimWords_a t_faults_victimMasks_a t_faults_kinds_a t_faults_otherWords_a t_faults_otherMasks_a x1 x2) n st = some res → ∀  (H : Heap) (locs : List Loc) (ls : Array Slot), va_P D classes [(h_t, .inr (5, [v_t_words, .int t_bits, .ref h_t_held, .ref h_t_faults, v_t_latest])), (h_t_faults, .inr (3, [.ref h_t_faults_kinds, .ref h_t_faults_victimWords, .ref h_t_faults_victimMasks, .ref h_t_faults_otherWords, .ref h_t_faults_otherMasks, .int t_faults_count, .int t_faults_touchedWords, v_t_faults_bits])), (h_t_held, .inl (cI, n_t_held, .inl st.1)), (h_t_faults_victimWords, .inl (cI, n_t_faults_victimWords, .inl t_faults_victimWords_a)), (h_t_faults_victimMasks, .inl (cI, n_t_faults_victimMasks, .inl t_faults_victimMasks_a)), (h_t_faults_kinds, .inl (cI, n_t_faults_kinds, .inl t_faults_kinds_a)), (h_t_faults_otherWords, .inl (cI, n_t_faults_otherWords, .inl t_faults_otherWords_a)), (h_t_faults_otherMasks, .inl (cI, n_t_faults_otherMasks, .inl t_faults_otherMasks_a))] H → va_D A [(h_t, .inr (5, [v_t_words, .int t_bits, .ref h_t_held, .ref h_t_faults, v_t_latest])), (h_t_faults, .inr (3, [.ref h_t_faults_kinds, .ref h_t_faults_victimWords, .ref h_t_faults_victimMasks, .ref h_t_faults_otherWords, .ref h_t_faults_otherMasks, .int t_faults_count, .int t_faults_touchedWords, v_t_faults_bits])), (h_t_held, .inl (cI, n_t_held, .inl st.1)), (h_t_faults_victimWords, .inl (cI, n_t_faults_victimWords, .inl t_faults_victimWords_a)), (h_t_faults_victimMasks, .inl (cI, n_t_faults_victimMasks, .inl t_faults_victimMasks_a)), (h_t_faults_kinds, .inl (cI, n_t_faults_kinds, .inl t_faults_kinds_a)), (h_t_faults_otherWords, .inl (cI, n_t_faults_otherWords, .inl t_faults_otherWords_a)), (h_t_faults_otherMasks, .inl (cI, n_t_faults_otherMasks, .inl t_faults_otherMasks_a))] → va_S A s.heap H locs → lv_has ls 5 [(0, .ref h_t), (1, .int x1), (2, .int x2), (3, .int st.2)] → W p l e rm_Memory_store s m args below meth c H locs 0 0 (MQ below (QW D (post_Memory_store h_t h_t_faults h_t_held h_t_faults_victimWords h_t_faults_victimMasks h_t_faults_kinds h_t_faults_otherWords h_t_faults_otherMasks v_t_words v_t_latest v_t_faults_bits n_t_held n_t_faults_victimWords n_t_faults_victimMasks n_t_faults_kinds n_t_faults_otherWords n_t_faults_otherMasks t_bits t_faults_count t_faults_touchedWords t_faults_victimWords_a t_faults_victimMasks_a t_faults_kinds_a t_faults_otherWords_a t_faults_otherMasks_a cI cB cJ res) A) args s 0 0 A) (F0 m 13 ls []) := by
  intro n
  induction n with
  | zero => intro st hf; exact absurd hf (by simp [lp])
  | succ n ih =>
    intro st hf  H locs ls hP hD hS hl
    exact kb_Memory_store_13 C0 hA (rec13 := lp (g_Memory_store_13 n_t_held n_t_faults_victimWords n_t_faults_victimMasks n_t_faults_kinds n_t_faults_otherWords n_t_faults_otherMasks t_bits t_faults_count t_faults_victimWords_a t_faults_victimMasks_a t_faults_kinds_a t_faults_otherWords_a t_faults_otherMasks_a x1 x2) n) (t_held_a := st.1) (x3 := st.2)  (fun st hf  H locs ls hP hD hS hl => ih st hf  H locs ls hP hD hS hl) hf hP hD hS hl
set_option maxHeartbeats 4000000 in
set_option maxRecDepth 100000 in
theorem c_Memory_store (l : Launch) (D : va_G) (cI cB cJ : ClassId) (h_t h_t_faults h_t_held h_t_faults_victimWords h_t_faults_victimMasks h_t_faults_kinds h_t_faults_otherWords h_t_faults_otherMasks : Nat) (v_t_words v_t_latest v_t_faults_bits : Value) (n_t_held : Nat) (n_t_faults_victimWords : Nat) (n_t_faults_victimMasks : Nat) (n_t_faults_kinds : Nat) (n_t_faults_otherWords : Nat) (n_t_faults_otherMasks : Nat) (t_bits : Int32) (t_faults_count : Int32) (t_faults_touchedWords : Int32) (t_held_a : Nat → Int32) (t_faults_victimWords_a : Nat → Int32) (t_faults_victimMasks_a : Nat → Int32) (t_faults_kinds_a : Nat → Int32) (t_faults_otherWords_a : Nat → Int32) (t_faults_otherMasks_a : Nat → Int32) (a1 : Int32) (a2 : Int32) (sz : Nat) (res : (Nat → Int32)) (hf : f_Memory_store n_t_held n_t_faults_victimWords n_t_faults_victimMasks n_t_faults_kinds n_t_faults_otherWords n_t_faults_otherMasks t_bits t_faults_count t_faults_touchedWords t_held_a t_faults_victimWords_a t_faults_victimMasks_a t_faults_kinds_a t_faults_otherWords_a t_faults_otherMasks_a a1 a2 = some res) : Met l y_Memory_store (.code y_Memory_store b_Memory_store 5 none :: TB) rm_Memory_store (PcW D [(cI, .int), (cB, .byte), (cJ, .long)] [.ref h_t, .int a1, .int a2] [(h_t, .inr (5, [v_t_words, .int t_bits, .ref h_t_held, .ref h_t_faults, v_t_latest])), (h_t_faults, .inr (3, [.ref h_t_faults_kinds, .ref h_t_faults_victimWords, .ref h_t_faults_victimMasks, .ref h_t_faults_otherWords, .ref h_t_faults_otherMasks, .int t_faults_count, .int t_faults_touchedWords, v_t_faults_bits])), (h_t_held, .inl (cI, n_t_held, .inl t_held_a)), (h_t_faults_victimWords, .inl (cI, n_t_faults_victimWords, .inl t_faults_victimWords_a)), (h_t_faults_victimMasks, .inl (cI, n_t_faults_victimMasks, .inl t_faults_victimMasks_a)), (h_t_faults_kinds, .inl (cI, n_t_faults_kinds, .inl t_faults_kinds_a)), (h_t_faults_otherWords, .inl (cI, n_t_faults_otherWords, .inl t_faults_otherWords_a)), (h_t_faults_otherMasks, .inl (cI, n_t_faults_otherMasks, .inl t_faults_otherMasks_a))] sz) (QW D (post_Memory_store h_t h_t_faults h_t_held h_t_faults_victimWords h_t_faults_victimMasks h_t_faults_kinds h_t_faults_otherWords h_t_faults_otherMasks v_t_words v_t_latest v_t_faults_bits n_t_held n_t_faults_victimWords n_t_faults_victimMasks n_t_faults_kinds n_t_faults_otherWords n_t_faults_otherMasks t_bits t_faults_count t_faults_touchedWords t_faults_victimWords_a t_faults_victimMasks_a t_faults_kinds_a t_faults_otherWords_a t_faults_otherMasks_a cI cB cJ res) (va_A [(h_t, .inr (5, [v_t_words, .int t_bits, .ref h_t_held, .ref h_t_faults, v_t_latest])), (h_t_faults, .inr (3, [.ref h_t_faults_kinds, .ref h_t_faults_victimWords, .ref h_t_faults_victimMasks, .ref h_t_faults_otherWords, .ref h_t_faults_otherMasks, .int t_faults_count, .int t_faults_touchedWords, v_t_faults_bits])), (h_t_held, .inl (cI, n_t_held, .inl t_held_a)), (h_t_faults_victimWords, .inl (cI, n_t_faults_victimWords, .inl t_faults_victimWords_a)), (h_t_faults_victimMasks, .inl (cI, n_t_faults_victimMasks, .inl t_faults_victimMasks_a)), (h_t_faults_kinds, .inl (cI, n_t_faults_kinds, .inl t_faults_kinds_a)), (h_t_faults_otherWords, .inl (cI, n_t_faults_otherWords, .inl t_faults_otherWords_a)), (h_t_faults_otherMasks, .inl (cI, n_t_faults_otherMasks, .inl t_faults_otherMasks_a))] sz)) 0 0 (va_A [(h_t, .inr (5, [v_t_words, .int t_bits, .ref h_t_held, .ref h_t_faults, v_t_latest])), (h_t_faults, .inr (3, [.ref h_t_faults_kinds, .ref h_t_faults_victimWords, .ref h_t_faults_victimMasks, .ref h_t_faults_otherWords, .ref h_t_faults_otherMasks, .int t_faults_count, .int t_faults_touchedWords, v_t_faults_bits])), (h_t_held, .inl (cI, n_t_held, .inl t_held_a)), (h_t_faults_victimWords, .inl (cI, n_t_faults_victimWords, .inl t_faults_victimWords_a)), (h_t_faults_victimMasks, .inl (cI, n_t_faults_victimMasks, .inl t_faults_victimMasks_a)), (h_t_faults_kinds, .inl (cI, n_t_faults_kinds, .inl t_faults_kinds_a)), (h_t_faults_otherWords, .inl (cI, n_t_faults_otherWords, .inl t_faults_otherWords_a)), (h_t_faults_otherMasks, .inl (cI, n_t_faults_otherMasks, .inl t_faults_otherMasks_a))] sz) := by
  refine entW ⟨by decide +kernel, rfl⟩ fun p e s m below meth c C0 hP hD hsz ls hl => ?_
  subst hsz
  generalize hAe : va_A [(h_t, .inr (5, [v_t_words, .int t_bits, .ref h_t_held, .ref h_t_faults, v_t_latest])), (h_t_faults, .inr (3, [.ref h_t_faults_kinds, .ref h_t_faults_victimWords, .ref h_t_faults_victimMasks, .ref h_t_faults_otherWords, .ref h_t_faults_otherMasks, .int t_faults_count, .int t_faults_touchedWords, v_t_faults_bits])), (h_t_held, .inl (cI, n_t_held, .inl t_held_a)), (h_t_faults_victimWords, .inl (cI, n_t_faults_victimWords, .inl t_faults_victimWords_a)), (h_t_faults_victimMasks, .inl (cI, n_t_faults_victimMasks, .inl t_faults_victimMasks_a)), (h_t_faults_kinds, .inl (cI, n_t_faults_kinds, .inl t_faults_kinds_a)), (h_t_faults_otherWords, .inl (cI, n_t_faults_otherWords, .inl t_faults_otherWords_a)), (h_t_faults_otherMasks, .inl (cI, n_t_faults_otherMasks, .inl t_faults_otherMasks_a))] s.heap.size = A at hD ⊢
  have hA : ∀ q : Nat, s.heap.size ≤ q → A q := fun q h => by rw [← hAe]; exact Or.inr h
  clear hAe
  have hS : va_S A s.heap s.heap [] := va_S.rf
  have hl : lv_has ls 5 [(0, .ref h_t), (1, .int a1), (2, .int a2)] := hl
  obtain ⟨hx, hb, hml, hr, hlocks, hts, hown, hK, hin⟩ := id C0
  have hf : (((
  (Option.bind (f_FaultList_touches t_faults_touchedWords a1) fun q5_1 =>
  (if q5_1 = 0 then
    (if inB a1 n_t_held = true then
    (Option.bind (f_Memory_settle n_t_faults_victimWords n_t_faults_victimMasks n_t_faults_kinds n_t_held n_t_faults_otherWords n_t_faults_otherMasks t_faults_count t_faults_victimWords_a t_faults_victimMasks_a t_faults_kinds_a (upd t_held_a (Int32.toNatClampNeg a1) a2) t_faults_otherWords_a t_faults_otherMasks_a) fun q61_2 =>
    some q61_2)
    else none)
  else
    (lp (g_Memory_store_13 n_t_held n_t_faults_victimWords n_t_faults_victimMasks n_t_faults_kinds n_t_faults_otherWords n_t_faults_otherMasks t_bits t_faults_count t_faults_victimWords_a t_faults_victimMasks_a t_faults_kinds_a t_faults_otherWords_a t_faults_otherMasks_a a1 a2) 100000 (t_held_a, 0)))))) : Option ((Nat → Int32))) = some res := hf
  obtain ⟨H, hH⟩ : ∃ H, H = s.heap := ⟨_, rfl⟩
  obtain ⟨locs, hlo⟩ : ∃ x : List Loc, x = [] := ⟨_, rfl⟩
  rw [← hlo] at hS ⊢
  have hP : va_P D classes [(h_t, .inr (5, [v_t_words, .int t_bits, .ref h_t_held, .ref h_t_faults, v_t_latest])), (h_t_faults, .inr (3, [.ref h_t_faults_kinds, .ref h_t_faults_victimWords, .ref h_t_faults_victimMasks, .ref h_t_faults_otherWords, .ref h_t_faults_otherMasks, .int t_faults_count, .int t_faults_touchedWords, v_t_faults_bits])), (h_t_held, .inl (cI, n_t_held, .inl t_held_a)), (h_t_faults_victimWords, .inl (cI, n_t_faults_victimWords, .inl t_faults_victimWords_a)), (h_t_faults_victimMasks, .inl (cI, n_t_faults_victimMasks, .inl t_faults_victimMasks_a)), (h_t_faults_kinds, .inl (cI, n_t_faults_kinds, .inl t_faults_kinds_a)), (h_t_faults_otherWords, .inl (cI, n_t_faults_otherWords, .inl t_faults_otherWords_a)), (h_t_faults_otherMasks, .inl (cI, n_t_faults_otherMasks, .inl t_faults_otherMasks_a))] H := by rw [hH]; exact hP
  have hS : va_S A s.heap H locs := by rw [hH]; exact hS
  show W p l e rm_Memory_store s m _ below meth c s.heap locs 0 0 (MQ below (QW D (post_Memory_store h_t h_t_faults h_t_held h_t_faults_victimWords h_t_faults_victimMasks h_t_faults_kinds h_t_faults_otherWords h_t_faults_otherMasks v_t_words v_t_latest v_t_faults_bits n_t_held n_t_faults_victimWords n_t_faults_victimMasks n_t_faults_kinds n_t_faults_otherWords n_t_faults_otherMasks t_bits t_faults_count t_faults_touchedWords t_faults_victimWords_a t_faults_victimMasks_a t_faults_kinds_a t_faults_otherWords_a t_faults_otherMasks_a cI cB cJ res) A) _ s 0 0 A) (F0 m 0 ls [])
  refine wheap hH ?_
  clear hH hlo
  refine lv_aload_n hx hb d_Memory_store_0 rfl (lv_at hl 0 rfl) ?_
  refine va_get (D := D) (ci := 5) (v := .ref h_t_faults) (C := R_Memory) (T := F_Memory) (N := 5) hx hb hts i_Memory hown hK.1 hP 0 rfl rfl 3 (by decide) (hts _ w_32) (fun _ h9 => h9) rfl d_Memory_store_1 ?_
  refine lv_iload_n hx hb d_Memory_store_4 rfl (lv_at hl 1 rfl) ?_
  obtain ⟨q5_1, hc, hf⟩ := bindS hf
  refine mcV (n := 1) (As := [.int a1]) (rest := []) (wr := [(h_t, .inr (5, [v_t_words, .int t_bits, .ref h_t_held, .ref h_t_faults, v_t_latest])), (h_t_held, .inl (cI, n_t_held, .inl t_held_a)), (h_t_faults_victimWords, .inl (cI, n_t_faults_victimWords, .inl t_faults_victimWords_a)), (h_t_faults_victimMasks, .inl (cI, n_t_faults_victimMasks, .inl t_faults_victimMasks_a)), (h_t_faults_kinds, .inl (cI, n_t_faults_kinds, .inl t_faults_kinds_a)), (h_t_faults_otherWords, .inl (cI, n_t_faults_otherWords, .inl t_faults_otherWords_a)), (h_t_faults_otherMasks, .inl (cI, n_t_faults_otherMasks, .inl t_faults_otherMasks_a))]) hx hb hml hown hts hK (c_FaultList_touches (l := l) (D := D) (cI := cI) (cB := cB) (cJ := cJ) (h_t := h_t_faults) (v_t_kinds := (.ref h_t_faults_kinds)) (v_t_victimWords := (.ref h_t_faults_victimWords)) (v_t_victimMasks := (.ref h_t_faults_victimMasks)) (v_t_otherWords := (.ref h_t_faults_otherWords)) (v_t_otherMasks := (.ref h_t_faults_otherMasks)) (v_t_count := (.int t_faults_count)) (v_t_bits := v_t_faults_bits) (t_touchedWords := t_faults_touchedWords) (a1 := a1) (sz := H.size) (res := q5_1) (hf := hc)) w_237 w_238 w_239 w_28 w_240 (by decide +kernel) rfl rfl ⟨Nat.le_of_ble_eq_true rfl, Nat.le_of_ble_eq_true rfl⟩ hP hD hS hA [1] [0, 2, 3, 4, 5, 6, 7] rfl rfl (by decide) (by decide) (by decide) (ci := 3) 0 rfl rfl hl.1 rfl rfl (lv_room (Nat.le_of_ble_eq_true rfl)) d_Memory_store_5 ⟨Nat.le_of_ble_eq_true rfl, Nat.le_of_ble_eq_true rfl⟩ (fun o ws' H locs hp hP hD hS => ?_)
  obtain ⟨rfl, rfl⟩ := hp
  have hP : va_P D classes [(h_t, .inr (5, [v_t_words, .int t_bits, .ref h_t_held, .ref h_t_faults, v_t_latest])), (h_t_faults, .inr (3, [.ref h_t_faults_kinds, .ref h_t_faults_victimWords, .ref h_t_faults_victimMasks, .ref h_t_faults_otherWords, .ref h_t_faults_otherMasks, .int t_faults_count, .int t_faults_touchedWords, v_t_faults_bits])), (h_t_held, .inl (cI, n_t_held, .inl t_held_a)), (h_t_faults_victimWords, .inl (cI, n_t_faults_victimWords, .inl t_faults_victimWords_a)), (h_t_faults_victimMasks, .inl (cI, n_t_faults_victimMasks, .inl t_faults_victimMasks_a)), (h_t_faults_kinds, .inl (cI, n_t_faults_kinds, .inl t_faults_kinds_a)), (h_t_faults_otherWords, .inl (cI, n_t_faults_otherWords, .inl t_faults_otherWords_a)), (h_t_faults_otherMasks, .inl (cI, n_t_faults_otherMasks, .inl t_faults_otherMasks_a))] H := hP.sub [0, 7, 1, 2, 3, 4, 5, 6] rfl
  have hD : va_D A [(h_t, .inr (5, [v_t_words, .int t_bits, .ref h_t_held, .ref h_t_faults, v_t_latest])), (h_t_faults, .inr (3, [.ref h_t_faults_kinds, .ref h_t_faults_victimWords, .ref h_t_faults_victimMasks, .ref h_t_faults_otherWords, .ref h_t_faults_otherMasks, .int t_faults_count, .int t_faults_touchedWords, v_t_faults_bits])), (h_t_held, .inl (cI, n_t_held, .inl t_held_a)), (h_t_faults_victimWords, .inl (cI, n_t_faults_victimWords, .inl t_faults_victimWords_a)), (h_t_faults_victimMasks, .inl (cI, n_t_faults_victimMasks, .inl t_faults_victimMasks_a)), (h_t_faults_kinds, .inl (cI, n_t_faults_kinds, .inl t_faults_kinds_a)), (h_t_faults_otherWords, .inl (cI, n_t_faults_otherWords, .inl t_faults_otherWords_a)), (h_t_faults_otherMasks, .inl (cI, n_t_faults_otherMasks, .inl t_faults_otherMasks_a))] := hD.sub [0, 7, 1, 2, 3, 4, 5, 6] (by decide) rfl
  refine lv_if_eq (tgt := 53) hx hb d_Memory_store_8 (by decide) (fun cc8 => ?_) (fun cc8 => ?_)
  · have hf := ifT cc8 hf
    refine lv_aload_n hx hb d_Memory_store_53 rfl (lv_at hl 0 rfl) ?_
    refine va_get (D := D) (ci := 5) (v := .ref h_t_held) (C := R_Memory) (T := F_Memory) (N := 5) hx hb hts i_Memory hown hK.1 hP 0 rfl rfl 2 (by decide) (hts _ w_25) (fun _ h9 => h9) rfl d_Memory_store_54 ?_
    refine lv_iload_n hx hb d_Memory_store_57 rfl (lv_at hl 1 rfl) ?_
    refine lv_iload_n hx hb d_Memory_store_58 rfl (lv_at hl 2 rfl) ?_
    obtain ⟨hin1, hf⟩ := ifG hf
    refine va_iast hx hb hK.1 hP hD hS 2 0 rfl rfl (inB_in hin1) d_Memory_store_59 (fun H locs hP hD hS => ?_)
    have hP : va_P D classes [(h_t, .inr (5, [v_t_words, .int t_bits, .ref h_t_held, .ref h_t_faults, v_t_latest])), (h_t_faults, .inr (3, [.ref h_t_faults_kinds, .ref h_t_faults_victimWords, .ref h_t_faults_victimMasks, .ref h_t_faults_otherWords, .ref h_t_faults_otherMasks, .int t_faults_count, .int t_faults_touchedWords, v_t_faults_bits])), (h_t_held, .inl (cI, n_t_held, .inl (upd t_held_a (Int32.toNatClampNeg a1) a2))), (h_t_faults_victimWords, .inl (cI, n_t_faults_victimWords, .inl t_faults_victimWords_a)), (h_t_faults_victimMasks, .inl (cI, n_t_faults_victimMasks, .inl t_faults_victimMasks_a)), (h_t_faults_kinds, .inl (cI, n_t_faults_kinds, .inl t_faults_kinds_a)), (h_t_faults_otherWords, .inl (cI, n_t_faults_otherWords, .inl t_faults_otherWords_a)), (h_t_faults_otherMasks, .inl (cI, n_t_faults_otherMasks, .inl t_faults_otherMasks_a))] H := hP
    have hD : va_D A [(h_t, .inr (5, [v_t_words, .int t_bits, .ref h_t_held, .ref h_t_faults, v_t_latest])), (h_t_faults, .inr (3, [.ref h_t_faults_kinds, .ref h_t_faults_victimWords, .ref h_t_faults_victimMasks, .ref h_t_faults_otherWords, .ref h_t_faults_otherMasks, .int t_faults_count, .int t_faults_touchedWords, v_t_faults_bits])), (h_t_held, .inl (cI, n_t_held, .inl (upd t_held_a (Int32.toNatClampNeg a1) a2))), (h_t_faults_victimWords, .inl (cI, n_t_faults_victimWords, .inl t_faults_victimWords_a)), (h_t_faults_victimMasks, .inl (cI, n_t_faults_victimMasks, .inl t_faults_victimMasks_a)), (h_t_faults_kinds, .inl (cI, n_t_faults_kinds, .inl t_faults_kinds_a)), (h_t_faults_otherWords, .inl (cI, n_t_faults_otherWords, .inl t_faults_otherWords_a)), (h_t_faults_otherMasks, .inl (cI, n_t_faults_otherMasks, .inl t_faults_otherMasks_a))] := hD
    refine lv_aload_n hx hb d_Memory_store_60 rfl (lv_at hl 0 rfl) ?_
    obtain ⟨q61_2, hc, hf⟩ := bindS hf
    refine mcV (n := 0) (As := []) (rest := []) (wr := []) hx hb hml hown hts hK (c_Memory_settle (l := l) (D := D) (cI := cI) (cB := cB) (cJ := cJ) (h_t := h_t) (h_t_faults := h_t_faults) (h_t_faults_victimWords := h_t_faults_victimWords) (h_t_faults_victimMasks := h_t_faults_victimMasks) (h_t_faults_kinds := h_t_faults_kinds) (h_t_held := h_t_held) (h_t_faults_otherWords := h_t_faults_otherWords) (h_t_faults_otherMasks := h_t_faults_otherMasks) (v_t_words := v_t_words) (v_t_bits := (.int t_bits)) (v_t_latest := v_t_latest) (v_t_faults_touchedWords := (.int t_faults_touchedWords)) (v_t_faults_bits := v_t_faults_bits) (n_t_faults_victimWords := n_t_faults_victimWords) (n_t_faults_victimMasks := n_t_faults_victimMasks) (n_t_faults_kinds := n_t_faults_kinds) (n_t_held := n_t_held) (n_t_faults_otherWords := n_t_faults_otherWords) (n_t_faults_otherMasks := n_t_faults_otherMasks) (t_faults_count := t_faults_count) (t_faults_victimWords_a := t_faults_victimWords_a) (t_faults_victimMasks_a := t_faults_victimMasks_a) (t_faults_kinds_a := t_faults_kinds_a) (t_held_a := (upd t_held_a (Int32.toNatClampNeg a1) a2)) (t_faults_otherWords_a := t_faults_otherWords_a) (t_faults_otherMasks_a := t_faults_otherMasks_a) (sz := H.size) (res := q61_2) (hf := hc)) w_222 w_223 w_224 w_41 w_225 (by decide +kernel) rfl rfl ⟨Nat.le_of_ble_eq_true rfl, Nat.le_of_ble_eq_true rfl⟩ hP hD hS hA [0, 1, 3, 4, 5, 2, 6, 7] [] rfl rfl (by decide) (by decide) (by decide) (ci := 5) 0 rfl rfl hl.1 rfl rfl (lv_room (Nat.le_of_ble_eq_true rfl)) d_Memory_store_61 ⟨Nat.le_of_ble_eq_true rfl, Nat.le_of_ble_eq_true rfl⟩ (fun o ws' H locs hp hP hD hS => ?_)
    obtain ⟨rfl, rfl⟩ := hp
    have hP : va_P D classes [(h_t, .inr (5, [v_t_words, .int t_bits, .ref h_t_held, .ref h_t_faults, v_t_latest])), (h_t_faults, .inr (3, [.ref h_t_faults_kinds, .ref h_t_faults_victimWords, .ref h_t_faults_victimMasks, .ref h_t_faults_otherWords, .ref h_t_faults_otherMasks, .int t_faults_count, .int t_faults_touchedWords, v_t_faults_bits])), (h_t_held, .inl (cI, n_t_held, .inl q61_2)), (h_t_faults_victimWords, .inl (cI, n_t_faults_victimWords, .inl t_faults_victimWords_a)), (h_t_faults_victimMasks, .inl (cI, n_t_faults_victimMasks, .inl t_faults_victimMasks_a)), (h_t_faults_kinds, .inl (cI, n_t_faults_kinds, .inl t_faults_kinds_a)), (h_t_faults_otherWords, .inl (cI, n_t_faults_otherWords, .inl t_faults_otherWords_a)), (h_t_faults_otherMasks, .inl (cI, n_t_faults_otherMasks, .inl t_faults_otherMasks_a))] H := hP.sub [0, 1, 5, 2, 3, 4, 6, 7] rfl
    have hD : va_D A [(h_t, .inr (5, [v_t_words, .int t_bits, .ref h_t_held, .ref h_t_faults, v_t_latest])), (h_t_faults, .inr (3, [.ref h_t_faults_kinds, .ref h_t_faults_victimWords, .ref h_t_faults_victimMasks, .ref h_t_faults_otherWords, .ref h_t_faults_otherMasks, .int t_faults_count, .int t_faults_touchedWords, v_t_faults_bits])), (h_t_held, .inl (cI, n_t_held, .inl q61_2)), (h_t_faults_victimWords, .inl (cI, n_t_faults_victimWords, .inl t_faults_victimWords_a)), (h_t_faults_victimMasks, .inl (cI, n_t_faults_victimMasks, .inl t_faults_victimMasks_a)), (h_t_faults_kinds, .inl (cI, n_t_faults_kinds, .inl t_faults_kinds_a)), (h_t_faults_otherWords, .inl (cI, n_t_faults_otherWords, .inl t_faults_otherWords_a)), (h_t_faults_otherMasks, .inl (cI, n_t_faults_otherMasks, .inl t_faults_otherMasks_a))] := hD.sub [0, 1, 5, 2, 3, 4, 6, 7] (by decide) rfl
    obtain rfl := Option.some.inj hf
    exact ret_v hx hb hr hlocks hP hD hS ⟨rfl, rfl⟩ d_Memory_store_64
  · have hf := ifF cc8 hf
    refine lv_iconst (v := 0) hx hb d_Memory_store_11 (by decide) ?_
    refine lv_istore_n (lv' := [(3, .int 0), (0, .ref h_t), (1, .int a1), (2, .int a2)]) hx hb d_Memory_store_12 rfl hl (by decide) rfl (fun ls hl => ?_)
    exact k_Memory_store_13 (s := s) C0 hA _ (t_held_a, 0) hf  H locs ls hP hD hS (lv_sub hl [1, 2, 3, 0] rfl)
def f_Memory_isPulledDown (n_t_faults_victimWords : Nat) (n_t_faults_victimMasks : Nat) (n_t_faults_otherWords : Nat) (n_t_faults_otherMasks : Nat) (n_t_held : Nat) (t_faults_victimWords_a : Nat → Int32) (t_faults_victimMasks_a : Nat → Int32) (t_faults_otherWords_a : Nat → Int32) (t_faults_otherMasks_a : Nat → Int32) (t_held_a : Nat → Int32) (a1 : Int32) (a2 : Int32) (a3 : Int32) : Option (Int32) :=
  (Option.bind (f_FaultList_isVictim n_t_faults_victimWords n_t_faults_victimMasks t_faults_victimWords_a t_faults_victimMasks_a a1 a2 a3) fun q7_1 =>
  (if q7_1 = 0 then
    (Option.bind (f_FaultList_isOther n_t_faults_otherWords n_t_faults_otherMasks t_faults_otherWords_a t_faults_otherMasks_a a1 a2 a3) fun q53_2 =>
    (if q53_2 = 0 then
      some 0
    else
      (if inB a1 n_t_faults_victimWords = true then
      (if inB (t_faults_victimWords_a (Int32.toNatClampNeg a1)) n_t_held = true then
      (if inB a1 n_t_faults_victimMasks = true then
      (if ((t_held_a (Int32.toNatClampNeg (t_faults_victimWords_a (Int32.toNatClampNeg a1)))) &&& (t_faults_victimMasks_a (Int32.toNatClampNeg a1))) = 0 then
        some 1
      else
        some 0)
      else none)
      else none)
      else none)))
  else
    (if inB a1 n_t_faults_otherWords = true then
    (if inB (t_faults_otherWords_a (Int32.toNatClampNeg a1)) n_t_held = true then
    (if inB a1 n_t_faults_otherMasks = true then
    (if ((t_held_a (Int32.toNatClampNeg (t_faults_otherWords_a (Int32.toNatClampNeg a1)))) &&& (t_faults_otherMasks_a (Int32.toNatClampNeg a1))) = 0 then
      some 1
    else
      some 0)
    else none)
    else none)
    else none)))
def post_Memory_isPulledDown (h_t h_t_faults h_t_faults_victimWords h_t_faults_victimMasks h_t_faults_otherWords h_t_faults_otherMasks h_t_held : Nat) (v_t_words v_t_bits v_t_latest v_t_faults_kinds v_t_faults_count v_t_faults_touchedWords v_t_faults_bits : Value) (n_t_faults_victimWords : Nat) (n_t_faults_victimMasks : Nat) (n_t_faults_otherWords : Nat) (n_t_faults_otherMasks : Nat) (n_t_held : Nat) (t_faults_victimWords_a : Nat → Int32) (t_faults_victimMasks_a : Nat → Int32) (t_faults_otherWords_a : Nat → Int32) (t_faults_otherMasks_a : Nat → Int32) (t_held_a : Nat → Int32) (cI cB cJ : ClassId) (res : Int32) : Option Value → va_W → Prop := fun o ws' => o = some (.int res) ∧ ws' = [(h_t, .inr (5, [v_t_words, v_t_bits, .ref h_t_held, .ref h_t_faults, v_t_latest])), (h_t_faults, .inr (3, [v_t_faults_kinds, .ref h_t_faults_victimWords, .ref h_t_faults_victimMasks, .ref h_t_faults_otherWords, .ref h_t_faults_otherMasks, v_t_faults_count, v_t_faults_touchedWords, v_t_faults_bits])), (h_t_faults_victimWords, .inl (cI, n_t_faults_victimWords, .inl t_faults_victimWords_a)), (h_t_faults_victimMasks, .inl (cI, n_t_faults_victimMasks, .inl t_faults_victimMasks_a)), (h_t_faults_otherWords, .inl (cI, n_t_faults_otherWords, .inl t_faults_otherWords_a)), (h_t_faults_otherMasks, .inl (cI, n_t_faults_otherMasks, .inl t_faults_otherMasks_a)), (h_t_held, .inl (cI, n_t_held, .inl t_held_a))]
abbrev rm_Memory_isPulledDown : Room := { frames := 1, cells := 0, slots := 0, locals := 23 }
set_option maxHeartbeats 4000000 in
set_option maxRecDepth 100000 in
theorem c_Memory_isPulledDown (l : Launch) (D : va_G) (cI cB cJ : ClassId) (h_t h_t_faults h_t_faults_victimWords h_t_faults_victimMasks h_t_faults_otherWords h_t_faults_otherMasks h_t_held : Nat) (v_t_words v_t_bits v_t_latest v_t_faults_kinds v_t_faults_count v_t_faults_touchedWords v_t_faults_bits : Value) (n_t_faults_victimWords : Nat) (n_t_faults_victimMasks : Nat) (n_t_faults_otherWords : Nat) (n_t_faults_otherMasks : Nat) (n_t_held : Nat) (t_faults_victimWords_a : Nat → Int32) (t_faults_victimMasks_a : Nat → Int32) (t_faults_otherWords_a : Nat → Int32) (t_faults_otherMasks_a : Nat → Int32) (t_held_a : Nat → Int32) (a1 : Int32) (a2 : Int32) (a3 : Int32) (sz : Nat) (res : Int32) (hf : f_Memory_isPulledDown n_t_faults_victimWords n_t_faults_victimMasks n_t_faults_otherWords n_t_faults_otherMasks n_t_held t_faults_victimWords_a t_faults_victimMasks_a t_faults_otherWords_a t_faults_otherMasks_a t_held_a a1 a2 a3 = some res) : Met l y_Memory_isPulledDown (.code y_Memory_isPulledDown b_Memory_isPulledDown 4 (some .boolean) :: TB) rm_Memory_isPulledDown (PcW D [(cI, .int), (cB, .byte), (cJ, .long)] [.ref h_t, .int a1, .int a2, .int a3] [(h_t, .inr (5, [v_t_words, v_t_bits, .ref h_t_held, .ref h_t_faults, v_t_latest])), (h_t_faults, .inr (3, [v_t_faults_kinds, .ref h_t_faults_victimWords, .ref h_t_faults_victimMasks, .ref h_t_faults_otherWords, .ref h_t_faults_otherMasks, v_t_faults_count, v_t_faults_touchedWords, v_t_faults_bits])), (h_t_faults_victimWords, .inl (cI, n_t_faults_victimWords, .inl t_faults_victimWords_a)), (h_t_faults_victimMasks, .inl (cI, n_t_faults_victimMasks, .inl t_faults_victimMasks_a)), (h_t_faults_otherWords, .inl (cI, n_t_faults_otherWords, .inl t_faults_otherWords_a)), (h_t_faults_otherMasks, .inl (cI, n_t_faults_otherMasks, .inl t_faults_otherMasks_a)), (h_t_held, .inl (cI, n_t_held, .inl t_held_a))] sz) (QW D (post_Memory_isPulledDown h_t h_t_faults h_t_faults_victimWords h_t_faults_victimMasks h_t_faults_otherWords h_t_faults_otherMasks h_t_held v_t_words v_t_bits v_t_latest v_t_faults_kinds v_t_faults_count v_t_faults_touchedWords v_t_faults_bits n_t_faults_victimWords n_t_faults_victimMasks n_t_faults_otherWords n_t_faults_otherMasks n_t_held t_faults_victimWords_a t_faults_victimMasks_a t_faults_otherWords_a t_faults_otherMasks_a t_held_a cI cB cJ res) (va_A [(h_t, .inr (5, [v_t_words, v_t_bits, .ref h_t_held, .ref h_t_faults, v_t_latest])), (h_t_faults, .inr (3, [v_t_faults_kinds, .ref h_t_faults_victimWords, .ref h_t_faults_victimMasks, .ref h_t_faults_otherWords, .ref h_t_faults_otherMasks, v_t_faults_count, v_t_faults_touchedWords, v_t_faults_bits])), (h_t_faults_victimWords, .inl (cI, n_t_faults_victimWords, .inl t_faults_victimWords_a)), (h_t_faults_victimMasks, .inl (cI, n_t_faults_victimMasks, .inl t_faults_victimMasks_a)), (h_t_faults_otherWords, .inl (cI, n_t_faults_otherWords, .inl t_faults_otherWords_a)), (h_t_faults_otherMasks, .inl (cI, n_t_faults_otherMasks, .inl t_faults_otherMasks_a)), (h_t_held, .inl (cI, n_t_held, .inl t_held_a))] sz)) 0 0 (va_A [(h_t, .inr (5, [v_t_words, v_t_bits, .ref h_t_held, .ref h_t_faults, v_t_latest])), (h_t_faults, .inr (3, [v_t_faults_kinds, .ref h_t_faults_victimWords, .ref h_t_faults_victimMasks, .ref h_t_faults_otherWords, .ref h_t_faults_otherMasks, v_t_faults_count, v_t_faults_touchedWords, v_t_faults_bits])), (h_t_faults_victimWords, .inl (cI, n_t_faults_victimWords, .inl t_faults_victimWords_a)), (h_t_faults_victimMasks, .inl (cI, n_t_faults_victimMasks, .inl t_faults_victimMasks_a)), (h_t_faults_otherWords, .inl (cI, n_t_faults_otherWords, .inl t_faults_otherWords_a)), (h_t_faults_otherMasks, .inl (cI, n_t_faults_otherMasks, .inl t_faults_otherMasks_a)), (h_t_held, .inl (cI, n_t_held, .inl t_held_a))] sz) := by
  refine entW ⟨by decide +kernel, rfl⟩ fun p e s m below meth c C0 hP hD hsz ls hl => ?_
  subst hsz
  generalize hAe : va_A [(h_t, .inr (5, [v_t_words, v_t_bits, .ref h_t_held, .ref h_t_faults, v_t_latest])), (h_t_faults, .inr (3, [v_t_faults_kinds, .ref h_t_faults_victimWords, .ref h_t_faults_victimMasks, .ref h_t_faults_otherWords, .ref h_t_faults_otherMasks, v_t_faults_count, v_t_faults_touchedWords, v_t_faults_bits])), (h_t_faults_victimWords, .inl (cI, n_t_faults_victimWords, .inl t_faults_victimWords_a)), (h_t_faults_victimMasks, .inl (cI, n_t_faults_victimMasks, .inl t_faults_victimMasks_a)), (h_t_faults_otherWords, .inl (cI, n_t_faults_otherWords, .inl t_faults_otherWords_a)), (h_t_faults_otherMasks, .inl (cI, n_t_faults_otherMasks, .inl t_faults_otherMasks_a)), (h_t_held, .inl (cI, n_t_held, .inl t_held_a))] s.heap.size = A at hD ⊢
  have hA : ∀ q : Nat, s.heap.size ≤ q → A q := fun q h => by rw [← hAe]; exact Or.inr h
  clear hAe
  have hS : va_S A s.heap s.heap [] := va_S.rf
  have hl : lv_has ls 4 [(0, .ref h_t), (1, .int a1), (2, .int a2), (3, .int a3)] := hl
  obtain ⟨hx, hb, hml, hr, hlocks, hts, hown, hK, hin⟩ := id C0
  have hf : (((
  (Option.bind (f_FaultList_isVictim n_t_faults_victimWords n_t_faults_victimMasks t_faults_victimWords_a t_faults_victimMasks_a a1 a2 a3) fun q7_1 =>
  (if q7_1 = 0 then
    (Option.bind (f_FaultList_isOther n_t_faults_otherWords n_t_faults_otherMasks t_faults_otherWords_a t_faults_otherMasks_a a1 a2 a3) fun q53_2 =>
    (if q53_2 = 0 then
      some 0
    else
      (if inB a1 n_t_faults_victimWords = true then
      (if inB (t_faults_victimWords_a (Int32.toNatClampNeg a1)) n_t_held = true then
      (if inB a1 n_t_faults_victimMasks = true then
      (if ((t_held_a (Int32.toNatClampNeg (t_faults_victimWords_a (Int32.toNatClampNeg a1)))) &&& (t_faults_victimMasks_a (Int32.toNatClampNeg a1))) = 0 then
        some 1
      else
        some 0)
      else none)
      else none)
      else none)))
  else
    (if inB a1 n_t_faults_otherWords = true then
    (if inB (t_faults_otherWords_a (Int32.toNatClampNeg a1)) n_t_held = true then
    (if inB a1 n_t_faults_otherMasks = true then
    (if ((t_held_a (Int32.toNatClampNeg (t_faults_otherWords_a (Int32.toNatClampNeg a1)))) &&& (t_faults_otherMasks_a (Int32.toNatClampNeg a1))) = 0 then
      some 1
    else
      some 0)
    else none)
    else none)
    else none))))) : Option (Int32)) = some res := hf
  obtain ⟨H, hH⟩ : ∃ H, H = s.heap := ⟨_, rfl⟩
  obtain ⟨locs, hlo⟩ : ∃ x : List Loc, x = [] := ⟨_, rfl⟩
  rw [← hlo] at hS ⊢
  have hP : va_P D classes [(h_t, .inr (5, [v_t_words, v_t_bits, .ref h_t_held, .ref h_t_faults, v_t_latest])), (h_t_faults, .inr (3, [v_t_faults_kinds, .ref h_t_faults_victimWords, .ref h_t_faults_victimMasks, .ref h_t_faults_otherWords, .ref h_t_faults_otherMasks, v_t_faults_count, v_t_faults_touchedWords, v_t_faults_bits])), (h_t_faults_victimWords, .inl (cI, n_t_faults_victimWords, .inl t_faults_victimWords_a)), (h_t_faults_victimMasks, .inl (cI, n_t_faults_victimMasks, .inl t_faults_victimMasks_a)), (h_t_faults_otherWords, .inl (cI, n_t_faults_otherWords, .inl t_faults_otherWords_a)), (h_t_faults_otherMasks, .inl (cI, n_t_faults_otherMasks, .inl t_faults_otherMasks_a)), (h_t_held, .inl (cI, n_t_held, .inl t_held_a))] H := by rw [hH]; exact hP
  have hS : va_S A s.heap H locs := by rw [hH]; exact hS
  show W p l e rm_Memory_isPulledDown s m _ below meth c s.heap locs 0 0 (MQ below (QW D (post_Memory_isPulledDown h_t h_t_faults h_t_faults_victimWords h_t_faults_victimMasks h_t_faults_otherWords h_t_faults_otherMasks h_t_held v_t_words v_t_bits v_t_latest v_t_faults_kinds v_t_faults_count v_t_faults_touchedWords v_t_faults_bits n_t_faults_victimWords n_t_faults_victimMasks n_t_faults_otherWords n_t_faults_otherMasks n_t_held t_faults_victimWords_a t_faults_victimMasks_a t_faults_otherWords_a t_faults_otherMasks_a t_held_a cI cB cJ res) A) _ s 0 0 A) (F0 m 0 ls [])
  refine wheap hH ?_
  clear hH hlo
  refine lv_aload_n hx hb d_Memory_isPulledDown_0 rfl (lv_at hl 0 rfl) ?_
  refine va_get (D := D) (ci := 5) (v := .ref h_t_faults) (C := R_Memory) (T := F_Memory) (N := 5) hx hb hts i_Memory hown hK.1 hP 0 rfl rfl 3 (by decide) (hts _ w_32) (fun _ h9 => h9) rfl d_Memory_isPulledDown_1 ?_
  refine lv_iload_n hx hb d_Memory_isPulledDown_4 rfl (lv_at hl 1 rfl) ?_
  refine lv_iload_n hx hb d_Memory_isPulledDown_5 rfl (lv_at hl 2 rfl) ?_
  refine lv_iload_n hx hb d_Memory_isPulledDown_6 rfl (lv_at hl 3 rfl) ?_
  obtain ⟨q7_1, hc, hf⟩ := bindS hf
  refine mcV (n := 3) (As := [.int a1, .int a2, .int a3]) (rest := []) (wr := [(h_t, .inr (5, [v_t_words, v_t_bits, .ref h_t_held, .ref h_t_faults, v_t_latest])), (h_t_faults_otherWords, .inl (cI, n_t_faults_otherWords, .inl t_faults_otherWords_a)), (h_t_faults_otherMasks, .inl (cI, n_t_faults_otherMasks, .inl t_faults_otherMasks_a)), (h_t_held, .inl (cI, n_t_held, .inl t_held_a))]) hx hb hml hown hts hK (c_FaultList_isVictim (l := l) (D := D) (cI := cI) (cB := cB) (cJ := cJ) (h_t := h_t_faults) (h_t_victimWords := h_t_faults_victimWords) (h_t_victimMasks := h_t_faults_victimMasks) (v_t_kinds := v_t_faults_kinds) (v_t_otherWords := (.ref h_t_faults_otherWords)) (v_t_otherMasks := (.ref h_t_faults_otherMasks)) (v_t_count := v_t_faults_count) (v_t_touchedWords := v_t_faults_touchedWords) (v_t_bits := v_t_faults_bits) (n_t_victimWords := n_t_faults_victimWords) (n_t_victimMasks := n_t_faults_victimMasks) (t_victimWords_a := t_faults_victimWords_a) (t_victimMasks_a := t_faults_victimMasks_a) (a1 := a1) (a2 := a2) (a3 := a3) (sz := H.size) (res := q7_1) (hf := hc)) w_226 w_227 w_228 w_28 w_229 (by decide +kernel) rfl rfl ⟨Nat.le_of_ble_eq_true rfl, Nat.le_of_ble_eq_true rfl⟩ hP hD hS hA [1, 2, 3] [0, 4, 5, 6] rfl rfl (by decide) (by decide) (by decide) (ci := 3) 0 rfl rfl hl.1 rfl rfl (lv_room (Nat.le_of_ble_eq_true rfl)) d_Memory_isPulledDown_7 ⟨Nat.le_of_ble_eq_true rfl, Nat.le_of_ble_eq_true rfl⟩ (fun o ws' H locs hp hP hD hS => ?_)
  obtain ⟨rfl, rfl⟩ := hp
  have hP : va_P D classes [(h_t, .inr (5, [v_t_words, v_t_bits, .ref h_t_held, .ref h_t_faults, v_t_latest])), (h_t_faults, .inr (3, [v_t_faults_kinds, .ref h_t_faults_victimWords, .ref h_t_faults_victimMasks, .ref h_t_faults_otherWords, .ref h_t_faults_otherMasks, v_t_faults_count, v_t_faults_touchedWords, v_t_faults_bits])), (h_t_faults_victimWords, .inl (cI, n_t_faults_victimWords, .inl t_faults_victimWords_a)), (h_t_faults_victimMasks, .inl (cI, n_t_faults_victimMasks, .inl t_faults_victimMasks_a)), (h_t_faults_otherWords, .inl (cI, n_t_faults_otherWords, .inl t_faults_otherWords_a)), (h_t_faults_otherMasks, .inl (cI, n_t_faults_otherMasks, .inl t_faults_otherMasks_a)), (h_t_held, .inl (cI, n_t_held, .inl t_held_a))] H := hP.sub [0, 4, 5, 6, 1, 2, 3] rfl
  have hD : va_D A [(h_t, .inr (5, [v_t_words, v_t_bits, .ref h_t_held, .ref h_t_faults, v_t_latest])), (h_t_faults, .inr (3, [v_t_faults_kinds, .ref h_t_faults_victimWords, .ref h_t_faults_victimMasks, .ref h_t_faults_otherWords, .ref h_t_faults_otherMasks, v_t_faults_count, v_t_faults_touchedWords, v_t_faults_bits])), (h_t_faults_victimWords, .inl (cI, n_t_faults_victimWords, .inl t_faults_victimWords_a)), (h_t_faults_victimMasks, .inl (cI, n_t_faults_victimMasks, .inl t_faults_victimMasks_a)), (h_t_faults_otherWords, .inl (cI, n_t_faults_otherWords, .inl t_faults_otherWords_a)), (h_t_faults_otherMasks, .inl (cI, n_t_faults_otherMasks, .inl t_faults_otherMasks_a)), (h_t_held, .inl (cI, n_t_held, .inl t_held_a))] := hD.sub [0, 4, 5, 6, 1, 2, 3] (by decide) rfl
  refine lv_if_eq (tgt := 46) hx hb d_Memory_isPulledDown_10 (by decide) (fun cc10 => ?_) (fun cc10 => ?_)
  · have hf := ifT cc10 hf
    refine lv_aload_n hx hb d_Memory_isPulledDown_46 rfl (lv_at hl 0 rfl) ?_
    refine va_get (D := D) (ci := 5) (v := .ref h_t_faults) (C := R_Memory) (T := F_Memory) (N := 5) hx hb hts i_Memory hown hK.1 hP 0 rfl rfl 3 (by decide) (hts _ w_32) (fun _ h9 => h9) rfl d_Memory_isPulledDown_47 ?_
    refine lv_iload_n hx hb d_Memory_isPulledDown_50 rfl (lv_at hl 1 rfl) ?_
    refine lv_iload_n hx hb d_Memory_isPulledDown_51 rfl (lv_at hl 2 rfl) ?_
    refine lv_iload_n hx hb d_Memory_isPulledDown_52 rfl (lv_at hl 3 rfl) ?_
    obtain ⟨q53_2, hc, hf⟩ := bindS hf
    refine mcV (n := 3) (As := [.int a1, .int a2, .int a3]) (rest := []) (wr := [(h_t, .inr (5, [v_t_words, v_t_bits, .ref h_t_held, .ref h_t_faults, v_t_latest])), (h_t_faults_victimWords, .inl (cI, n_t_faults_victimWords, .inl t_faults_victimWords_a)), (h_t_faults_victimMasks, .inl (cI, n_t_faults_victimMasks, .inl t_faults_victimMasks_a)), (h_t_held, .inl (cI, n_t_held, .inl t_held_a))]) hx hb hml hown hts hK (c_FaultList_isOther (l := l) (D := D) (cI := cI) (cB := cB) (cJ := cJ) (h_t := h_t_faults) (h_t_otherWords := h_t_faults_otherWords) (h_t_otherMasks := h_t_faults_otherMasks) (v_t_kinds := v_t_faults_kinds) (v_t_victimWords := (.ref h_t_faults_victimWords)) (v_t_victimMasks := (.ref h_t_faults_victimMasks)) (v_t_count := v_t_faults_count) (v_t_touchedWords := v_t_faults_touchedWords) (v_t_bits := v_t_faults_bits) (n_t_otherWords := n_t_faults_otherWords) (n_t_otherMasks := n_t_faults_otherMasks) (t_otherWords_a := t_faults_otherWords_a) (t_otherMasks_a := t_faults_otherMasks_a) (a1 := a1) (a2 := a2) (a3 := a3) (sz := H.size) (res := q53_2) (hf := hc)) w_233 w_234 w_235 w_28 w_236 (by decide +kernel) rfl rfl ⟨Nat.le_of_ble_eq_true rfl, Nat.le_of_ble_eq_true rfl⟩ hP hD hS hA [1, 4, 5] [0, 2, 3, 6] rfl rfl (by decide) (by decide) (by decide) (ci := 3) 0 rfl rfl hl.1 rfl rfl (lv_room (Nat.le_of_ble_eq_true rfl)) d_Memory_isPulledDown_53 ⟨Nat.le_of_ble_eq_true rfl, Nat.le_of_ble_eq_true rfl⟩ (fun o ws' H locs hp hP hD hS => ?_)
    obtain ⟨rfl, rfl⟩ := hp
    have hP : va_P D classes [(h_t, .inr (5, [v_t_words, v_t_bits, .ref h_t_held, .ref h_t_faults, v_t_latest])), (h_t_faults, .inr (3, [v_t_faults_kinds, .ref h_t_faults_victimWords, .ref h_t_faults_victimMasks, .ref h_t_faults_otherWords, .ref h_t_faults_otherMasks, v_t_faults_count, v_t_faults_touchedWords, v_t_faults_bits])), (h_t_faults_victimWords, .inl (cI, n_t_faults_victimWords, .inl t_faults_victimWords_a)), (h_t_faults_victimMasks, .inl (cI, n_t_faults_victimMasks, .inl t_faults_victimMasks_a)), (h_t_faults_otherWords, .inl (cI, n_t_faults_otherWords, .inl t_faults_otherWords_a)), (h_t_faults_otherMasks, .inl (cI, n_t_faults_otherMasks, .inl t_faults_otherMasks_a)), (h_t_held, .inl (cI, n_t_held, .inl t_held_a))] H := hP.sub [0, 4, 1, 2, 5, 6, 3] rfl
    have hD : va_D A [(h_t, .inr (5, [v_t_words, v_t_bits, .ref h_t_held, .ref h_t_faults, v_t_latest])), (h_t_faults, .inr (3, [v_t_faults_kinds, .ref h_t_faults_victimWords, .ref h_t_faults_victimMasks, .ref h_t_faults_otherWords, .ref h_t_faults_otherMasks, v_t_faults_count, v_t_faults_touchedWords, v_t_faults_bits])), (h_t_faults_victimWords, .inl (cI, n_t_faults_victimWords, .inl t_faults_victimWords_a)), (h_t_faults_victimMasks, .inl (cI, n_t_faults_victimMasks, .inl t_faults_victimMasks_a)), (h_t_faults_otherWords, .inl (cI, n_t_faults_otherWords, .inl t_faults_otherWords_a)), (h_t_faults_otherMasks, .inl (cI, n_t_faults_otherMasks, .inl t_faults_otherMasks_a)), (h_t_held, .inl (cI, n_t_held, .inl t_held_a))] := hD.sub [0, 4, 1, 2, 5, 6, 3] (by decide) rfl
    refine lv_if_eq (tgt := 90) hx hb d_Memory_isPulledDown_56 (by decide) (fun cc56 => ?_) (fun cc56 => ?_)
    · have hf := ifT cc56 hf
      refine lv_iconst (v := 0) hx hb d_Memory_isPulledDown_90 (by decide) ?_
      obtain rfl := Option.some.inj hf
      exact ret_z hx hb hr rfl hlocks hP hD hS ⟨rfl, rfl⟩ d_Memory_isPulledDown_91
    · have hf := ifF cc56 hf
      refine lv_aload_n hx hb d_Memory_isPulledDown_59 rfl (lv_at hl 0 rfl) ?_
      refine va_get (D := D) (ci := 5) (v := .ref h_t_held) (C := R_Memory) (T := F_Memory) (N := 5) hx hb hts i_Memory hown hK.1 hP 0 rfl rfl 2 (by decide) (hts _ w_25) (fun _ h9 => h9) rfl d_Memory_isPulledDown_60 ?_
      refine lv_aload_n hx hb d_Memory_isPulledDown_63 rfl (lv_at hl 0 rfl) ?_
      refine va_get (D := D) (ci := 5) (v := .ref h_t_faults) (C := R_Memory) (T := F_Memory) (N := 5) hx hb hts i_Memory hown hK.1 hP 0 rfl rfl 3 (by decide) (hts _ w_32) (fun _ h9 => h9) rfl d_Memory_isPulledDown_64 ?_
      refine va_get (D := D) (ci := 3) (v := .ref h_t_faults_victimWords) (C := R_FaultList) (T := F_FaultList) (N := 8) hx hb hts i_FaultList hown hK.1 hP 1 rfl rfl 1 (by decide) (hts _ w_216) (fun _ h9 => h9) rfl d_Memory_isPulledDown_67 ?_
      refine lv_iload_n hx hb d_Memory_isPulledDown_70 rfl (lv_at hl 1 rfl) ?_
      obtain ⟨hin1, hf⟩ := ifG hf
      refine va_iald hx hb hK.1 hP 2 0 rfl rfl (inB_in hin1) d_Memory_isPulledDown_71 ?_
      obtain ⟨hin1, hf⟩ := ifG hf
      refine va_iald hx hb hK.1 hP 6 0 rfl rfl (inB_in hin1) d_Memory_isPulledDown_72 ?_
      refine lv_aload_n hx hb d_Memory_isPulledDown_73 rfl (lv_at hl 0 rfl) ?_
      refine va_get (D := D) (ci := 5) (v := .ref h_t_faults) (C := R_Memory) (T := F_Memory) (N := 5) hx hb hts i_Memory hown hK.1 hP 0 rfl rfl 3 (by decide) (hts _ w_32) (fun _ h9 => h9) rfl d_Memory_isPulledDown_74 ?_
      refine va_get (D := D) (ci := 3) (v := .ref h_t_faults_victimMasks) (C := R_FaultList) (T := F_FaultList) (N := 8) hx hb hts i_FaultList hown hK.1 hP 1 rfl rfl 2 (by decide) (hts _ w_217) (fun _ h9 => h9) rfl d_Memory_isPulledDown_77 ?_
      refine lv_iload_n hx hb d_Memory_isPulledDown_80 rfl (lv_at hl 1 rfl) ?_
      obtain ⟨hin1, hf⟩ := ifG hf
      refine va_iald hx hb hK.1 hP 3 0 rfl rfl (inB_in hin1) d_Memory_isPulledDown_81 ?_
      refine lv_iand hx hb d_Memory_isPulledDown_82 ?_
      refine lv_if_ne (tgt := 90) hx hb d_Memory_isPulledDown_83 (by decide) (fun cc83 => ?_) (fun cc83 => ?_)
      · have hf := ifF cc83 hf
        refine lv_iconst (v := 0) hx hb d_Memory_isPulledDown_90 (by decide) ?_
        obtain rfl := Option.some.inj hf
        exact ret_z hx hb hr rfl hlocks hP hD hS ⟨rfl, rfl⟩ d_Memory_isPulledDown_91
      · have hf := ifT cc83 hf
        refine lv_iconst (v := 1) hx hb d_Memory_isPulledDown_86 (by decide) ?_
        refine lv_goto (tgt := 91) hx hb d_Memory_isPulledDown_87 (by decide) ?_
        obtain rfl := Option.some.inj hf
        exact ret_z hx hb hr rfl hlocks hP hD hS ⟨rfl, rfl⟩ d_Memory_isPulledDown_91
  · have hf := ifF cc10 hf
    refine lv_aload_n hx hb d_Memory_isPulledDown_13 rfl (lv_at hl 0 rfl) ?_
    refine va_get (D := D) (ci := 5) (v := .ref h_t_held) (C := R_Memory) (T := F_Memory) (N := 5) hx hb hts i_Memory hown hK.1 hP 0 rfl rfl 2 (by decide) (hts _ w_25) (fun _ h9 => h9) rfl d_Memory_isPulledDown_14 ?_
    refine lv_aload_n hx hb d_Memory_isPulledDown_17 rfl (lv_at hl 0 rfl) ?_
    refine va_get (D := D) (ci := 5) (v := .ref h_t_faults) (C := R_Memory) (T := F_Memory) (N := 5) hx hb hts i_Memory hown hK.1 hP 0 rfl rfl 3 (by decide) (hts _ w_32) (fun _ h9 => h9) rfl d_Memory_isPulledDown_18 ?_
    refine va_get (D := D) (ci := 3) (v := .ref h_t_faults_otherWords) (C := R_FaultList) (T := F_FaultList) (N := 8) hx hb hts i_FaultList hown hK.1 hP 1 rfl rfl 3 (by decide) (hts _ w_219) (fun _ h9 => h9) rfl d_Memory_isPulledDown_21 ?_
    refine lv_iload_n hx hb d_Memory_isPulledDown_24 rfl (lv_at hl 1 rfl) ?_
    obtain ⟨hin1, hf⟩ := ifG hf
    refine va_iald hx hb hK.1 hP 4 0 rfl rfl (inB_in hin1) d_Memory_isPulledDown_25 ?_
    obtain ⟨hin1, hf⟩ := ifG hf
    refine va_iald hx hb hK.1 hP 6 0 rfl rfl (inB_in hin1) d_Memory_isPulledDown_26 ?_
    refine lv_aload_n hx hb d_Memory_isPulledDown_27 rfl (lv_at hl 0 rfl) ?_
    refine va_get (D := D) (ci := 5) (v := .ref h_t_faults) (C := R_Memory) (T := F_Memory) (N := 5) hx hb hts i_Memory hown hK.1 hP 0 rfl rfl 3 (by decide) (hts _ w_32) (fun _ h9 => h9) rfl d_Memory_isPulledDown_28 ?_
    refine va_get (D := D) (ci := 3) (v := .ref h_t_faults_otherMasks) (C := R_FaultList) (T := F_FaultList) (N := 8) hx hb hts i_FaultList hown hK.1 hP 1 rfl rfl 4 (by decide) (hts _ w_220) (fun _ h9 => h9) rfl d_Memory_isPulledDown_31 ?_
    refine lv_iload_n hx hb d_Memory_isPulledDown_34 rfl (lv_at hl 1 rfl) ?_
    obtain ⟨hin1, hf⟩ := ifG hf
    refine va_iald hx hb hK.1 hP 5 0 rfl rfl (inB_in hin1) d_Memory_isPulledDown_35 ?_
    refine lv_iand hx hb d_Memory_isPulledDown_36 ?_
    refine lv_if_ne (tgt := 44) hx hb d_Memory_isPulledDown_37 (by decide) (fun cc37 => ?_) (fun cc37 => ?_)
    · have hf := ifF cc37 hf
      refine lv_iconst (v := 0) hx hb d_Memory_isPulledDown_44 (by decide) ?_
      obtain rfl := Option.some.inj hf
      exact ret_z hx hb hr rfl hlocks hP hD hS ⟨rfl, rfl⟩ d_Memory_isPulledDown_45
    · have hf := ifT cc37 hf
      refine lv_iconst (v := 1) hx hb d_Memory_isPulledDown_40 (by decide) ?_
      refine lv_goto (tgt := 45) hx hb d_Memory_isPulledDown_41 (by decide) ?_
      obtain rfl := Option.some.inj hf
      exact ret_z hx hb hr rfl hlocks hP hD hS ⟨rfl, rfl⟩ d_Memory_isPulledDown_45
