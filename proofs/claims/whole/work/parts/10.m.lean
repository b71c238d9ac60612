def f_JI_bitCount (a1 : Int32) : Option (Int32) :=
  some ((((((((a1 - (((Int32.toUInt32 a1 >>> (Int32.toUInt32 1 &&& Int32.toUInt32 31)).toInt32) &&& 1431655765)) &&& 858993459) + (((Int32.toUInt32 (a1 - (((Int32.toUInt32 a1 >>> (Int32.toUInt32 1 &&& Int32.toUInt32 31)).toInt32) &&& 1431655765)) >>> (Int32.toUInt32 2 &&& Int32.toUInt32 31)).toInt32) &&& 858993459)) + ((Int32.toUInt32 (((a1 - (((Int32.toUInt32 a1 >>> (Int32.toUInt32 1 &&& Int32.toUInt32 31)).toInt32) &&& 1431655765)) &&& 858993459) + (((Int32.toUInt32 (a1 - (((Int32.toUInt32 a1 >>> (Int32.toUInt32 1 &&& Int32.toUInt32 31)).toInt32) &&& 1431655765)) >>> (Int32.toUInt32 2 &&& Int32.toUInt32 31)).toInt32) &&& 858993459)) >>> (Int32.toUInt32 4 &&& Int32.toUInt32 31)).toInt32)) &&& 252645135) + ((Int32.toUInt32 (((((a1 - (((Int32.toUInt32 a1 >>> (Int32.toUInt32 1 &&& Int32.toUInt32 31)).toInt32) &&& 1431655765)) &&& 858993459) + (((Int32.toUInt32 (a1 - (((Int32.toUInt32 a1 >>> (Int32.toUInt32 1 &&& Int32.toUInt32 31)).toInt32) &&& 1431655765)) >>> (Int32.toUInt32 2 &&& Int32.toUInt32 31)).toInt32) &&& 858993459)) + ((Int32.toUInt32 (((a1 - (((Int32.toUInt32 a1 >>> (Int32.toUInt32 1 &&& Int32.toUInt32 31)).toInt32) &&& 1431655765)) &&& 858993459) + (((Int32.toUInt32 (a1 - (((Int32.toUInt32 a1 >>> (Int32.toUInt32 1 &&& Int32.toUInt32 31)).toInt32) &&& 1431655765)) >>> (Int32.toUInt32 2 &&& Int32.toUInt32 31)).toInt32) &&& 858993459)) >>> (Int32.toUInt32 4 &&& Int32.toUInt32 31)).toInt32)) &&& 252645135) >>> (Int32.toUInt32 8 &&& Int32.toUInt32 31)).toInt32)) + ((Int32.toUInt32 ((((((a1 - (((Int32.toUInt32 a1 >>> (Int32.toUInt32 1 &&& Int32.toUInt32 31)).toInt32) &&& 1431655765)) &&& 858993459) + (((Int32.toUInt32 (a1 - (((Int32.toUInt32 a1 >>> (Int32.toUInt32 1 &&& Int32.toUInt32 31)).toInt32) &&& 1431655765)) >>> (Int32.toUInt32 2 &&& Int32.toUInt32 31)).toInt32) &&& 858993459)) + ((Int32.toUInt32 (((a1 - (((Int32.toUInt32 a1 >>> (Int32.toUInt32 1 &&& Int32.toUInt32 31)).toInt32) &&& 1431655765)) &&& 858993459) + (((Int32.toUInt32 (a1 - (((Int32.toUInt32 a1 >>> (Int32.toUInt32 1 &&& Int32.toUInt32 31)).toInt32) &&& 1431655765)) >>> (Int32.toUInt32 2 &&& Int32.toUInt32 31)).toInt32) &&& 858993459)) >>> (Int32.toUInt32 4 &&& Int32.toUInt32 31)).toInt32)) &&& 252645135) + ((Int32.toUInt32 (((((a1 - (((Int32.toUInt32 a1 >>> (Int32.toUInt32 1 &&& Int32.toUInt32 31)).toInt32) &&& 1431655765)) &&& 858993459) + (((Int32.toUInt32 (a1 - (((Int32.toUInt32 a1 >>> (Int32.toUInt32 1 &&& Int32.toUInt32 31)).toInt32) &&& 1431655765)) >>> (Int32.toUInt32 2 &&& Int32.toUInt32 31)).toInt32) &&& 858993459)) + ((Int32.toUInt32 (((a1 - (((Int32.toUInt32 a1 >>> (Int32.toUInt32 1 &&& Int32.toUInt32 31)).toInt32) &&& 1431655765)) &&& 858993459) + (((Int32.toUInt32 (a1 - (((Int32.toUInt32 a1 >>> (Int32.toUInt32 1 &&& Int32.toUInt32 31)).toInt32) &&& 1431655765)) >>> (Int32.toUInt32 2 &&& Int32.toUInt32 31)).toInt32) &&& 858993459)) >>> (Int32.toUInt32 4 &&& Int32.toUInt32 31)).toInt32)) &&& 252645135) >>> (Int32.toUInt32 8 &&& Int32.toUInt32 31)).toInt32)) >>> (Int32.toUInt32 16 &&& Int32.toUInt32 31)).toInt32)) &&& 63)
def post_JI_bitCount (cI cB cJ : ClassId) (res : Int32) : Option Value → va_W → Prop := fun o ws' => o = some (.int res) ∧ ws' = []
abbrev rm_JI_bitCount : Room := { frames := 0, cells := 0, slots := 0, locals := 0 }
set_option maxHeartbeats 4000000 in
set_option maxRecDepth 100000 in
theorem c_JI_bitCount (l : Launch) (D : va_G) (cI cB cJ : ClassId)   (a1 : Int32) (sz : Nat) (res : Int32) (hf : f_JI_bitCount a1 = some res) : Met l y_JI_bitCount (.code y_JI_bitCount b_JI_bitCount 1 (some .int) :: TB) rm_JI_bitCount (PcW D [(cI, .int), (cB, .byte), (cJ, .long)] [.int a1] [] sz) (QW D (post_JI_bitCount cI cB cJ res) (va_A [] sz)) 0 0 (va_A [] sz) := by
  refine entW ⟨by decide +kernel, rfl⟩ fun p e s m below meth c C0 hP hD hsz ls hl => ?_
  subst hsz
  generalize hAe : va_A [] s.heap.size = A at hD ⊢
  have hA : ∀ q : Nat, s.heap.size ≤ q → A q := fun q h => by rw [← hAe]; exact Or.inr h
  clear hAe
  have hS : va_S A s.heap s.heap [] := va_S.rf
  have hl : lv_has ls 1 [(0, .int a1)] := hl
  obtain ⟨hx, hb, hml, hr, hlocks, hts, hown, hK, hin⟩ := id C0
  have hf : (((
  some ((((((((a1 - (((Int32.toUInt32 a1 >>> (Int32.toUInt32 1 &&& Int32.toUInt32 31)).toInt32) &&& 1431655765)) &&& 858993459) + (((Int32.toUInt32 (a1 - (((Int32.toUInt32 a1 >>> (Int32.toUInt32 1 &&& Int32.toUInt32 31)).toInt32) &&& 1431655765)) >>> (Int32.toUInt32 2 &&& Int32.toUInt32 31)).toInt32) &&& 858993459)) + ((Int32.toUInt32 (((a1 - (((Int32.toUInt32 a1 >>> (Int32.toUInt32 1 &&& Int32.toUInt32 31)).toInt32) &&& 1431655765)) &&& 858993459) + (((Int32.toUInt32 (a1 - (((Int32.toUInt32 a1 >>> (Int32.toUInt32 1 &&& Int32.toUInt32 31)).toInt32) &&& 1431655765)) >>> (Int32.toUInt32 2 &&& Int32.toUInt32 31)).toInt32) &&& 858993459)) >>> (Int32.toUInt32 4 &&& Int32.toUInt32 31)).toInt32)) &&& 252645135) + ((Int32.toUInt32 (((((a1 - (((Int32.toUInt32 a1 >>> (Int32.toUInt32 1 &&& Int32.toUInt32 31)).toInt32) &&& 1431655765)) &&& 858993459) + (((Int32.toUInt32 (a1 - (((Int32.toUInt32 a1 >>> (Int32.toUInt32 1 &&& Int32.toUInt32 31)).toInt32) &&& 1431655765)) >>> (Int32.toUInt32 2 &&& Int32.toUInt32 31)).toInt32) &&& 858993459)) + ((Int32.toUInt32 (((a1 - (((Int32.toUInt32 a1 >>> (Int32.toUInt32 1 &&& Int32.toUInt32 31)).toInt32) &&& 1431655765)) &&& 858993459) + (((Int32.toUInt32 (a1 - (((Int32.toUInt32 a1 >>> (Int32.toUInt32 1 &&& Int32.toUInt32 31)).toInt32) &&& 1431655765)) >>> (Int32.toUInt32 2 &&& Int32.toUInt32 31)).toInt32) &&& 858993459)) >>> (Int32.toUInt32 4 &&& Int32.toUInt32 31)).toInt32)) &&& 252645135) >>> (Int32.toUInt32 8 &&& Int32.toUInt32 31)).toInt32)) + ((Int32.toUInt32 ((((((a1 - (((Int32.toUInt32 a1 >>> (Int32.toUInt32 1 &&& Int32.toUInt32 31)).toInt32) &&& 1431655765)) &&& 858993459) + (((Int32.toUInt32 (a1 - (((Int32.toUInt32 a1 >>> (Int32.toUInt32 1 &&& Int32.toUInt32 31)).toInt32) &&& 1431655765)) >>> (Int32.toUInt32 2 &&& Int32.toUInt32 31)).toInt32) &&& 858993459)) + ((Int32.toUInt32 (((a1 - (((Int32.toUInt32 a1 >>> (Int32.toUInt32 1 &&& Int32.toUInt32 31)).toInt32) &&& 1431655765)) &&& 858993459) + (((Int32.toUInt32 (a1 - (((Int32.toUInt32 a1 >>> (Int32.toUInt32 1 &&& Int32.toUInt32 31)).toInt32) &&& 1431655765)) >>> (Int32.toUInt32 2 &&& Int32.toUInt32 31)).toInt32) &&& 858993459)) >>> (Int32.toUInt32 4 &&& Int32.toUInt32 31)).toInt32)) &&& 252645135) + ((Int32.toUInt32 (((((a1 - (((Int32.toUInt32 a1 >>> (Int32.toUInt32 1 &&& Int32.toUInt32 31)).toInt32) &&& 1431655765)) &&& 858993459) + (((Int32.toUInt32 (a1 - (((Int32.toUInt32 a1 >>> (Int32.toUInt32 1 &&& Int32.toUInt32 31)).toInt32) &&& 1431655765)) >>> (Int32.toUInt32 2 &&& Int32.toUInt32 31)).toInt32) &&& 858993459)) + ((Int32.toUInt32 (((a1 - (((Int32.toUInt32 a1 >>> (Int32.toUInt32 1 &&& Int32.toUInt32 31)).toInt32) &&& 1431655765)) &&& 858993459) + (((Int32.toUInt32 (a1 - (((Int32.toUInt32 a1 >>> (Int32.toUInt32 1 &&& Int32.toUInt32 31)).toInt32) &&& 1431655765)) >>> (Int32.toUInt32 2 &&& Int32.toUInt32 31)).toInt32) &&& 858993459)) >>> (Int32.toUInt32 4 &&& Int32.toUInt32 31)).toInt32)) &&& 252645135) >>> (Int32.toUInt32 8 &&& Int32.toUInt32 31)).toInt32)) >>> (Int32.toUInt32 16 &&& Int32.toUInt32 31)).toInt32)) &&& 63))) : Option (Int32)) = some res := hf
  obtain ⟨H, hH⟩ : ∃ H, H = s.heap := ⟨_, rfl⟩
  obtain ⟨locs, hlo⟩ : ∃ x : List Loc, x = [] := ⟨_, rfl⟩
  rw [← hlo] at hS ⊢
  have hP : va_P D classes [] H := by rw [hH]; exact hP
  have hS : va_S A s.heap H locs := by rw [hH]; exact hS
  show W p l e rm_JI_bitCount s m _ below meth c s.heap locs 0 0 (MQ below (QW D (post_JI_bitCount cI cB cJ res) A) _ s 0 0 A) (F0 m 0 ls [])
  refine wheap hH ?_
  clear hH hlo
  refine lv_iload_n hx hb d_JI_bitCount_0 rfl (lv_at hl 0 rfl) ?_
  refine lv_iload_n hx hb d_JI_bitCount_1 rfl (lv_at hl 0 rfl) ?_
  refine lv_iconst (v := 1) hx hb d_JI_bitCount_2 (by decide) ?_
  refine lv_iushr hx hb d_JI_bitCount_3 (v := ((Int32.toUInt32 a1 >>> (Int32.toUInt32 1 &&& Int32.toUInt32 31)).toInt32)) rfl ?_
  refine lv_ldcw (v := 1431655765) hx hb hown (hts _ w_0) d_JI_bitCount_4 ?_
  refine lv_iand hx hb d_JI_bitCount_7 ?_
  refine lv_isub hx hb d_JI_bitCount_8 ?_
  refine lv_istore_n (lv' := [(0, .int (a1 - (((Int32.toUInt32 a1 >>> (Int32.toUInt32 1 &&& Int32.toUInt32 31)).toInt32) &&& 1431655765)))]) hx hb d_JI_bitCount_9 rfl hl (by decide) rfl (fun ls hl => ?_)
  refine lv_iload_n hx hb d_JI_bitCount_10 rfl (lv_at hl 0 rfl) ?_
  refine lv_ldcw (v := 858993459) hx hb hown (hts _ w_1) d_JI_bitCount_11 ?_
  refine lv_iand hx hb d_JI_bitCount_14 ?_
  refine lv_iload_n hx hb d_JI_bitCount_15 rfl (lv_at hl 0 rfl) ?_
  refine lv_iconst (v := 2) hx hb d_JI_bitCount_16 (by decide) ?_
  refine lv_iushr hx hb d_JI_bitCount_17 (v := ((Int32.toUInt32 (a1 - (((Int32.toUInt32 a1 >>> (Int32.toUInt32 1 &&& Int32.toUInt32 31)).toInt32) &&& 1431655765)) >>> (Int32.toUInt32 2 &&& Int32.toUInt32 31)).toInt32)) rfl ?_
  refine lv_ldcw (v := 858993459) hx hb hown (hts _ w_1) d_JI_bitCount_18 ?_
  refine lv_iand hx hb d_JI_bitCount_21 ?_
  refine lv_iadd hx hb d_JI_bitCount_22 ?_
  refine lv_istore_n (lv' := [(0, .int (((a1 - (((Int32.toUInt32 a1 >>> (Int32.toUInt32 1 &&& Int32.toUInt32 31)).toInt32) &&& 1431655765)) &&& 858993459) + (((Int32.toUInt32 (a1 - (((Int32.toUInt32 a1 >>> (Int32.toUInt32 1 &&& Int32.toUInt32 31)).toInt32) &&& 1431655765)) >>> (Int32.toUInt32 2 &&& Int32.toUInt32 31)).toInt32) &&& 858993459)))]) hx hb d_JI_bitCount_23 rfl hl (by decide) rfl (fun ls hl => ?_)
  refine lv_iload_n hx hb d_JI_bitCount_24 rfl (lv_at hl 0 rfl) ?_
  refine lv_iload_n hx hb d_JI_bitCount_25 rfl (lv_at hl 0 rfl) ?_
  refine lv_iconst (v := 4) hx hb d_JI_bitCount_26 (by decide) ?_
  refine lv_iushr hx hb d_JI_bitCount_27 (v := ((Int32.toUInt32 (((a1 - (((Int32.toUInt32 a1 >>> (Int32.toUInt32 1 &&& Int32.toUInt32 31)).toInt32) &&& 1431655765)) &&& 858993459) + (((Int32.toUInt32 (a1 - (((Int32.toUInt32 a1 >>> (Int32.toUInt32 1 &&& Int32.toUInt32 31)).toInt32) &&& 1431655765)) >>> (Int32.toUInt32 2 &&& Int32.toUInt32 31)).toInt32) &&& 858993459)) >>> (Int32.toUInt32 4 &&& Int32.toUInt32 31)).toInt32)) rfl ?_
  refine lv_iadd hx hb d_JI_bitCount_28 ?_
  refine lv_ldcw (v := 252645135) hx hb hown (hts _ w_2) d_JI_bitCount_29 ?_
  refine lv_iand hx hb d_JI_bitCount_32 ?_
  refine lv_istore_n (lv' := [(0, .int (((((a1 - (((Int32.toUInt32 a1 >>> (Int32.toUInt32 1 &&& Int32.toUInt32 31)).toInt32) &&& 1431655765)) &&& 858993459) + (((Int32.toUInt32 (a1 - (((Int32.toUInt32 a1 >>> (Int32.toUInt32 1 &&& Int32.toUInt32 31)).toInt32) &&& 1431655765)) >>> (Int32.toUInt32 2 &&& Int32.toUInt32 31)).toInt32) &&& 858993459)) + ((Int32.toUInt32 (((a1 - (((Int32.toUInt32 a1 >>> (Int32.toUInt32 1 &&& Int32.toUInt32 31)).toInt32) &&& 1431655765)) &&& 858993459) + (((Int32.toUInt32 (a1 - (((Int32.toUInt32 a1 >>> (Int32.toUInt32 1 &&& Int32.toUInt32 31)).toInt32) &&& 1431655765)) >>> (Int32.toUInt32 2 &&& Int32.toUInt32 31)).toInt32) &&& 858993459)) >>> (Int32.toUInt32 4 &&& Int32.toUInt32 31)).toInt32)) &&& 252645135))]) hx hb d_JI_bitCount_33 rfl hl (by decide) rfl (fun ls hl => ?_)
  refine lv_iload_n hx hb d_JI_bitCount_34 rfl (lv_at hl 0 rfl) ?_
  refine lv_iload_n hx hb d_JI_bitCount_35 rfl (lv_at hl 0 rfl) ?_
  refine lv_bipush (v := 8) hx hb d_JI_bitCount_36 (by decide) ?_
  refine lv_iushr hx hb d_JI_bitCount_38 (v := ((Int32.toUInt32 (((((a1 - (((Int32.toUInt32 a1 >>> (Int32.toUInt32 1 &&& Int32.toUInt32 31)).toInt32) &&& 1431655765)) &&& 858993459) + (((Int32.toUInt32 (a1 - (((Int32.toUInt32 a1 >>> (Int32.toUInt32 1 &&& Int32.toUInt32 31)).toInt32) &&& 1431655765)) >>> (Int32.toUInt32 2 &&& Int32.toUInt32 31)).toInt32) &&& 858993459)) + ((Int32.toUInt32 (((a1 - (((Int32.toUInt32 a1 >>> (Int32.toUInt32 1 &&& Int32.toUInt32 31)).toInt32) &&& 1431655765)) &&& 858993459) + (((Int32.toUInt32 (a1 - (((Int32.toUInt32 a1 >>> (Int32.toUInt32 1 &&& Int32.toUInt32 31)).toInt32) &&& 1431655765)) >>> (Int32.toUInt32 2 &&& Int32.toUInt32 31)).toInt32) &&& 858993459)) >>> (Int32.toUInt32 4 &&& Int32.toUInt32 31)).toInt32)) &&& 252645135) >>> (Int32.toUInt32 8 &&& Int32.toUInt32 31)).toInt32)) rfl ?_
  refine lv_iadd hx hb d_JI_bitCount_39 ?_
  refine lv_istore_n (lv' := [(0, .int ((((((a1 - (((Int32.toUInt32 a1 >>> (Int32.toUInt32 1 &&& Int32.toUInt32 31)).toInt32) &&& 1431655765)) &&& 858993459) + (((Int32.toUInt32 (a1 - (((Int32.toUInt32 a1 >>> (Int32.toUInt32 1 &&& Int32.toUInt32 31)).toInt32) &&& 1431655765)) >>> (Int32.toUInt32 2 &&& Int32.toUInt32 31)).toInt32) &&& 858993459)) + ((Int32.toUInt32 (((a1 - (((Int32.toUInt32 a1 >>> (Int32.toUInt32 1 &&& Int32.toUInt32 31)).toInt32) &&& 1431655765)) &&& 858993459) + (((Int32.toUInt32 (a1 - (((Int32.toUInt32 a1 >>> (Int32.toUInt32 1 &&& Int32.toUInt32 31)).toInt32) &&& 1431655765)) >>> (Int32.toUInt32 2 &&& Int32.toUInt32 31)).toInt32) &&& 858993459)) >>> (Int32.toUInt32 4 &&& Int32.toUInt32 31)).toInt32)) &&& 252645135) + ((Int32.toUInt32 (((((a1 - (((Int32.toUInt32 a1 >>> (Int32.toUInt32 1 &&& Int32.toUInt32 31)).toInt32) &&& 1431655765)) &&& 858993459) + (((Int32.toUInt32 (a1 - (((Int32.toUInt32 a1 >>> (Int32.toUInt32 1 &&& Int32.toUInt32 31)).toInt32) &&& 1431655765)) >>> (Int32.toUInt32 2 &&& Int32.toUInt32 31)).toInt32) &&& 858993459)) + ((Int32.toUInt32 (((a1 - (((Int32.toUInt32 a1 >>> (Int32.toUInt32 1 &&& Int32.toUInt32 31)).toInt32) &&& 1431655765)) &&& 858993459) + (((Int32.toUInt32 (a1 - (((Int32.toUInt32 a1 >>> (Int32.toUInt32 1 &&& Int32.toUInt32 31)).toInt32) &&& 1431655765)) >>> (Int32.toUInt32 2 &&& Int32.toUInt32 31)).toInt32) &&& 858993459)) >>> (Int32.toUInt32 4 &&& Int32.toUInt32 31)).toInt32)) &&& 252645135) >>> (Int32.toUInt32 8 &&& Int32.toUInt32 31)).toInt32)))]) hx hb d_JI_bitCount_40 rfl hl (by decide) rfl (fun ls hl => ?_)
  refine lv_iload_n hx hb d_JI_bitCount_41 rfl (lv_at hl 0 rfl) ?_
  refine lv_iload_n hx hb d_JI_bitCount_42 rfl (lv_at hl 0 rfl) ?_
  refine lv_bipush (v := 16) hx hb d_JI_bitCount_43 (by decide) ?_
  refine lv_iushr hx hb d_JI_bitCount_45 (v := ((Int32.toUInt32 ((((((a1 - (((Int32.toUInt32 a1 >>> (Int32.toUInt32 1 &&& Int32.toUInt32 31)).toInt32) &&& 1431655765)) &&& 858993459) + (((Int32.toUInt32 (a1 - (((Int32.toUInt32 a1 >>> (Int32.toUInt32 1 &&& Int32.toUInt32 31)).toInt32) &&& 1431655765)) >>> (Int32.toUInt32 2 &&& Int32.toUInt32 31)).toInt32) &&& 858993459)) + ((Int32.toUInt32 (((a1 - (((Int32.toUInt32 a1 >>> (Int32.toUInt32 1 &&& Int32.toUInt32 31)).toInt32) &&& 1431655765)) &&& 858993459) + (((Int32.toUInt32 (a1 - (((Int32.toUInt32 a1 >>> (Int32.toUInt32 1 &&& Int32.toUInt32 31)).toInt32) &&& 1431655765)) >>> (Int32.toUInt32 2 &&& Int32.toUInt32 31)).toInt32) &&& 858993459)) >>> (Int32.toUInt32 4 &&& Int32.toUInt32 31)).toInt32)) &&& 252645135) + ((Int32.toUInt32 (((((a1 - (((Int32.toUInt32 a1 >>> (Int32.toUInt32 1 &&& Int32.toUInt32 31)).toInt32) &&& 1431655765)) &&& 858993459) + (((Int32.toUInt32 (a1 - (((Int32.toUInt32 a1 >>> (Int32.toUInt32 1 &&& Int32.toUInt32 31)).toInt32) &&& 1431655765)) >>> (Int32.toUInt32 2 &&& Int32.toUInt32 31)).toInt32) &&& 858993459)) + ((Int32.toUInt32 (((a1 - (((Int32.toUInt32 a1 >>> (Int32.toUInt32 1 &&& Int32.toUInt32 31)).toInt32) &&& 1431655765)) &&& 858993459) + (((Int32.toUInt32 (a1 - (((Int32.toUInt32 a1 >>> (Int32.toUInt32 1 &&& Int32.toUInt32 31)).toInt32) &&& 1431655765)) >>> (Int32.toUInt32 2 &&& Int32.toUInt32 31)).toInt32) &&& 858993459)) >>> (Int32.toUInt32 4 &&& Int32.toUInt32 31)).toInt32)) &&& 252645135) >>> (Int32.toUInt32 8 &&& Int32.toUInt32 31)).toInt32)) >>> (Int32.toUInt32 16 &&& Int32.toUInt32 31)).toInt32)) rfl ?_
  refine lv_iadd hx hb d_JI_bitCount_46 ?_
  refine lv_istore_n (lv' := [(0, .int (((((((a1 - (((Int32.toUInt32 a1 >>> (Int32.toUInt32 1 &&& Int32.toUInt32 31)).toInt32) &&& 1431655765)) &&& 858993459) + (((Int32.toUInt32 (a1 - (((Int32.toUInt32 a1 >>> (Int32.toUInt32 1 &&& Int32.toUInt32 31)).toInt32) &&& 1431655765)) >>> (Int32.toUInt32 2 &&& Int32.toUInt32 31)).toInt32) &&& 858993459)) + ((Int32.toUInt32 (((a1 - (((Int32.toUInt32 a1 >>> (Int32.toUInt32 1 &&& Int32.toUInt32 31)).toInt32) &&& 1431655765)) &&& 858993459) + (((Int32.toUInt32 (a1 - (((Int32.toUInt32 a1 >>> (Int32.toUInt32 1 &&& Int32.toUInt32 31)).toInt32) &&& 1431655765)) >>> (Int32.toUInt32 2 &&& Int32.toUInt32 31)).toInt32) &&& 858993459)) >>> (Int32.toUInt32 4 &&& Int32.toUInt32 31)).toInt32)) &&& 252645135) + ((Int32.toUInt32 (((((a1 - (((Int32.toUInt32 a1 >>> (Int32.toUInt32 1 &&& Int32.toUInt32 31)).toInt32) &&& 1431655765)) &&& 858993459) + (((Int32.toUInt32 (a1 - (((Int32.toUInt32 a1 >>> (Int32.toUInt32 1 &&& Int32.toUInt32 31)).toInt32) &&& 1431655765)) >>> (Int32.toUInt32 2 &&& Int32.toUInt32 31)).toInt32) &&& 858993459)) + ((Int32.toUInt32 (((a1 - (((Int32.toUInt32 a1 >>> (Int32.toUInt32 1 &&& Int32.toUInt32 31)).toInt32) &&& 1431655765)) &&& 858993459) + (((Int32.toUInt32 (a1 - (((Int32.toUInt32 a1 >>> (Int32.toUInt32 1 &&& Int32.toUInt32 31)).toInt32) &&& 1431655765)) >>> (Int32.toUInt32 2 &&& Int32.toUInt32 31)).toInt32) &&& 858993459)) >>> (Int32.toUInt32 4 &&& Int32.toUInt32 31)).toInt32)) &&& 252645135) >>> (Int32.toUInt32 8 &&& Int32.toUInt32 31)).toInt32)) + ((Int32.toUInt32 ((((((a1 - (((Int32.toUInt32 a1 >>> (Int32.toUInt32 1 &&& Int32.toUInt32 31)).toInt32) &&& 1431655765)) &&& 858993459) + (((Int32.toUInt32 (a1 - (((Int32.toUInt32 a1 >>> (Int32.toUInt32 1 &&& Int32.toUInt32 31)).toInt32) &&& 1431655765)) >>> (Int32.toUInt32 2 &&& Int32.toUInt32 31)).toInt32) &&& 858993459)) + ((Int32.toUInt32 (((a1 - (((Int32.toUInt32 a1 >>> (Int32.toUInt32 1 &&& Int32.toUInt32 31)).toInt32) &&& 1431655765)) &&& 858993459) + (((Int32.toUInt32 (a1 - (((Int32.toUInt32 a1 >>> (Int32.toUInt32 1 &&& Int32.toUInt32 31)).toInt32) &&& 1431655765)) >>> (Int32.toUInt32 2 &&& Int32.toUInt32 31)).toInt32) &&& 858993459)) >>> (Int32.toUInt32 4 &&& Int32.toUInt32 31)).toInt32)) &&& 252645135) + ((Int32.toUInt32 (((((a1 - (((Int32.toUInt32 a1 >>> (Int32.toUInt32 1 &&& Int32.toUInt32 31)).toInt32) &&& 1431655765)) &&& 858993459) + (((Int32.toUInt32 (a1 - (((Int32.toUInt32 a1 >>> (Int32.toUInt32 1 &&& Int32.toUInt32 31)).toInt32) &&& 1431655765)) >>> (Int32.toUInt32 2 &&& Int32.toUInt32 31)).toInt32) &&& 858993459)) + ((Int32.toUInt32 (((a1 - (((Int32.toUInt32 a1 >>> (Int32.toUInt32 1 &&& Int32.toUInt32 31)).toInt32) &&& 1431655765)) &&& 858993459) + (((Int32.toUInt32 (a1 - (((Int32.toUInt32 a1 >>> (Int32.toUInt32 1 &&& Int32.toUInt32 31)).toInt32) &&& 1431655765)) >>> (Int32.toUInt32 2 &&& Int32.toUInt32 31)).toInt32) &&& 858993459)) >>> (Int32.toUInt32 4 &&& Int32.toUInt32 31)).toInt32)) &&& 252645135) >>> (Int32.toUInt32 8 &&& Int32.toUInt32 31)).toInt32)) >>> (Int32.toUInt32 16 &&& Int32.toUInt32 31)).toInt32)))]) hx hb d_JI_bitCount_47 rfl hl (by decide) rfl (fun ls hl => ?_)
  refine lv_iload_n hx hb d_JI_bitCount_48 rfl (lv_at hl 0 rfl) ?_
  refine lv_bipush (v := 63) hx hb d_JI_bitCount_49 (by decide) ?_
  refine lv_iand hx hb d_JI_bitCount_51 ?_
  obtain rfl := Option.some.inj hf
  exact ret_i hx hb hr hlocks hP hD hS ⟨rfl, rfl⟩ d_JI_bitCount_52
def f_Tape_add (n_t_units : Nat) (t_length : Int32) (t_units_a : Nat → Int32) (a1 : Int32) : Option (Int32 × Int32 × (Nat → Int32)) :=
  (if t_length < 400 then
    (if inB t_length n_t_units = true then
    some (1, (t_length + 1), (upd t_units_a (Int32.toNatClampNeg t_length) (vp_nar .byte ((Int32.toInt8 a1).toInt32))))
    else none)
  else
    some (0, t_length, t_units_a))
def post_Tape_add (h_t h_t_units : Nat) (n_t_units : Nat) (cI cB cJ : ClassId) (res : Int32 × Int32 × (Nat → Int32)) : Option Value → va_W → Prop := fun o ws' => o = some (.int res.1) ∧ ws' = [(h_t, .inr (7, [.ref h_t_units, .int res.2.1])), (h_t_units, .inl (cB, n_t_units, .inl res.2.2))]
abbrev rm_Tape_add : Room := { frames := 0, cells := 0, slots := 0, locals := 0 }
set_option maxHeartbeats 4000000 in
set_option maxRecDepth 100000 in
theorem c_Tape_add (l : Launch) (D : va_G) (cI cB cJ : ClassId) (h_t h_t_units : Nat)  (n_t_units : Nat) (t_length : Int32) (t_units_a : Nat → Int32) (a1 : Int32) (sz : Nat) (res : Int32 × Int32 × (Nat → Int32)) (hf : f_Tape_add n_t_units t_length t_units_a a1 = some res) : Met l y_Tape_add (.code y_Tape_add b_Tape_add 2 (some .boolean) :: TB) rm_Tape_add (PcW D [(cI, .int), (cB, .byte), (cJ, .long)] [.ref h_t, .int a1] [(h_t, .inr (7, [.ref h_t_units, .int t_length])), (h_t_units, .inl (cB, n_t_units, .inl t_units_a))] sz) (QW D (post_Tape_add h_t h_t_units n_t_units cI cB cJ res) (va_A [(h_t, .inr (7, [.ref h_t_units, .int t_length])), (h_t_units, .inl (cB, n_t_units, .inl t_units_a))] sz)) 0 0 (va_A [(h_t, .inr (7, [.ref h_t_units, .int t_length])), (h_t_units, .inl (cB, n_t_units, .inl t_units_a))] sz) := by
  refine entW ⟨by decide +kernel, rfl⟩ fun p e s m below meth c C0 hP hD hsz ls hl => ?_
  subst hsz
  generalize hAe : va_A [(h_t, .inr (7, [.ref h_t_units, .int t_length])), (h_t_units, .inl (cB, n_t_units, .inl t_units_a))] s.heap.size = A at hD ⊢
  have hA : ∀ q : Nat, s.heap.size ≤ q → A q := fun q h => by rw [← hAe]; exact Or.inr h
  clear hAe
  have hS : va_S A s.heap s.heap [] := va_S.rf
  have hl : lv_has ls 2 [(0, .ref h_t), (1, .int a1)] := hl
  obtain ⟨hx, hb, hml, hr, hlocks, hts, hown, hK, hin⟩ := id C0
  have hf : (((
  (if t_length < 400 then
    (if inB t_length n_t_units = true then
    some (1, (t_length + 1), (upd t_units_a (Int32.toNatClampNeg t_length) (vp_nar .byte ((Int32.toInt8 a1).toInt32))))
    else none)
  else
    some (0, t_length, t_units_a)))) : Option (Int32 × Int32 × (Nat → Int32))) = some res := hf
  obtain ⟨H, hH⟩ : ∃ H, H = s.heap := ⟨_, rfl⟩
  obtain ⟨locs, hlo⟩ : ∃ x : List Loc, x = [] := ⟨_, rfl⟩
  rw [← hlo] at hS ⊢
  have hP : va_P D classes [(h_t, .inr (7, [.ref h_t_units, .int t_length])), (h_t_units, .inl (cB, n_t_units, .inl t_units_a))] H := by rw [hH]; exact hP
  have hS : va_S A s.heap H locs := by rw [hH]; exact hS
  show W p l e rm_Tape_add s m _ below meth c s.heap locs 0 0 (MQ below (QW D (post_Tape_add h_t h_t_units n_t_units cI cB cJ res) A) _ s 0 0 A) (F0 m 0 ls [])
  refine wheap hH ?_
  clear hH hlo
  refine lv_aload_n hx hb d_Tape_add_0 rfl (lv_at hl 0 rfl) ?_
  refine va_get (D := D) (ci := 7) (v := .int t_length) (C := R_Tape) (T := F_Tape) (N := 2) hx hb hts i_Tape hown hK.1 hP 0 rfl rfl 1 (by decide) (hts _ w_113) (fun _ h9 => h9) rfl d_Tape_add_1 ?_
  refine lv_sipush (v := 400) hx hb d_Tape_add_4 (by decide) ?_
  refine lv_icmp_lt (tgt := 12) hx hb d_Tape_add_7 (by decide) (fun cc7 => ?_) (fun cc7 => ?_)
  · have hf := ifT cc7 hf
    refine lv_aload_n hx hb d_Tape_add_12 rfl (lv_at hl 0 rfl) ?_
    refine va_get (D := D) (ci := 7) (v := .ref h_t_units) (C := R_Tape) (T := F_Tape) (N := 2) hx hb hts i_Tape hown hK.1 hP 0 rfl rfl 0 (by decide) (hts _ w_7) (fun _ h9 => h9) rfl d_Tape_add_13 ?_
    refine lv_aload_n hx hb d_Tape_add_16 rfl (lv_at hl 0 rfl) ?_
    refine va_get (D := D) (ci := 7) (v := .int t_length) (C := R_Tape) (T := F_Tape) (N := 2) hx hb hts i_Tape hown hK.1 hP 0 rfl rfl 1 (by decide) (hts _ w_113) (fun _ h9 => h9) rfl d_Tape_add_17 ?_
    refine lv_iload_n hx hb d_Tape_add_20 rfl (lv_at hl 1 rfl) ?_
    refine lv_i2b (v := ((Int32.toInt8 a1).toInt32)) hx hb d_Tape_add_21 rfl ?_
    obtain ⟨hin1, hf⟩ := ifG hf
    refine va_bast hx hb hK.1 hP hD hS 1 1 rfl rfl (inB_in hin1) d_Tape_add_22 (fun H locs hP hD hS => ?_)
    have hP : va_P D classes [(h_t, .inr (7, [.ref h_t_units, .int t_length])), (h_t_units, .inl (cB, n_t_units, .inl (upd t_units_a (Int32.toNatClampNeg t_length) (vp_nar .byte ((Int32.toInt8 a1).toInt32)))))] H := hP
    have hD : va_D A [(h_t, .inr (7, [.ref h_t_units, .int t_length])), (h_t_units, .inl (cB, n_t_units, .inl (upd t_units_a (Int32.toNatClampNeg t_length) (vp_nar .byte ((Int32.toInt8 a1).toInt32)))))] := hD
    refine lv_aload_n hx hb d_Tape_add_23 rfl (lv_at hl 0 rfl) ?_
    refine lv_dup hx hb d_Tape_add_24 rfl ?_
    refine va_get (D := D) (ci := 7) (v := .int t_length) (C := R_Tape) (T := F_Tape) (N := 2) hx hb hts i_Tape hown hK.1 hP 0 rfl rfl 1 (by decide) (hts _ w_113) (fun _ h9 => h9) rfl d_Tape_add_25 ?_
    refine lv_iconst (v := 1) hx hb d_Tape_add_28 (by decide) ?_
    refine lv_iadd hx hb d_Tape_add_29 ?_
    refine va_put (D := D) (ci := 7) (v := .int (t_length + 1)) (ty := .int) (C := R_Tape) (T := F_Tape) (N := 2) hx hb hts i_Tape t_Tape t_Tape_ok n_Tape hown hK.1 hP hD hS 0 rfl rfl 1 (by decide) (hts _ w_113) (fun _ h9 => h9) rfl (t_Tape_ok 1 (by decide)) rfl rfl (Nat.le_of_ble_eq_true rfl) d_Tape_add_30 (fun H locs hP hD hS => ?_)
    have hP : va_P D classes [(h_t, .inr (7, [.ref h_t_units, .int (t_length + 1)])), (h_t_units, .inl (cB, n_t_units, .inl (upd t_units_a (Int32.toNatClampNeg t_length) (vp_nar .byte ((Int32.toInt8 a1).toInt32)))))] H := hP
    have hD : va_D A [(h_t, .inr (7, [.ref h_t_units, .int (t_length + 1)])), (h_t_units, .inl (cB, n_t_units, .inl (upd t_units_a (Int32.toNatClampNeg t_length) (vp_nar .byte ((Int32.toInt8 a1).toInt32)))))] := hD
    refine lv_iconst (v := 1) hx hb d_Tape_add_33 (by decide) ?_
    obtain rfl := Option.some.inj hf
    exact ret_z hx hb hr rfl hlocks hP hD hS ⟨rfl, rfl⟩ d_Tape_add_34
  · have hf := ifF cc7 hf
    refine lv_iconst (v := 0) hx hb d_Tape_add_10 (by decide) ?_
    obtain rfl := Option.some.inj hf
    exact ret_z hx hb hr rfl hlocks hP hD hS ⟨rfl, rfl⟩ d_Tape_add_11
def f_MT_unit (n_t_tape_units : Nat) (t_tape_length : Int32) (t_tape_units_a : Nat → Int32) (a1 : Int32) : Option (Int32 × Int32 × (Nat → Int32)) :=
  (Option.bind (f_Tape_add n_t_tape_units t_tape_length t_tape_units_a a1) fun q5_1 =>
  (if isB q5_1.1 = true then
  some (q5_1.1, q5_1.2.1, q5_1.2.2)
  else none))
def post_MT_unit (h_t h_t_tape h_t_tape_units : Nat) (v_t_words v_t_cells v_t_reader v_t_faults v_t_single v_t_tester v_t_plan v_t_march v_t_draft : Value) (n_t_tape_units : Nat) (cI cB cJ : ClassId) (res : Int32 × Int32 × (Nat → Int32)) : Option Value → va_W → Prop := fun o ws' => o = some (.int res.1) ∧ ws' = [(h_t, .inr (0, [v_t_words, v_t_cells, .ref h_t_tape, v_t_reader, v_t_faults, v_t_single, v_t_tester, v_t_plan, v_t_march, v_t_draft])), (h_t_tape, .inr (7, [.ref h_t_tape_units, .int res.2.1])), (h_t_tape_units, .inl (cB, n_t_tape_units, .inl res.2.2))]
abbrev rm_MT_unit : Room := { frames := 1, cells := 0, slots := 0, locals := 21 }
set_option maxHeartbeats 4000000 in
set_option maxRecDepth 100000 in
theorem c_MT_unit (l : Launch) (D : va_G) (cI cB cJ : ClassId) (h_t h_t_tape h_t_tape_units : Nat) (v_t_words v_t_cells v_t_reader v_t_faults v_t_single v_t_tester v_t_plan v_t_march v_t_draft : Value) (n_t_tape_units : Nat) (t_tape_length : Int32) (t_tape_units_a : Nat → Int32) (a1 : Int32) (sz : Nat) (res : Int32 × Int32 × (Nat → Int32)) (hf : f_MT_unit n_t_tape_units t_tape_length t_tape_units_a a1 = some res) : Met l y_MT_unit (.code y_MT_unit b_MT_unit 2 (some .boolean) :: TB) rm_MT_unit (PcW D [(cI, .int), (cB, .byte), (cJ, .long)] [.ref h_t, .int a1] [(h_t, .inr (0, [v_t_words, v_t_cells, .ref h_t_tape, v_t_reader, v_t_faults, v_t_single, v_t_tester, v_t_plan, v_t_march, v_t_draft])), (h_t_tape, .inr (7, [.ref h_t_tape_units, .int t_tape_length])), (h_t_tape_units, .inl (cB, n_t_tape_units, .inl t_tape_units_a))] sz) (QW D (post_MT_unit h_t h_t_tape h_t_tape_units v_t_words v_t_cells v_t_reader v_t_faults v_t_single v_t_tester v_t_plan v_t_march v_t_draft n_t_tape_units cI cB cJ res) (va_A [(h_t, .inr (0, [v_t_words, v_t_cells, .ref h_t_tape, v_t_reader, v_t_faults, v_t_single, v_t_tester, v_t_plan, v_t_march, v_t_draft])), (h_t_tape, .inr (7, [.ref h_t_tape_units, .int t_tape_length])), (h_t_tape_units, .inl (cB, n_t_tape_units, .inl t_tape_units_a))] sz)) 0 0 (va_A [(h_t, .inr (0, [v_t_words, v_t_cells, .ref h_t_tape, v_t_reader, v_t_faults, v_t_single, v_t_tester, v_t_plan, v_t_march, v_t_draft])), (h_t_tape, .inr (7, [.ref h_t_tape_units, .int t_tape_length])), (h_t_tape_units, .inl (cB, n_t_tape_units, .inl t_tape_units_a))] sz) := by
  refine entW ⟨by decide +kernel, rfl⟩ fun p e s m below meth c C0 hP hD hsz ls hl => ?_
  subst hsz
  generalize hAe : va_A [(h_t, .inr (0, [v_t_words, v_t_cells, .ref h_t_tape, v_t_reader, v_t_faults, v_t_single, v_t_tester, v_t_plan, v_t_march, v_t_draft])), (h_t_tape, .inr (7, [.ref h_t_tape_units, .int t_tape_length])), (h_t_tape_units, .inl (cB, n_t_tape_units, .inl t_tape_units_a))] s.heap.size = A at hD ⊢
  have hA : ∀ q : Nat, s.heap.size ≤ q → A q := fun q h => by rw [← hAe]; exact Or.inr h
  clear hAe
  have hS : va_S A s.heap s.heap [] := va_S.rf
  have hl : lv_has ls 2 [(0, .ref h_t), (1, .int a1)] := hl
  obtain ⟨hx, hb, hml, hr, hlocks, hts, hown, hK, hin⟩ := id C0
  have hf : (((
  (Option.bind (f_Tape_add n_t_tape_units t_tape_length t_tape_units_a a1) fun q5_1 =>
  (if isB q5_1.1 = true then
  some (q5_1.1, q5_1.2.1, q5_1.2.2)
  else none)))) : Option (Int32 × Int32 × (Nat → Int32))) = some res := hf
  obtain ⟨H, hH⟩ : ∃ H, H = s.heap := ⟨_, rfl⟩
  obtain ⟨locs, hlo⟩ : ∃ x : List Loc, x = [] := ⟨_, rfl⟩
  rw [← hlo] at hS ⊢
  have hP : va_P D classes [(h_t, .inr (0, [v_t_words, v_t_cells, .ref h_t_tape, v_t_reader, v_t_faults, v_t_single, v_t_tester, v_t_plan, v_t_march, v_t_draft])), (h_t_tape, .inr (7, [.ref h_t_tape_units, .int t_tape_length])), (h_t_tape_units, .inl (cB, n_t_tape_units, .inl t_tape_units_a))] H := by rw [hH]; exact hP
  have hS : va_S A s.heap H locs := by rw [hH]; exact hS
  show W p l e rm_MT_unit s m _ below meth c s.heap locs 0 0 (MQ below (QW D (post_MT_unit h_t h_t_tape h_t_tape_units v_t_words v_t_cells v_t_reader v_t_faults v_t_single v_t_tester v_t_plan v_t_march v_t_draft n_t_tape_units cI cB cJ res) A) _ s 0 0 A) (F0 m 0 ls [])
  refine wheap hH ?_
  clear hH hlo
  refine lv_aload_n hx hb d_MT_unit_0 rfl (lv_at hl 0 rfl) ?_
  refine va_get (D := D) (ci := 0) (v := .ref h_t_tape) (C := R_MT) (T := F_MT) (N := 10) hx hb hts i_MT hown hK.1 hP 0 rfl rfl 2 (by decide) (hts _ w_79) (fun _ h9 => h9) rfl d_MT_unit_1 ?_
  refine lv_iload_n hx hb d_MT_unit_4 rfl (lv_at hl 1 rfl) ?_
  obtain ⟨q5_1, hc, hf⟩ := bindS hf
  refine mcV (n := 1) (As := [.int a1]) (rest := []) (wr := [(h_t, .inr (0, [v_t_words, v_t_cells, .ref h_t_tape, v_t_reader, v_t_faults, v_t_single, v_t_tester, v_t_plan, v_t_march, v_t_draft]))]) hx hb hml hown hts hK (c_Tape_add (l := l) (D := D) (cI := cI) (cB := cB) (cJ := cJ) (h_t := h_t_tape) (h_t_units := h_t_tape_units) (n_t_units := n_t_tape_units) (t_length := t_tape_length) (t_units_a := t_tape_units_a) (a1 := a1) (sz := H.size) (res := q5_1) (hf := hc)) w_114 w_115 w_116 w_75 w_117 (by decide +kernel) rfl rfl ⟨Nat.le_of_ble_eq_true rfl, Nat.le_of_ble_eq_true rfl⟩ hP hD hS hA [1, 2] [0] rfl rfl (by decide) (by decide) (by decide) (ci := 7) 0 rfl rfl hl.1 rfl rfl (lv_room (Nat.le_of_ble_eq_true rfl)) d_MT_unit_5 ⟨Nat.le_of_ble_eq_true rfl, Nat.le_of_ble_eq_true rfl⟩ (fun o ws' H locs hp hP hD hS => ?_)
  obtain ⟨rfl, rfl⟩ := hp
  have hP : va_P D classes [(h_t, .inr (0, [v_t_words, v_t_cells, .ref h_t_tape, v_t_reader, v_t_faults, v_t_single, v_t_tester, v_t_plan, v_t_march, v_t_draft])), (h_t_tape, .inr (7, [.ref h_t_tape_units, .int q5_1.2.1])), (h_t_tape_units, .inl (cB, n_t_tape_units, .inl q5_1.2.2))] H := hP.sub [0, 1, 2] rfl
  have hD : va_D A [(h_t, .inr (0, [v_t_words, v_t_cells, .ref h_t_tape, v_t_reader, v_t_faults, v_t_single, v_t_tester, v_t_plan, v_t_march, v_t_draft])), (h_t_tape, .inr (7, [.ref h_t_tape_units, .int q5_1.2.1])), (h_t_tape_units, .inl (cB, n_t_tape_units, .inl q5_1.2.2))] := hD.sub [0, 1, 2] (by decide) rfl
  obtain ⟨hbb, hf⟩ := ifG hf
  obtain rfl := Option.some.inj hf
  exact ret_z hx hb hr (nar_b hbb) hlocks hP hD hS ⟨rfl, rfl⟩ d_MT_unit_8
def f_March_clear (n_t_firstRows : Nat) (t_firstRows_a : Nat → Int32) : Option (Int32 × Int32 × (Nat → Int32)) :=
  (if inB 0 n_t_firstRows = true then
  some (0, 0, (upd t_firstRows_a (Int32.toNatClampNeg 0) 0))
  else none)
def post_March_clear (h_t h_t_firstRows : Nat) (v_t_rows : Value) (n_t_firstRows : Nat) (cI cB cJ : ClassId) (res : Int32 × Int32 × (Nat → Int32)) : Option Value → va_W → Prop := fun o ws' => o = none ∧ ws' = [(h_t, .inr (4, [v_t_rows, .ref h_t_firstRows, .int res.1, .int res.2.1])), (h_t_firstRows, .inl (cI, n_t_firstRows, .inl res.2.2))]
abbrev rm_March_clear : Room := { frames := 0, cells := 0, slots := 0, locals := 0 }
set_option maxHeartbeats 4000000 in
set_option maxRecDepth 100000 in
theorem c_March_clear (l : Launch) (D : va_G) (cI cB cJ : ClassId) (h_t h_t_firstRows : Nat) (v_t_rows : Value) (n_t_firstRows : Nat) (t_elements : Int32) (t_rowCount : Int32) (t_firstRows_a : Nat → Int32) (sz : Nat) (res : Int32 × Int32 × (Nat → Int32)) (hf : f_March_clear n_t_firstRows t_firstRows_a = some res) : Met l y_March_clear (.code y_March_clear b_March_clear 1 none :: TB) rm_March_clear (PcW D [(cI, .int), (cB, .byte), (cJ, .long)] [.ref h_t] [(h_t, .inr (4, [v_t_rows, .ref h_t_firstRows, .int t_elements, .int t_rowCount])), (h_t_firstRows, .inl (cI, n_t_firstRows, .inl t_firstRows_a))] sz) (QW D (post_March_clear h_t h_t_firstRows v_t_rows n_t_firstRows cI cB cJ res) (va_A [(h_t, .inr (4, [v_t_rows, .ref h_t_firstRows, .int t_elements, .int t_rowCount])), (h_t_firstRows, .inl (cI, n_t_firstRows, .inl t_firstRows_a))] sz)) 0 0 (va_A [(h_t, .inr (4, [v_t_rows, .ref h_t_firstRows, .int t_elements, .int t_rowCount])), (h_t_firstRows, .inl (cI, n_t_firstRows, .inl t_firstRows_a))] sz) := by
  refine entW ⟨by decide +kernel, rfl⟩ fun p e s m below meth c C0 hP hD hsz ls hl => ?_
  subst hsz
  generalize hAe : va_A [(h_t, .inr (4, [v_t_rows, .ref h_t_firstRows, .int t_elements, .int t_rowCount])), (h_t_firstRows, .inl (cI, n_t_firstRows, .inl t_firstRows_a))] s.heap.size = A at hD ⊢
  have hA : ∀ q : Nat, s.heap.size ≤ q → A q := fun q h => by rw [← hAe]; exact Or.inr h
  clear hAe
  have hS : va_S A s.heap s.heap [] := va_S.rf
  have hl : lv_has ls 1 [(0, .ref h_t)] := hl
  obtain ⟨hx, hb, hml, hr, hlocks, hts, hown, hK, hin⟩ := id C0
  have hf : (((
  (if inB 0 n_t_firstRows = true then
  some (0, 0, (upd t_firstRows_a (Int32.toNatClampNeg 0) 0))
  else none))) : Option (Int32 × Int32 × (Nat → Int32))) = some res := hf
  obtain ⟨H, hH⟩ : ∃ H, H = s.heap := ⟨_, rfl⟩
  obtain ⟨locs, hlo⟩ : ∃ x : List Loc, x = [] := ⟨_, rfl⟩
  rw [← hlo] at hS ⊢
  have hP : va_P D classes [(h_t, .inr (4, [v_t_rows, .ref h_t_firstRows, .int t_elements, .int t_rowCount])), (h_t_firstRows, .inl (cI, n_t_firstRows, .inl t_firstRows_a))] H := by rw [hH]; exact hP
  have hS : va_S A s.heap H locs := by rw [hH]; exact hS
  show W p l e rm_March_clear s m _ below meth c s.heap locs 0 0 (MQ below (QW D (post_March_clear h_t h_t_firstRows v_t_rows n_t_firstRows cI cB cJ res) A) _ s 0 0 A) (F0 m 0 ls [])
  refine wheap hH ?_
  clear hH hlo
  refine lv_aload_n hx hb d_March_clear_0 rfl (lv_at hl 0 rfl) ?_
  refine lv_iconst (v := 0) hx hb d_March_clear_1 (by decide) ?_
  refine va_put (D := D) (ci := 4) (v := .int 0) (ty := .int) (C := R_March) (T := F_March) (N := 4) hx hb hts i_March t_March t_March_ok n_March hown hK.1 hP hD hS 0 rfl rfl 2 (by decide) (hts _ w_118) (fun _ h9 => h9) rfl (t_March_ok 2 (by decide)) rfl rfl (Nat.le_of_ble_eq_true rfl) d_March_clear_2 (fun H locs hP hD hS => ?_)
  have hP : va_P D classes [(h_t, .inr (4, [v_t_rows, .ref h_t_firstRows, .int 0, .int t_rowCount])), (h_t_firstRows, .inl (cI, n_t_firstRows, .inl t_firstRows_a))] H := hP
  have hD : va_D A [(h_t, .inr (4, [v_t_rows, .ref h_t_firstRows, .int 0, .int t_rowCount])), (h_t_firstRows, .inl (cI, n_t_firstRows, .inl t_firstRows_a))] := hD
  refine lv_aload_n hx hb d_March_clear_5 rfl (lv_at hl 0 rfl) ?_
  refine lv_iconst (v := 0) hx hb d_March_clear_6 (by decide) ?_
  refine va_put (D := D) (ci := 4) (v := .int 0) (ty := .int) (C := R_March) (T := F_March) (N := 4) hx hb hts i_March t_March t_March_ok n_March hown hK.1 hP hD hS 0 rfl rfl 3 (by decide) (hts _ w_119) (fun _ h9 => h9) rfl (t_March_ok 3 (by decide)) rfl rfl (Nat.le_of_ble_eq_true rfl) d_March_clear_7 (fun H locs hP hD hS => ?_)
  have hP : va_P D classes [(h_t, .inr (4, [v_t_rows, .ref h_t_firstRows, .int 0, .int 0])), (h_t_firstRows, .inl (cI, n_t_firstRows, .inl t_firstRows_a))] H := hP
  have hD : va_D A [(h_t, .inr (4, [v_t_rows, .ref h_t_firstRows, .int 0, .int 0])), (h_t_firstRows, .inl (cI, n_t_firstRows, .inl t_firstRows_a))] := hD
  refine lv_aload_n hx hb d_March_clear_10 rfl (lv_at hl 0 rfl) ?_
  refine va_get (D := D) (ci := 4) (v := .ref h_t_firstRows) (C := R_March) (T := F_March) (N := 4) hx hb hts i_March hown hK.1 hP 0 rfl rfl 1 (by decide) (hts _ w_65) (fun _ h9 => h9) rfl d_March_clear_11 ?_
  refine lv_iconst (v := 0) hx hb d_March_clear_14 (by decide) ?_
  refine lv_iconst (v := 0) hx hb d_March_clear_15 (by decide) ?_
  obtain ⟨hin1, hf⟩ := ifG hf
  refine va_iast hx hb hK.1 hP hD hS 1 0 rfl rfl (inB_in hin1) d_March_clear_16 (fun H locs hP hD hS => ?_)
  have hP : va_P D classes [(h_t, .inr (4, [v_t_rows, .ref h_t_firstRows, .int 0, .int 0])), (h_t_firstRows, .inl (cI, n_t_firstRows, .inl (upd t_firstRows_a (Int32.toNatClampNeg 0) 0)))] H := hP
  have hD : va_D A [(h_t, .inr (4, [v_t_rows, .ref h_t_firstRows, .int 0, .int 0])), (h_t_firstRows, .inl (cI, n_t_firstRows, .inl (upd t_firstRows_a (Int32.toNatClampNeg 0) 0)))] := hD
  obtain rfl := Option.some.inj hf
  exact ret_v hx hb hr hlocks hP hD hS ⟨rfl, rfl⟩ d_March_clear_17
def f_TextReader_isBlank (a1 : Int32) : Option (Int32) :=
  (if a1 = 9 then
    some 1
  else
    (if a1 = 10 then
      some 1
    else
      (if a1 = 13 then
        some 1
      else
        (if a1 = 32 then
          some 1
        else
          some 0))))
def post_TextReader_isBlank (cI cB cJ : ClassId) (res : Int32) : Option Value → va_W → Prop := fun o ws' => o = some (.int res) ∧ ws' = []
abbrev rm_TextReader_isBlank : Room := { frames := 0, cells := 0, slots := 0, locals := 0 }
set_option maxHeartbeats 4000000 in
set_option maxRecDepth 100000 in
theorem c_TextReader_isBlank (l : Launch) (D : va_G) (cI cB cJ : ClassId)   (a1 : Int32) (sz : Nat) (res : Int32) (hf : f_TextReader_isBlank a1 = some res) : Met l y_TextReader_isBlank (.code y_TextReader_isBlank b_TextReader_isBlank 1 (some .boolean) :: TB) rm_TextReader_isBlank (PcW D [(cI, .int), (cB, .byte), (cJ, .long)] [.int a1] [] sz) (QW D (post_TextReader_isBlank cI cB cJ res) (va_A [] sz)) 0 0 (va_A [] sz) := by
  refine entW ⟨by decide +kernel, rfl⟩ fun p e s m below meth c C0 hP hD hsz ls hl => ?_
  subst hsz
  generalize hAe : va_A [] s.heap.size = A at hD ⊢
  have hA : ∀ q : Nat, s.heap.size ≤ q → A q := fun q h => by rw [← hAe]; exact Or.inr h
  clear hAe
  have hS : va_S A s.heap s.heap [] := va_S.rf
  have hl : lv_has ls 1 [(0, .int a1)] := hl
  obtain ⟨hx, hb, hml, hr, hlocks, hts, hown, hK, hin⟩ := id C0
  have hf : (((
  (if a1 = 9 then
    some 1
  else
    (if a1 = 10 then
      some 1
    else
      (if a1 = 13 then
        some 1
      else
        (if a1 = 32 then
          some 1
        else
          some 0)))))) : Option (Int32)) = some res := hf
  obtain ⟨H, hH⟩ : ∃ H, H = s.heap := ⟨_, rfl⟩
  obtain ⟨locs, hlo⟩ : ∃ x : List Loc, x = [] := ⟨_, rfl⟩
  rw [← hlo] at hS ⊢
  have hP : va_P D classes [] H := by rw [hH]; exact hP
  have hS : va_S A s.heap H locs := by rw [hH]; exact hS
  show W p l e rm_TextReader_isBlank s m _ below meth c s.heap locs 0 0 (MQ below (QW D (post_TextReader_isBlank cI cB cJ res) A) _ s 0 0 A) (F0 m 0 ls [])
  refine wheap hH ?_
  clear hH hlo
  refine lv_iload_n hx hb d_TextReader_isBlank_0 rfl (lv_at hl 0 rfl) ?_
  refine lv_bipush (v := 9) hx hb d_TextReader_isBlank_1 (by decide) ?_
  refine lv_icmp_eq (tgt := 24) hx hb d_TextReader_isBlank_3 (by decide) (fun cc3 => ?_) (fun cc3 => ?_)
  · have hf := ifT cc3 hf
    refine lv_iconst (v := 1) hx hb d_TextReader_isBlank_24 (by decide) ?_
    refine lv_goto (tgt := 29) hx hb d_TextReader_isBlank_25 (by decide) ?_
    obtain rfl := Option.some.inj hf
    exact ret_z hx hb hr rfl hlocks hP hD hS ⟨rfl, rfl⟩ d_TextReader_isBlank_29
  · have hf := ifF cc3 hf
    refine lv_iload_n hx hb d_TextReader_isBlank_6 rfl (lv_at hl 0 rfl) ?_
    refine lv_bipush (v := 10) hx hb d_TextReader_isBlank_7 (by decide) ?_
    refine lv_icmp_eq (tgt := 24) hx hb d_TextReader_isBlank_9 (by decide) (fun cc9 => ?_) (fun cc9 => ?_)
    · have hf := ifT cc9 hf
      refine lv_iconst (v := 1) hx hb d_TextReader_isBlank_24 (by decide) ?_
      refine lv_goto (tgt := 29) hx hb d_TextReader_isBlank_25 (by decide) ?_
      obtain rfl := Option.some.inj hf
      exact ret_z hx hb hr rfl hlocks hP hD hS ⟨rfl, rfl⟩ d_TextReader_isBlank_29
    · have hf := ifF cc9 hf
      refine lv_iload_n hx hb d_TextReader_isBlank_12 rfl (lv_at hl 0 rfl) ?_
      refine lv_bipush (v := 13) hx hb d_TextReader_isBlank_13 (by decide) ?_
      refine lv_icmp_eq (tgt := 24) hx hb d_TextReader_isBlank_15 (by decide) (fun cc15 => ?_) (fun cc15 => ?_)
      · have hf := ifT cc15 hf
        refine lv_iconst (v := 1) hx hb d_TextReader_isBlank_24 (by decide) ?_
        refine lv_goto (tgt := 29) hx hb d_TextReader_isBlank_25 (by decide) ?_
        obtain rfl := Option.some.inj hf
        exact ret_z hx hb hr rfl hlocks hP hD hS ⟨rfl, rfl⟩ d_TextReader_isBlank_29
      · have hf := ifF cc15 hf
        refine lv_iload_n hx hb d_TextReader_isBlank_18 rfl (lv_at hl 0 rfl) ?_
        refine lv_bipush (v := 32) hx hb d_TextReader_isBlank_19 (by decide) ?_
        refine lv_icmp_ne (tgt := 28) hx hb d_TextReader_isBlank_21 (by decide) (fun cc21 => ?_) (fun cc21 => ?_)
        · have hf := ifF cc21 hf
          refine lv_iconst (v := 0) hx hb d_TextReader_isBlank_28 (by decide) ?_
          obtain rfl := Option.some.inj hf
          exact ret_z hx hb hr rfl hlocks hP hD hS ⟨rfl, rfl⟩ d_TextReader_isBlank_29
        · have hf := ifT cc21 hf
          refine lv_iconst (v := 1) hx hb d_TextReader_isBlank_24 (by decide) ?_
          refine lv_goto (tgt := 29) hx hb d_TextReader_isBlank_25 (by decide) ?_
          obtain rfl := Option.some.inj hf
          exact ret_z hx hb hr rfl hlocks hP hD hS ⟨rfl, rfl⟩ d_TextReader_isBlank_29
def f_March_hasRoomForElement (t_elements : Int32) : Option (Int32) :=
  (if 16 ≤ t_elements then
    some 0
  else
    some 1)
def post_March_hasRoomForElement (h_t : Nat) (v_t_rows v_t_firstRows v_t_rowCount : Value) (t_elements : Int32) (cI cB cJ : ClassId) (res : Int32) : Option Value → va_W → Prop := fun o ws' => o = some (.int res) ∧ ws' = [(h_t, .inr (4, [v_t_rows, v_t_firstRows, .int t_elements, v_t_rowCount]))]
abbrev rm_March_hasRoomForElement : Room := { frames := 0, cells := 0, slots := 0, locals := 0 }
set_option maxHeartbeats 4000000 in
set_option maxRecDepth 100000 in
theorem c_March_hasRoomForElement (l : Launch) (D : va_G) (cI cB cJ : ClassId) (h_t : Nat) (v_t_rows v_t_firstRows v_t_rowCount : Value) (t_elements : Int32) (sz : Nat) (res : Int32) (hf : f_March_hasRoomForElement t_elements = some res) : Met l y_March_hasRoomForElement (.code y_March_hasRoomForElement b_March_hasRoomForElement 1 (some .boolean) :: TB) rm_March_hasRoomForElement (PcW D [(cI, .int), (cB, .byte), (cJ, .long)] [.ref h_t] [(h_t, .inr (4, [v_t_rows, v_t_firstRows, .int t_elements, v_t_rowCount]))] sz) (QW D (post_March_hasRoomForElement h_t v_t_rows v_t_firstRows v_t_rowCount t_elements cI cB cJ res) (va_A [(h_t, .inr (4, [v_t_rows, v_t_firstRows, .int t_elements, v_t_rowCount]))] sz)) 0 0 (va_A [(h_t, .inr (4, [v_t_rows, v_t_firstRows, .int t_elements, v_t_rowCount]))] sz) := by
  refine entW ⟨by decide +kernel, rfl⟩ fun p e s m below meth c C0 hP hD hsz ls hl => ?_
  subst hsz
  generalize hAe : va_A [(h_t, .inr (4, [v_t_rows, v_t_firstRows, .int t_elements, v_t_rowCount]))] s.heap.size = A at hD ⊢
  have hA : ∀ q : Nat, s.heap.size ≤ q → A q := fun q h => by rw [← hAe]; exact Or.inr h
  clear hAe
  have hS : va_S A s.heap s.heap [] := va_S.rf
  have hl : lv_has ls 1 [(0, .ref h_t)] := hl
  obtain ⟨hx, hb, hml, hr, hlocks, hts, hown, hK, hin⟩ := id C0
  have hf : (((
  (if 16 ≤ t_elements then
    some 0
  else
    some 1))) : Option (Int32)) = some res := hf
  obtain ⟨H, hH⟩ : ∃ H, H = s.heap := ⟨_, rfl⟩
  obtain ⟨locs, hlo⟩ : ∃ x : List Loc, x = [] := ⟨_, rfl⟩
  rw [← hlo] at hS ⊢
  have hP : va_P D classes [(h_t, .inr (4, [v_t_rows, v_t_firstRows, .int t_elements, v_t_rowCount]))] H := by rw [hH]; exact hP
  have hS : va_S A s.heap H locs := by rw [hH]; exact hS
  show W p l e rm_March_hasRoomForElement s m _ below meth c s.heap locs 0 0 (MQ below (QW D (post_March_hasRoomForElement h_t v_t_rows v_t_firstRows v_t_rowCount t_elements cI cB cJ res) A) _ s 0 0 A) (F0 m 0 ls [])
  refine wheap hH ?_
  clear hH hlo
  refine lv_aload_n hx hb d_March_hasRoomForElement_0 rfl (lv_at hl 0 rfl) ?_
  refine va_get (D := D) (ci := 4) (v := .int t_elements) (C := R_March) (T := F_March) (N := 4) hx hb hts i_March hown hK.1 hP 0 rfl rfl 2 (by decide) (hts _ w_118) (fun _ h9 => h9) rfl d_March_hasRoomForElement_1 ?_
  refine lv_bipush (v := 16) hx hb d_March_hasRoomForElement_4 (by decide) ?_
  refine lv_icmp_ge (tgt := 13) hx hb d_March_hasRoomForElement_6 (by decide) (fun cc6 => ?_) (fun cc6 => ?_)
  · have hf := ifT cc6 hf
    refine lv_iconst (v := 0) hx hb d_March_hasRoomForElement_13 (by decide) ?_
    obtain rfl := Option.some.inj hf
    exact ret_z hx hb hr rfl hlocks hP hD hS ⟨rfl, rfl⟩ d_March_hasRoomForElement_14
  · have hf := ifF cc6 hf
    refine lv_iconst (v := 1) hx hb d_March_hasRoomForElement_9 (by decide) ?_
    refine lv_goto (tgt := 14) hx hb d_March_hasRoomForElement_10 (by decide) ?_
    obtain rfl := Option.some.inj hf
    exact ret_z hx hb hr rfl hlocks hP hD hS ⟨rfl, rfl⟩ d_March_hasRoomForElement_14
def f_March_beginElement (n_t_firstRows : Nat) (t_elements : Int32) (t_rowCount : Int32) (t_firstRows_a : Nat → Int32) : Option (Int32 × (Nat → Int32)) :=
  (Option.bind (f_March_hasRoomForElement t_elements) fun q1_1 =>
  (if q1_1 = 0 then
    some (t_elements, t_firstRows_a)
  else
    (if inB (t_elements + 1) n_t_firstRows = true then
    some ((t_elements + 1), (upd t_firstRows_a (Int32.toNatClampNeg (t_elements + 1)) t_rowCount))
    else none)))
def post_March_beginElement (h_t h_t_firstRows : Nat) (v_t_rows : Value) (n_t_firstRows : Nat) (t_rowCount : Int32) (cI cB cJ : ClassId) (res : Int32 × (Nat → Int32)) : Option Value → va_W → Prop := fun o ws' => o = none ∧ ws' = [(h_t, .inr (4, [v_t_rows, .ref h_t_firstRows, .int res.1, .int t_rowCount])), (h_t_firstRows, .inl (cI, n_t_firstRows, .inl res.2))]
abbrev rm_March_beginElement : Room := { frames := 1, cells := 0, slots := 0, locals := 20 }
set_option maxHeartbeats 4000000 in
set_option maxRecDepth 100000 in
theorem c_March_beginElement (l : Launch) (D : va_G) (cI cB cJ : ClassId) (h_t h_t_firstRows : Nat) (v_t_rows : Value) (n_t_firstRows : Nat) (t_elements : Int32) (t_rowCount : Int32) (t_firstRows_a : Nat → Int32) (sz : Nat) (res : Int32 × (Nat → Int32)) (hf : f_March_beginElement n_t_firstRows t_elements t_rowCount t_firstRows_a = some res) : Met l y_March_beginElement (.code y_March_beginElement b_March_beginElement 1 none :: TB) rm_March_beginElement (PcW D [(cI, .int), (cB, .byte), (cJ, .long)] [.ref h_t] [(h_t, .inr (4, [v_t_rows, .ref h_t_firstRows, .int t_elements, .int t_rowCount])), (h_t_firstRows, .inl (cI, n_t_firstRows, .inl t_firstRows_a))] sz) (QW D (post_March_beginElement h_t h_t_firstRows v_t_rows n_t_firstRows t_rowCount cI cB cJ res) (va_A [(h_t, .inr (4, [v_t_rows, .ref h_t_firstRows, .int t_elements, .int t_rowCount])), (h_t_firstRows, .inl (cI, n_t_firstRows, .inl t_firstRows_a))] sz)) 0 0 (va_A [(h_t, .inr (4, [v_t_rows, .ref h_t_firstRows, .int t_elements, .int t_rowCount])), (h_t_firstRows, .inl (cI, n_t_firstRows, .inl t_firstRows_a))] sz) := by
  refine entW ⟨by decide +kernel, rfl⟩ fun p e s m below meth c C0 hP hD hsz ls hl => ?_
  subst hsz
  generalize hAe : va_A [(h_t, .inr (4, [v_t_rows, .ref h_t_firstRows, .int t_elements, .int t_rowCount])), (h_t_firstRows, .inl (cI, n_t_firstRows, .inl t_firstRows_a))] s.heap.size = A at hD ⊢
  have hA : ∀ q : Nat, s.heap.size ≤ q → A q := fun q h => by rw [← hAe]; exact Or.inr h
  clear hAe
  have hS : va_S A s.heap s.heap [] := va_S.rf
  have hl : lv_has ls 1 [(0, .ref h_t)] := hl
  obtain ⟨hx, hb, hml, hr, hlocks, hts, hown, hK, hin⟩ := id C0
  have hf : (((
  (Option.bind (f_March_hasRoomForElement t_elements) fun q1_1 =>
  (if q1_1 = 0 then
    some (t_elements, t_firstRows_a)
  else
    (if inB (t_elements + 1) n_t_firstRows = true then
    some ((t_elements + 1), (upd t_firstRows_a (Int32.toNatClampNeg (t_elements + 1)) t_rowCount))
    else none))))) : Option (Int32 × (Nat → Int32))) = some res := hf
  obtain ⟨H, hH⟩ : ∃ H, H = s.heap := ⟨_, rfl⟩
  obtain ⟨locs, hlo⟩ : ∃ x : List Loc, x = [] := ⟨_, rfl⟩
  rw [← hlo] at hS ⊢
  have hP : va_P D classes [(h_t, .inr (4, [v_t_rows, .ref h_t_firstRows, .int t_elements, .int t_rowCount])), (h_t_firstRows, .inl (cI, n_t_firstRows, .inl t_firstRows_a))] H := by rw [hH]; exact hP
  have hS : va_S A s.heap H locs := by rw [hH]; exact hS
  show W p l e rm_March_beginElement s m _ below meth c s.heap locs 0 0 (MQ below (QW D (post_March_beginElement h_t h_t_firstRows v_t_rows n_t_firstRows t_rowCount cI cB cJ res) A) _ s 0 0 A) (F0 m 0 ls [])
  refine wheap hH ?_
  clear hH hlo
  refine lv_aload_n hx hb d_March_beginElement_0 rfl (lv_at hl 0 rfl) ?_
  obtain ⟨q1_1, hc, hf⟩ := bindS hf
  refine mcV (n := 0) (As := []) (rest := []) (wr := [(h_t_firstRows, .inl (cI, n_t_firstRows, .inl t_firstRows_a))]) hx hb hml hown hts hK (c_March_hasRoomForElement (l := l) (D := D) (cI := cI) (cB := cB) (cJ := cJ) (h_t := h_t) (v_t_rows := v_t_rows) (v_t_firstRows := (.ref h_t_firstRows)) (v_t_rowCount := (.int t_rowCount)) (t_elements := t_elements) (sz := H.size) (res := q1_1) (hf := hc)) w_120 w_121 w_122 w_107 w_123 (by decide +kernel) rfl rfl ⟨Nat.le_of_ble_eq_true rfl, Nat.le_of_ble_eq_true rfl⟩ hP hD hS hA [0] [1] rfl rfl (by decide) (by decide) (by decide) (ci := 4) 0 rfl rfl hl.1 rfl rfl (lv_room (Nat.le_of_ble_eq_true rfl)) d_March_beginElement_1 ⟨Nat.le_of_ble_eq_true rfl, Nat.le_of_ble_eq_true rfl⟩ (fun o ws' H locs hp hP hD hS => ?_)
  obtain ⟨rfl, rfl⟩ := hp
  have hP : va_P D classes [(h_t, .inr (4, [v_t_rows, .ref h_t_firstRows, .int t_elements, .int t_rowCount])), (h_t_firstRows, .inl (cI, n_t_firstRows, .inl t_firstRows_a))] H := hP.sub [1, 0] rfl
  have hD : va_D A [(h_t, .inr (4, [v_t_rows, .ref h_t_firstRows, .int t_elements, .int t_rowCount])), (h_t_firstRows, .inl (cI, n_t_firstRows, .inl t_firstRows_a))] := hD.sub [1, 0] (by decide) rfl
  refine lv_if_eq (tgt := 30) hx hb d_March_beginElement_4 (by decide) (fun cc4 => ?_) (fun cc4 => ?_)
  · have hf := ifT cc4 hf
    obtain rfl := Option.some.inj hf
    exact ret_v hx hb hr hlocks hP hD hS ⟨rfl, rfl⟩ d_March_beginElement_30
  · have hf := ifF cc4 hf
    refine lv_aload_n hx hb d_March_beginElement_7 rfl (lv_at hl 0 rfl) ?_
    refine lv_dup hx hb d_March_beginElement_8 rfl ?_
    refine va_get (D := D) (ci := 4) (v := .int t_elements) (C := R_March) (T := F_March) (N := 4) hx hb hts i_March hown hK.1 hP 0 rfl rfl 2 (by decide) (hts _ w_118) (fun _ h9 => h9) rfl d_March_beginElement_9 ?_
    refine lv_iconst (v := 1) hx hb d_March_beginElement_12 (by decide) ?_
    refine lv_iadd hx hb d_March_beginElement_13 ?_
    refine va_put (D := D) (ci := 4) (v := .int (t_elements + 1)) (ty := .int) (C := R_March) (T := F_March) (N := 4) hx hb hts i_March t_March t_March_ok n_March hown hK.1 hP hD hS 0 rfl rfl 2 (by decide) (hts _ w_118) (fun _ h9 => h9) rfl (t_March_ok 2 (by decide)) rfl rfl (Nat.le_of_ble_eq_true rfl) d_March_beginElement_14 (fun H locs hP hD hS => ?_)
    have hP : va_P D classes [(h_t, .inr (4, [v_t_rows, .ref h_t_firstRows, .int (t_elements + 1), .int t_rowCount])), (h_t_firstRows, .inl (cI, n_t_firstRows, .inl t_firstRows_a))] H := hP
    have hD : va_D A [(h_t, .inr (4, [v_t_rows, .ref h_t_firstRows, .int (t_elements + 1), .int t_rowCount])), (h_t_firstRows, .inl (cI, n_t_firstRows, .inl t_firstRows_a))] := hD
    refine lv_aload_n hx hb d_March_beginElement_17 rfl (lv_at hl 0 rfl) ?_
    refine va_get (D := D) (ci := 4) (v := .ref h_t_firstRows) (C := R_March) (T := F_March) (N := 4) hx hb hts i_March hown hK.1 hP 0 rfl rfl 1 (by decide) (hts _ w_65) (fun _ h9 => h9) rfl d_March_beginElement_18 ?_
    refine lv_aload_n hx hb d_March_beginElement_21 rfl (lv_at hl 0 rfl) ?_
    refine va_get (D := D) (ci := 4) (v := .int (t_elements + 1)) (C := R_March) (T := F_March) (N := 4) hx hb hts i_March hown hK.1 hP 0 rfl rfl 2 (by decide) (hts _ w_118) (fun _ h9 => h9) rfl d_March_beginElement_22 ?_
    refine lv_aload_n hx hb d_March_beginElement_25 rfl (lv_at hl 0 rfl) ?_
    refine va_get (D := D) (ci := 4) (v := .int t_rowCount) (C := R_March) (T := F_March) (N := 4) hx hb hts i_March hown hK.1 hP 0 rfl rfl 3 (by decide) (hts _ w_119) (fun _ h9 => h9) rfl d_March_beginElement_26 ?_
    obtain ⟨hin1, hf⟩ := ifG hf
    refine va_iast hx hb hK.1 hP hD hS 1 0 rfl rfl (inB_in hin1) d_March_beginElement_29 (fun H locs hP hD hS => ?_)
    have hP : va_P D classes [(h_t, .inr (4, [v_t_rows, .ref h_t_firstRows, .int (t_elements + 1), .int t_rowCount])), (h_t_firstRows, .inl (cI, n_t_firstRows, .inl (upd t_firstRows_a (Int32.toNatClampNeg (t_elements + 1)) t_rowCount)))] H := hP
    have hD : va_D A [(h_t, .inr (4, [v_t_rows, .ref h_t_firstRows, .int (t_elements + 1), .int t_rowCount])), (h_t_firstRows, .inl (cI, n_t_firstRows, .inl (upd t_firstRows_a (Int32.toNatClampNeg (t_elements + 1)) t_rowCount)))] := hD
    obtain rfl := Option.some.inj hf
    exact ret_v hx hb hr hlocks hP hD hS ⟨rfl, rfl⟩ d_March_beginElement_30
def f_March_hasRoomForOperation (n_t_firstRows : Nat) (t_elements : Int32) (t_rowCount : Int32) (t_firstRows_a : Nat → Int32) : Option (Int32) :=
  (if t_elements ≤ 0 then
    some 0
  else
    (if inB (t_elements - 1) n_t_firstRows = true then
    (if 8 ≤ (t_rowCount - (t_firstRows_a (Int32.toNatClampNeg (t_elements - 1)))) then
      some 0
    else
      some 1)
    else none))
def post_March_hasRoomForOperation (h_t h_t_firstRows : Nat) (v_t_rows : Value) (n_t_firstRows : Nat) (t_elements : Int32) (t_rowCount : Int32) (t_firstRows_a : Nat → Int32) (cI cB cJ : ClassId) (res : Int32) : Option Value → va_W → Prop := fun o ws' => o = some (.int res) ∧ ws' = [(h_t, .inr (4, [v_t_rows, .ref h_t_firstRows, .int t_elements, .int t_rowCount])), (h_t_firstRows, .inl (cI, n_t_firstRows, .inl t_firstRows_a))]
abbrev rm_March_hasRoomForOperation : Room := { frames := 0, cells := 0, slots := 0, locals := 0 }
set_option maxHeartbeats 4000000 in
set_option maxRecDepth 100000 in
theorem c_March_hasRoomForOperation (l : Launch) (D : va_G) (cI cB cJ : ClassId) (h_t h_t_firstRows : Nat) (v_t_rows : Value) (n_t_firstRows : Nat) (t_elements : Int32) (t_rowCount : Int32) (t_firstRows_a : Nat → Int32) (sz : Nat) (res : Int32) (hf : f_March_hasRoomForOperation n_t_firstRows t_elements t_rowCount t_firstRows_a = some res) : Met l y_March_hasRoomForOperation (.code y_March_hasRoomForOperation b_March_hasRoomForOperation 1 (some .boolean) :: TB) rm_March_hasRoomForOperation (PcW D [(cI, .int), (cB, .byte), (cJ, .long)] [.ref h_t] [(h_t, .inr (4, [v_t_rows, .ref h_t_firstRows, .int t_elements, .int t_rowCount])), (h_t_firstRows, .inl (cI, n_t_firstRows, .inl t_firstRows_a))] sz) (QW D (post_March_hasRoomForOperation h_t h_t_firstRows v_t_rows n_t_firstRows t_elements t_rowCount t_firstRows_a cI cB cJ res) (va_A [(h_t, .inr (4, [v_t_rows, .ref h_t_firstRows, .int t_elements, .int t_rowCount])), (h_t_firstRows, .inl (cI, n_t_firstRows, .inl t_firstRows_a))] sz)) 0 0 (va_A [(h_t, .inr (4, [v_t_rows, .ref h_t_firstRows, .int t_elements, .int t_rowCount])), (h_t_firstRows, .inl (cI, n_t_firstRows, .inl t_firstRows_a))] sz) := by
  refine entW ⟨by decide +kernel, rfl⟩ fun p e s m below meth c C0 hP hD hsz ls hl => ?_
  subst hsz
  generalize hAe : va_A [(h_t, .inr (4, [v_t_rows, .ref h_t_firstRows, .int t_elements, .int t_rowCount])), (h_t_firstRows, .inl (cI, n_t_firstRows, .inl t_firstRows_a))] s.heap.size = A at hD ⊢
  have hA : ∀ q : Nat, s.heap.size ≤ q → A q := fun q h => by rw [← hAe]; exact Or.inr h
  clear hAe
  have hS : va_S A s.heap s.heap [] := va_S.rf
  have hl : lv_has ls 1 [(0, .ref h_t)] := hl
  obtain ⟨hx, hb, hml, hr, hlocks, hts, hown, hK, hin⟩ := id C0
  have hf : (((
  (if t_elements ≤ 0 then
    some 0
  else
    (if inB (t_elements - 1) n_t_firstRows = true then
    (if 8 ≤ (t_rowCount - (t_firstRows_a (Int32.toNatClampNeg (t_elements - 1)))) then
      some 0
    else
      some 1)
    else none)))) : Option (Int32)) = some res := hf
  obtain ⟨H, hH⟩ : ∃ H, H = s.heap := ⟨_, rfl⟩
  obtain ⟨locs, hlo⟩ : ∃ x : List Loc, x = [] := ⟨_, rfl⟩
  rw [← hlo] at hS ⊢
  have hP : va_P D classes [(h_t, .inr (4, [v_t_rows, .ref h_t_firstRows, .int t_elements, .int t_rowCount])), (h_t_firstRows, .inl (cI, n_t_firstRows, .inl t_firstRows_a))] H := by rw [hH]; exact hP
  have hS : va_S A s.heap H locs := by rw [hH]; exact hS
  show W p l e rm_March_hasRoomForOperation s m _ below meth c s.heap locs 0 0 (MQ below (QW D (post_March_hasRoomForOperation h_t h_t_firstRows v_t_rows n_t_firstRows t_elements t_rowCount t_firstRows_a cI cB cJ res) A) _ s 0 0 A) (F0 m 0 ls [])
  refine wheap hH ?_
  clear hH hlo
  refine lv_aload_n hx hb d_March_hasRoomForOperation_0 rfl (lv_at hl 0 rfl) ?_
  refine va_get (D := D) (ci := 4) (v := .int t_elements) (C := R_March) (T := F_March) (N := 4) hx hb hts i_March hown hK.1 hP 0 rfl rfl 2 (by decide) (hts _ w_118) (fun _ h9 => h9) rfl d_March_hasRoomForOperation_1 ?_
  refine lv_if_le (tgt := 32) hx hb d_March_hasRoomForOperation_4 (by decide) (fun cc4 => ?_) (fun cc4 => ?_)
  · have hf := ifT cc4 hf
    refine lv_iconst (v := 0) hx hb d_March_hasRoomForOperation_32 (by decide) ?_
    obtain rfl := Option.some.inj hf
    exact ret_z hx hb hr rfl hlocks hP hD hS ⟨rfl, rfl⟩ d_March_hasRoomForOperation_33
  · have hf := ifF cc4 hf
    refine lv_aload_n hx hb d_March_hasRoomForOperation_7 rfl (lv_at hl 0 rfl) ?_
    refine va_get (D := D) (ci := 4) (v := .int t_rowCount) (C := R_March) (T := F_March) (N := 4) hx hb hts i_March hown hK.1 hP 0 rfl rfl 3 (by decide) (hts _ w_119) (fun _ h9 => h9) rfl d_March_hasRoomForOperation_8 ?_
    refine lv_aload_n hx hb d_March_hasRoomForOperation_11 rfl (lv_at hl 0 rfl) ?_
    refine va_get (D := D) (ci := 4) (v := .ref h_t_firstRows) (C := R_March) (T := F_March) (N := 4) hx hb hts i_March hown hK.1 hP 0 rfl rfl 1 (by decide) (hts _ w_65) (fun _ h9 => h9) rfl d_March_hasRoomForOperation_12 ?_
    refine lv_aload_n hx hb d_March_hasRoomForOperation_15 rfl (lv_at hl 0 rfl) ?_
    refine va_get (D := D) (ci := 4) (v := .int t_elements) (C := R_March) (T := F_March) (N := 4) hx hb hts i_March hown hK.1 hP 0 rfl rfl 2 (by decide) (hts _ w_118) (fun _ h9 => h9) rfl d_March_hasRoomForOperation_16 ?_
    refine lv_iconst (v := 1) hx hb d_March_hasRoomForOperation_19 (by decide) ?_
    refine lv_isub hx hb d_March_hasRoomForOperation_20 ?_
    obtain ⟨hin1, hf⟩ := ifG hf
    refine va_iald hx hb hK.1 hP 1 0 rfl rfl (inB_in hin1) d_March_hasRoomForOperation_21 ?_
    refine lv_isub hx hb d_March_hasRoomForOperation_22 ?_
    refine lv_bipush (v := 8) hx hb d_March_hasRoomForOperation_23 (by decide) ?_
    refine lv_icmp_ge (tgt := 32) hx hb d_March_hasRoomForOperation_25 (by decide) (fun cc25 => ?_) (fun cc25 => ?_)
    · have hf := ifT cc25 hf
      refine lv_iconst (v := 0) hx hb d_March_hasRoomForOperation_32 (by decide) ?_
      obtain rfl := Option.some.inj hf
      exact ret_z hx hb hr rfl hlocks hP hD hS ⟨rfl, rfl⟩ d_March_hasRoomForOperation_33
    · have hf := ifF cc25 hf
      refine lv_iconst (v := 1) hx hb d_March_hasRoomForOperation_28 (by decide) ?_
      refine lv_goto (tgt := 33) hx hb d_March_hasRoomForOperation_29 (by decide) ?_
      obtain rfl := Option.some.inj hf
      exact ret_z hx hb hr rfl hlocks hP hD hS ⟨rfl, rfl⟩ d_March_hasRoomForOperation_33
def f_March_addRow (n_t_firstRows : Nat) (n_t_rows : Nat) (t_elements : Int32) (t_rowCount : Int32) (t_firstRows_a : Nat → Int32) (t_rows_a : Nat → Int32) (a1 : Int32) : Option (Int32 × (Nat → Int32) × (Nat → Int32)) :=
  (Option.bind (f_March_hasRoomForOperation n_t_firstRows t_elements t_rowCount t_firstRows_a) fun q1_1 =>
  (if q1_1 = 0 then
    some (t_rowCount, t_firstRows_a, t_rows_a)
  else
    (if inB t_rowCount n_t_rows = true then
    (if inB t_elements n_t_firstRows = true then
    some ((t_rowCount + 1), (upd t_firstRows_a (Int32.toNatClampNeg t_elements) (t_rowCount + 1)), (upd t_rows_a (Int32.toNatClampNeg t_rowCount) a1))
    else none)
    else none)))
def post_March_addRow (h_t h_t_firstRows h_t_rows : Nat) (n_t_firstRows : Nat) (n_t_rows : Nat) (t_elements : Int32) (cI cB cJ : ClassId) (res : Int32 × (Nat → Int32) × (Nat → Int32)) : Option Value → va_W → Prop := fun o ws' => o = none ∧ ws' = [(h_t, .inr (4, [.ref h_t_rows, .ref h_t_firstRows, .int t_elements, .int res.1])), (h_t_firstRows, .inl (cI, n_t_firstRows, .inl res.2.1)), (h_t_rows, .inl (cI, n_t_rows, .inl res.2.2))]
abbrev rm_March_addRow : Room := { frames := 1, cells := 0, slots := 0, locals := 20 }
set_option maxHeartbeats 4000000 in
set_option maxRecDepth 100000 in
theorem c_March_addRow (l : Launch) (D : va_G) (cI cB cJ : ClassId) (h_t h_t_firstRows h_t_rows : Nat)  (n_t_firstRows : Nat) (n_t_rows : Nat) (t_elements : Int32) (t_rowCount : Int32) (t_firstRows_a : Nat → Int32) (t_rows_a : Nat → Int32) (a1 : Int32) (sz : Nat) (res : Int32 × (Nat → Int32) × (Nat → Int32)) (hf : f_March_addRow n_t_firstRows n_t_rows t_elements t_rowCount t_firstRows_a t_rows_a a1 = some res) : Met l y_March_addRow (.code y_March_addRow b_March_addRow 2 none :: TB) rm_March_addRow (PcW D [(cI, .int), (cB, .byte), (cJ, .long)] [.ref h_t, .int a1] [(h_t, .inr (4, [.ref h_t_rows, .ref h_t_firstRows, .int t_elements, .int t_rowCount])), (h_t_firstRows, .inl (cI, n_t_firstRows, .inl t_firstRows_a)), (h_t_rows, .inl (cI, n_t_rows, .inl t_rows_a))] sz) (QW D (post_March_addRow h_t h_t_firstRows h_t_rows n_t_firstRows n_t_rows t_elements cI cB cJ res) (va_A [(h_t, .inr (4, [.ref h_t_rows, .ref h_t_firstRows, .int t_elements, .int t_rowCount])), (h_t_firstRows, .inl (cI, n_t_firstRows, .inl t_firstRows_a)), (h_t_rows, .inl (cI, n_t_rows, .inl t_rows_a))] sz)) 0 0 (va_A [(h_t, .inr (4, [.ref h_t_rows, .ref h_t_firstRows, .int t_elements, .int t_rowCount])), (h_t_firstRows, .inl (cI, n_t_firstRows, .inl t_firstRows_a)), (h_t_rows, .inl (cI, n_t_rows, .inl t_rows_a))] sz) := by
  refine entW ⟨by decide +kernel, rfl⟩ fun p e s m below meth c C0 hP hD hsz ls hl => ?_
  subst hsz
  generalize hAe : va_A [(h_t, .inr (4, [.ref h_t_rows, .ref h_t_firstRows, .int t_elements, .int t_rowCount])), (h_t_firstRows, .inl (cI, n_t_firstRows, .inl t_firstRows_a)), (h_t_rows, .inl (cI, n_t_rows, .inl t_rows_a))] s.heap.size = A at hD ⊢
  have hA : ∀ q : Nat, s.heap.size ≤ q → A q := fun q h => by rw [← hAe]; exact Or.inr h
  clear hAe
  have hS : va_S A s.heap s.heap [] := va_S.rf
  have hl : lv_has ls 2 [(0, .ref h_t), (1, .int a1)] := hl
  obtain ⟨hx, hb, hml, hr, hlocks, hts, hown, hK, hin⟩ := id C0
  have hf : (((
  (Option.bind (f_March_hasRoomForOperation n_t_firstRows t_elements t_rowCount t_firstRows_a) fun q1_1 =>
  (if q1_1 = 0 then
    some (t_rowCount, t_firstRows_a, t_rows_a)
  else
    (if inB t_rowCount n_t_rows = true then
    (if inB t_elements n_t_firstRows = true then
    some ((t_rowCount + 1), (upd t_firstRows_a (Int32.toNatClampNeg t_elements) (t_rowCount + 1)), (upd t_rows_a (Int32.toNatClampNeg t_rowCount) a1))
    else none)
    else none))))) : Option (Int32 × (Nat → Int32) × (Nat → Int32))) = some res := hf
  obtain ⟨H, hH⟩ : ∃ H, H = s.heap := ⟨_, rfl⟩
  obtain ⟨locs, hlo⟩ : ∃ x : List Loc, x = [] := ⟨_, rfl⟩
  rw [← hlo] at hS ⊢
  have hP : va_P D classes [(h_t, .inr (4, [.ref h_t_rows, .ref h_t_firstRows, .int t_elements, .int t_rowCount])), (h_t_firstRows, .inl (cI, n_t_firstRows, .inl t_firstRows_a)), (h_t_rows, .inl (cI, n_t_rows, .inl t_rows_a))] H := by rw [hH]; exact hP
  have hS : va_S A s.heap H locs := by rw [hH]; exact hS
  show W p l e rm_March_addRow s m _ below meth c s.heap locs 0 0 (MQ below (QW D (post_March_addRow h_t h_t_firstRows h_t_rows n_t_firstRows n_t_rows t_elements cI cB cJ res) A) _ s 0 0 A) (F0 m 0 ls [])
  refine wheap hH ?_
  clear hH hlo
  refine lv_aload_n hx hb d_March_addRow_0 rfl (lv_at hl 0 rfl) ?_
  obtain ⟨q1_1, hc, hf⟩ := bindS hf
  refine mcV (n := 0) (As := []) (rest := []) (wr := [(h_t_rows, .inl (cI, n_t_rows, .inl t_rows_a))]) hx hb hml hown hts hK (c_March_hasRoomForOperation (l := l) (D := D) (cI := cI) (cB := cB) (cJ := cJ) (h_t := h_t) (h_t_firstRows := h_t_firstRows) (v_t_rows := (.ref h_t_rows)) (n_t_firstRows := n_t_firstRows) (t_elements := t_elements) (t_rowCount := t_rowCount) (t_firstRows_a := t_firstRows_a) (sz := H.size) (res := q1_1) (hf := hc)) w_124 w_125 w_126 w_107 w_127 (by decide +kernel) rfl rfl ⟨Nat.le_of_ble_eq_true rfl, Nat.le_of_ble_eq_true rfl⟩ hP hD hS hA [0, 1] [2] rfl rfl (by decide) (by decide) (by decide) (ci := 4) 0 rfl rfl hl.1 rfl rfl (lv_room (Nat.le_of_ble_eq_true rfl)) d_March_addRow_1 ⟨Nat.le_of_ble_eq_true rfl, Nat.le_of_ble_eq_true rfl⟩ (fun o ws' H locs hp hP hD hS => ?_)
  obtain ⟨rfl, rfl⟩ := hp
  have hP : va_P D classes [(h_t, .inr (4, [.ref h_t_rows, .ref h_t_firstRows, .int t_elements, .int t_rowCount])), (h_t_firstRows, .inl (cI, n_t_firstRows, .inl t_firstRows_a)), (h_t_rows, .inl (cI, n_t_rows, .inl t_rows_a))] H := hP.sub [1, 2, 0] rfl
  have hD : va_D A [(h_t, .inr (4, [.ref h_t_rows, .ref h_t_firstRows, .int t_elements, .int t_rowCount])), (h_t_firstRows, .inl (cI, n_t_firstRows, .inl t_firstRows_a)), (h_t_rows, .inl (cI, n_t_rows, .inl t_rows_a))] := hD.sub [1, 2, 0] (by decide) rfl
  refine lv_if_eq (tgt := 40) hx hb d_March_addRow_4 (by decide) (fun cc4 => ?_) (fun cc4 => ?_)
  · have hf := ifT cc4 hf
    obtain rfl := Option.some.inj hf
    exact ret_v hx hb hr hlocks hP hD hS ⟨rfl, rfl⟩ d_March_addRow_40
  · have hf := ifF cc4 hf
    refine lv_aload_n hx hb d_March_addRow_7 rfl (lv_at hl 0 rfl) ?_
    refine va_get (D := D) (ci := 4) (v := .ref h_t_rows) (C := R_March) (T := F_March) (N := 4) hx hb hts i_March hown hK.1 hP 0 rfl rfl 0 (by decide) (hts _ w_64) (fun _ h9 => h9) rfl d_March_addRow_8 ?_
    refine lv_aload_n hx hb d_March_addRow_11 rfl (lv_at hl 0 rfl) ?_
    refine va_get (D := D) (ci := 4) (v := .int t_rowCount) (C := R_March) (T := F_March) (N := 4) hx hb hts i_March hown hK.1 hP 0 rfl rfl 3 (by decide) (hts _ w_119) (fun _ h9 => h9) rfl d_March_addRow_12 ?_
    refine lv_iload_n hx hb d_March_addRow_15 rfl (lv_at hl 1 rfl) ?_
    obtain ⟨hin1, hf⟩ := ifG hf
    refine va_iast hx hb hK.1 hP hD hS 2 0 rfl rfl (inB_in hin1) d_March_addRow_16 (fun H locs hP hD hS => ?_)
    have hP : va_P D classes [(h_t, .inr (4, [.ref h_t_rows, .ref h_t_firstRows, .int t_elements, .int t_rowCount])), (h_t_firstRows, .inl (cI, n_t_firstRows, .inl t_firstRows_a)), (h_t_rows, .inl (cI, n_t_rows, .inl (upd t_rows_a (Int32.toNatClampNeg t_rowCount) a1)))] H := hP
    have hD : va_D A [(h_t, .inr (4, [.ref h_t_rows, .ref h_t_firstRows, .int t_elements, .int t_rowCount])), (h_t_firstRows, .inl (cI, n_t_firstRows, .inl t_firstRows_a)), (h_t_rows, .inl (cI, n_t_rows, .inl (upd t_rows_a (Int32.toNatClampNeg t_rowCount) a1)))] := hD
    refine lv_aload_n hx hb d_March_addRow_17 rfl (lv_at hl 0 rfl) ?_
    refine lv_dup hx hb d_March_addRow_18 rfl ?_
    refine va_get (D := D) (ci := 4) (v := .int t_rowCount) (C := R_March) (T := F_March) (N := 4) hx hb hts i_March hown hK.1 hP 0 rfl rfl 3 (by decide) (hts _ w_119) (fun _ h9 => h9) rfl d_March_addRow_19 ?_
    refine lv_iconst (v := 1) hx hb d_March_addRow_22 (by decide) ?_
    refine lv_iadd hx hb d_March_addRow_23 ?_
    refine va_put (D := D) (ci := 4) (v := .int (t_rowCount + 1)) (ty := .int) (C := R_March) (T := F_March) (N := 4) hx hb hts i_March t_March t_March_ok n_March hown hK.1 hP hD hS 0 rfl rfl 3 (by decide) (hts _ w_119) (fun _ h9 => h9) rfl (t_March_ok 3 (by decide)) rfl rfl (Nat.le_of_ble_eq_true rfl) d_March_addRow_24 (fun H locs hP hD hS => ?_)
    have hP : va_P D classes [(h_t, .inr (4, [.ref h_t_rows, .ref h_t_firstRows, .int t_elements, .int (t_rowCount + 1)])), (h_t_firstRows, .inl (cI, n_t_firstRows, .inl t_firstRows_a)), (h_t_rows, .inl (cI, n_t_rows, .inl (upd t_rows_a (Int32.toNatClampNeg t_rowCount) a1)))] H := hP
    have hD : va_D A [(h_t, .inr (4, [.ref h_t_rows, .ref h_t_firstRows, .int t_elements, .int (t_rowCount + 1)])), (h_t_firstRows, .inl (cI, n_t_firstRows, .inl t_firstRows_a)), (h_t_rows, .inl (cI, n_t_rows, .inl (upd t_rows_a (Int32.toNatClampNeg t_rowCount) a1)))] := hD
    refine lv_aload_n hx hb d_March_addRow_27 rfl (lv_at hl 0 rfl) ?_
    refine va_get (D := D) (ci := 4) (v := .ref h_t_firstRows) (C := R_March) (T := F_March) (N := 4) hx hb hts i_March hown hK.1 hP 0 rfl rfl 1 (by decide) (hts _ w_65) (fun _ h9 => h9) rfl d_March_addRow_28 ?_
    refine lv_aload_n hx hb d_March_addRow_31 rfl (lv_at hl 0 rfl) ?_
    refine va_get (D := D) (ci := 4) (v := .int t_elements) (C := R_March) (T := F_March) (N := 4) hx hb hts i_March hown hK.1 hP 0 rfl rfl 2 (by decide) (hts _ w_118) (fun _ h9 => h9) rfl d_March_addRow_32 ?_
    refine lv_aload_n hx hb d_March_addRow_35 rfl (lv_at hl 0 rfl) ?_
    refine va_get (D := D) (ci := 4) (v := .int (t_rowCount + 1)) (C := R_March) (T := F_March) (N := 4) hx hb hts i_March hown hK.1 hP 0 rfl rfl 3 (by decide) (hts _ w_119) (fun _ h9 => h9) rfl d_March_addRow_36 ?_
    obtain ⟨hin1, hf⟩ := ifG hf
    refine va_iast hx hb hK.1 hP hD hS 1 0 rfl rfl (inB_in hin1) d_March_addRow_39 (fun H locs hP hD hS => ?_)
    have hP : va_P D classes [(h_t, .inr (4, [.ref h_t_rows, .ref h_t_firstRows, .int t_elements, .int (t_rowCount + 1)])), (h_t_firstRows, .inl (cI, n_t_firstRows, .inl (upd t_firstRows_a (Int32.toNatClampNeg t_elements) (t_rowCount + 1)))), (h_t_rows, .inl (cI, n_t_rows, .inl (upd t_rows_a (Int32.toNatClampNeg t_rowCount) a1)))] H := hP
    have hD : va_D A [(h_t, .inr (4, [.ref h_t_rows, .ref h_t_firstRows, .int t_elements, .int (t_rowCount + 1)])), (h_t_firstRows, .inl (cI, n_t_firstRows, .inl (upd t_firstRows_a (Int32.toNatClampNeg t_elements) (t_rowCount + 1)))), (h_t_rows, .inl (cI, n_t_rows, .inl (upd t_rows_a (Int32.toNatClampNeg t_rowCount) a1)))] := hD
    obtain rfl := Option.some.inj hf
    exact ret_v hx hb hr hlocks hP hD hS ⟨rfl, rfl⟩ d_March_addRow_40
def f_March_endElement (n_t_rows : Nat) (t_rowCount : Int32) (t_rows_a : Nat → Int32) : Option ((Nat → Int32)) :=
  (if t_rowCount ≤ 0 then
    some t_rows_a
  else
    (if inB (t_rowCount - 1) n_t_rows = true then
    (if inB (t_rowCount - 1) n_t_rows = true then
    some (upd t_rows_a (Int32.toNatClampNeg (t_rowCount - 1)) ((t_rows_a (Int32.toNatClampNeg (t_rowCount - 1))) ||| 8))
    else none)
    else none))
def post_March_endElement (h_t h_t_rows : Nat) (v_t_firstRows v_t_elements : Value) (n_t_rows : Nat) (t_rowCount : Int32) (cI cB cJ : ClassId) (res : (Nat → Int32)) : Option Value → va_W → Prop := fun o ws' => o = none ∧ ws' = [(h_t, .inr (4, [.ref h_t_rows, v_t_firstRows, v_t_elements, .int t_rowCount])), (h_t_rows, .inl (cI, n_t_rows, .inl res))]
abbrev rm_March_endElement : Room := { frames := 0, cells := 0, slots := 0, locals := 0 }
set_option maxHeartbeats 4000000 in
set_option maxRecDepth 100000 in
theorem c_March_endElement (l : Launch) (D : va_G) (cI cB cJ : ClassId) (h_t h_t_rows : Nat) (v_t_firstRows v_t_elements : Value) (n_t_rows : Nat) (t_rowCount : Int32) (t_rows_a : Nat → Int32) (sz : Nat) (res : (Nat → Int32)) (hf : f_March_endElement n_t_rows t_rowCount t_rows_a = some res) : Met l y_March_endElement (.code y_March_endElement b_March_endElement 1 none :: TB) rm_March_endElement (PcW D [(cI, .int), (cB, .byte), (cJ, .long)] [.ref h_t] [(h_t, .inr (4, [.ref h_t_rows, v_t_firstRows, v_t_elements, .int t_rowCount])), (h_t_rows, .inl (cI, n_t_rows, .inl t_rows_a))] sz) (QW D (post_March_endElement h_t h_t_rows v_t_firstRows v_t_elements n_t_rows t_rowCount cI cB cJ res) (va_A [(h_t, .inr (4, [.ref h_t_rows, v_t_firstRows, v_t_elements, .int t_rowCount])), (h_t_rows, .inl (cI, n_t_rows, .inl t_rows_a))] sz)) 0 0 (va_A [(h_t, .inr (4, [.ref h_t_rows, v_t_firstRows, v_t_elements, .int t_rowCount])), (h_t_rows, .inl (cI, n_t_rows, .inl t_rows_a))] sz) := by
  refine entW ⟨by decide +kernel, rfl⟩ fun p e s m below meth c C0 hP hD hsz ls hl => ?_
  subst hsz
  generalize hAe : va_A [(h_t, .inr (4, [.ref h_t_rows, v_t_firstRows, v_t_elements, .int t_rowCount])), (h_t_rows, .inl (cI, n_t_rows, .inl t_rows_a))] s.heap.size = A at hD ⊢
  have hA : ∀ q : Nat, s.heap.size ≤ q → A q := fun q h => by rw [← hAe]; exact Or.inr h
  clear hAe
  have hS : va_S A s.heap s.heap [] := va_S.rf
  have hl : lv_has ls 1 [(0, .ref h_t)] := hl
  obtain ⟨hx, hb, hml, hr, hlocks, hts, hown, hK, hin⟩ := id C0
  have hf : (((
  (if t_rowCount ≤ 0 then
    some t_rows_a
  else
    (if inB (t_rowCount - 1) n_t_rows = true then
    (if inB (t_rowCount - 1) n_t_rows = true then
    some (upd t_rows_a (Int32.toNatClampNeg (t_rowCount - 1)) ((t_rows_a (Int32.toNatClampNeg (t_rowCount - 1))) ||| 8))
    else none)
    else none)))) : Option ((Nat → Int32))) = some res := hf
  obtain ⟨H, hH⟩ : ∃ H, H = s.heap := ⟨_, rfl⟩
  obtain ⟨locs, hlo⟩ : ∃ x : List Loc, x = [] := ⟨_, rfl⟩
  rw [← hlo] at hS ⊢
  have hP : va_P D classes [(h_t, .inr (4, [.ref h_t_rows, v_t_firstRows, v_t_elements, .int t_rowCount])), (h_t_rows, .inl (cI, n_t_rows, .inl t_rows_a))] H := by rw [hH]; exact hP
  have hS : va_S A s.heap H locs := by rw [hH]; exact hS
  show W p l e rm_March_endElement s m _ below meth c s.heap locs 0 0 (MQ below (QW D (post_March_endElement h_t h_t_rows v_t_firstRows v_t_elements n_t_rows t_rowCount cI cB cJ res) A) _ s 0 0 A) (F0 m 0 ls [])
  refine wheap hH ?_
  clear hH hlo
  refine lv_aload_n hx hb d_March_endElement_0 rfl (lv_at hl 0 rfl) ?_
  refine va_get (D := D) (ci := 4) (v := .int t_rowCount) (C := R_March) (T := F_March) (N := 4) hx hb hts i_March hown hK.1 hP 0 rfl rfl 3 (by decide) (hts _ w_119) (fun _ h9 => h9) rfl d_March_endElement_1 ?_
  refine lv_if_le (tgt := 23) hx hb d_March_endElement_4 (by decide) (fun cc4 => ?_) (fun cc4 => ?_)
  · have hf := ifT cc4 hf
    obtain rfl := Option.some.inj hf
    exact ret_v hx hb hr hlocks hP hD hS ⟨rfl, rfl⟩ d_March_endElement_23
  · have hf := ifF cc4 hf
    refine lv_aload_n hx hb d_March_endElement_7 rfl (lv_at hl 0 rfl) ?_
    refine va_get (D := D) (ci := 4) (v := .ref h_t_rows) (C := R_March) (T := F_March) (N := 4) hx hb hts i_March hown hK.1 hP 0 rfl rfl 0 (by decide) (hts _ w_64) (fun _ h9 => h9) rfl d_March_endElement_8 ?_
    refine lv_aload_n hx hb d_March_endElement_11 rfl (lv_at hl 0 rfl) ?_
    refine va_get (D := D) (ci := 4) (v := .int t_rowCount) (C := R_March) (T := F_March) (N := 4) hx hb hts i_March hown hK.1 hP 0 rfl rfl 3 (by decide) (hts _ w_119) (fun _ h9 => h9) rfl d_March_endElement_12 ?_
    refine lv_iconst (v := 1) hx hb d_March_endElement_15 (by decide) ?_
    refine lv_isub hx hb d_March_endElement_16 ?_
    refine lv_dup2_11 hx hb d_March_endElement_17 rfl rfl ?_
    obtain ⟨hin1, hf⟩ := ifG hf
    refine va_iald hx hb hK.1 hP 1 0 rfl rfl (inB_in hin1) d_March_endElement_18 ?_
    refine lv_bipush (v := 8) hx hb d_March_endElement_19 (by decide) ?_
    refine lv_ior hx hb d_March_endElement_21 ?_
    obtain ⟨hin1, hf⟩ := ifG hf
    refine va_iast hx hb hK.1 hP hD hS 1 0 rfl rfl (inB_in hin1) d_March_endElement_22 (fun H locs hP hD hS => ?_)
    have hP : va_P D classes [(h_t, .inr (4, [.ref h_t_rows, v_t_firstRows, v_t_elements, .int t_rowCount])), (h_t_rows, .inl (cI, n_t_rows, .inl (upd t_rows_a (Int32.toNatClampNeg (t_rowCount - 1)) ((t_rows_a (Int32.toNatClampNeg (t_rowCount - 1))) ||| 8))))] H := hP
    have hD : va_D A [(h_t, .inr (4, [.ref h_t_rows, v_t_firstRows, v_t_elements, .int t_rowCount])), (h_t_rows, .inl (cI, n_t_rows, .inl (upd t_rows_a (Int32.toNatClampNeg (t_rowCount - 1)) ((t_rows_a (Int32.toNatClampNeg (t_rowCount - 1))) ||| 8))))] := hD
    obtain rfl := Option.some.inj hf
    exact ret_v hx hb hr hlocks hP hD hS ⟨rfl, rfl⟩ d_March_endElement_23
def f_TextReader_takesElement_56 (n_a2_firstRows : Nat) (a2_elements : Int32) (a2_rowCount : Int32) (a2_firstRows_a : Nat → Int32) (a2_rows_a : Nat → Int32) (x1 : Int32) : Option (Int32 × Int32 × Int32 × (Nat → Int32) × Int32 × Int32 × (Nat → Int32)) :=
  (Option.bind (f_March_beginElement n_a2_firstRows a2_elements a2_rowCount a2_firstRows_a) fun q57_2 =>
  (if x1 = 118 then
    some (1, q57_2.1, a2_rowCount, q57_2.2, 2, 1, a2_rows_a)
  else
    some (1, q57_2.1, a2_rowCount, q57_2.2, 2, 0, a2_rows_a)))
def f_TextReader_takesElement (n_a2_firstRows : Nat) (n_a2_rows : Nat) (a2_elements : Int32) (a2_rowCount : Int32) (a2_firstRows_a : Nat → Int32) (t_state : Int32) (t_direction : Int32) (a2_rows_a : Nat → Int32) (a1 : Int32) : Option (Int32 × Int32 × Int32 × (Nat → Int32) × Int32 × Int32 × (Nat → Int32)) :=
  (Option.bind (f_March_hasRoomForElement a2_elements) fun q1_1 =>
  (if q1_1 = 0 then
    some (0, a2_elements, a2_rowCount, a2_firstRows_a, t_state, t_direction, a2_rows_a)
  else
    (if a1 = 100 then
      (Option.bind (f_March_beginElement n_a2_firstRows a2_elements a2_rowCount a2_firstRows_a) fun q16_3 =>
      (Option.bind (f_March_addRow n_a2_firstRows n_a2_rows q16_3.1 a2_rowCount q16_3.2 a2_rows_a 16) fun q22_4 =>
      (Option.bind (f_March_endElement n_a2_rows q22_4.1 q22_4.2.2) fun q26_5 =>
      some (1, q16_3.1, q22_4.1, q22_4.2.1, 1, t_direction, q26_5))))
    else
      (if a1 = 94 then
        (f_TextReader_takesElement_56 n_a2_firstRows a2_elements a2_rowCount a2_firstRows_a a2_rows_a a1)
      else
        (if a1 = 118 then
          (f_TextReader_takesElement_56 n_a2_firstRows a2_elements a2_rowCount a2_firstRows_a a2_rows_a a1)
        else
          (if a1 = 42 then
            (f_TextReader_takesElement_56 n_a2_firstRows a2_elements a2_rowCount a2_firstRows_a a2_rows_a a1)
          else
            some (0, a2_elements, a2_rowCount, a2_firstRows_a, t_state, t_direction, a2_rows_a)))))))
def post_TextReader_takesElement (h_t h_a2 h_a2_firstRows h_a2_rows : Nat) (v_t_operation : Value) (n_a2_firstRows : Nat) (n_a2_rows : Nat) (cI cB cJ : ClassId) (res : Int32 × Int32 × Int32 × (Nat → Int32) × Int32 × Int32 × (Nat → Int32)) : Option Value → va_W → Prop := fun o ws' => o = some (.int res.1) ∧ ws' = [(h_a2, .inr (4, [.ref h_a2_rows, .ref h_a2_firstRows, .int res.2.1, .int res.2.2.1])), (h_a2_firstRows, .inl (cI, n_a2_firstRows, .inl res.2.2.2.1)), (h_t, .inr (9, [.int res.2.2.2.2.1, .int res.2.2.2.2.2.1, v_t_operation])), (h_a2_rows, .inl (cI, n_a2_rows, .inl res.2.2.2.2.2.2))]
abbrev rm_TextReader_takesElement : Room := { frames := 2, cells := 0, slots := 0, locals := 41 }
set_option maxHeartbeats 4000000 in
set_option maxRecDepth 100000 in
theorem k_TextReader_takesElement_56 {p : Program} {l : Launch} {e : Env} {s : State} {m : MethodId} {args : Array Value} {below : List Frame} {meth : Method} {c : Code} {D : va_G} {cI cB cJ : ClassId} {A : Nat → Prop} (C0 : CX p s m args meth c D [(cI, .int), (cB, .byte), (cJ, .long)] R_TextReader b_TextReader_takesElement 3 (some .boolean) "takesElement") (hA : ∀ q, s.heap.size ≤ q → A q) {h_t h_a2 h_a2_firstRows h_a2_rows : Nat} {v_t_operation : Value} {res : Int32 × Int32 × Int32 × (Nat → Int32) × Int32 × Int32 × (Nat → Int32)} {n_a2_firstRows : Nat} {n_a2_rows : Nat} {a2_elements : Int32} {a2_rowCount : Int32} {a2_firstRows_a : Nat → Int32} {t_state : Int32} {t_direction : Int32} {a2_rows_a : Nat → Int32} {x1 : Int32}
    (hf : f_TextReader_takesElement_56 n_a2_firstRows a2_elements a2_rowCount a2_firstRows_a a2_rows_a x1 = some res) {H : Heap} {locs : List Loc} {ls : Array Slot} (hP : va_P D classes [(h_a2, .inr (4, [.ref h_a2_rows, .ref h_a2_firstRows, .int a2_elements, .int a2_rowCount])), (h_a2_firstRows, .inl (cI, n_a2_firstRows, .inl a2_firstRows_a)), (h_t, .inr (9, [.int t_state, .int t_direction, v_t_operation])), (h_a2_rows, .inl (cI, n_a2_rows, .inl a2_rows_a))] H) (hD : va_D A [(h_a2, .inr (4, [.ref h_a2_rows, .ref h_a2_firstRows, .int a2_elements, .int a2_rowCount])), (h_a2_firstRows, .inl (cI, n_a2_firstRows, .inl a2_firstRows_a)), (h_t, .inr (9, [.int t_state, .int t_direction, v_t_operation])), (h_a2_rows, .inl (cI, n_a2_rows, .inl a2_rows_a))]) (hS : va_S A s.heap H locs) (hl : lv_has ls 3 [(0, .ref h_t), (1, .int x1), (2, .ref h_a2)]) : W p l e rm_TextReader_takesElement s m args below meth c H locs 0 0 (MQ below (QW D (post_TextReader_takesElement h_t h_a2 h_a2_firstRows h_a2_rows v_t_operation n_a2_firstRows n_a2_rows cI cB cJ res) A) args s 0 0 A) (F0 m 56 ls []) := by
  obtain ⟨hx, hb, hml, hr, hlocks, hts, hown, hK, hin⟩ := id C0
  have hf : (((
  (Option.bind (f_March_beginElement n_a2_firstRows a2_elements a2_rowCount a2_firstRows_a) fun q57_2 =>
  (if x1 = 118 then
    some (1, q57_2.1, a2_rowCount, q57_2.2, 2, 1, a2_rows_a)
  else
    some (1, q57_2.1, a2_rowCount, q57_2.2, 2, 0, a2_rows_a))))) : Option (Int32 × Int32 × Int32 × (Nat → Int32) × Int32 × Int32 × (Nat → Int32))) = some res := hf
  refine lv_aload_n hx hb d_TextReader_takesElement_56 rfl (lv_at hl 2 rfl) ?_
  obtain ⟨q57_2, hc, hf⟩ := bindS hf
  refine mcV (n := 0) (As := []) (rest := []) (wr := [(h_t, .inr (9, [.int t_state, .int t_direction, v_t_operation])), (h_a2_rows, .inl (cI, n_a2_rows, .inl a2_rows_a))]) hx hb hml hown hts hK (c_March_beginElement (l := l) (D := D) (cI := cI) (cB := cB) (cJ := cJ) (h_t := h_a2) (h_t_firstRows := h_a2_firstRows) (v_t_rows := (.ref h_a2_rows)) (n_t_firstRows := n_a2_firstRows) (t_elements := a2_elements) (t_rowCount := a2_rowCount) (t_firstRows_a := a2_firstRows_a) (sz := H.size) (res := q57_2) (hf := hc)) w_129 w_130 w_131 w_107 w_132 (by decide +kernel) rfl rfl ⟨Nat.le_of_ble_eq_true rfl, Nat.le_of_ble_eq_true rfl⟩ hP hD hS hA [0, 1] [2, 3] rfl rfl (by decide) (by decide) (by decide) (ci := 4) 0 rfl rfl hl.1 rfl rfl (lv_room (Nat.le_of_ble_eq_true rfl)) d_TextReader_takesElement_57 ⟨Nat.le_of_ble_eq_true rfl, Nat.le_of_ble_eq_true rfl⟩ (fun o ws' H locs hp hP hD hS => ?_)
  obtain ⟨rfl, rfl⟩ := hp
  have hP : va_P D classes [(h_a2, .inr (4, [.ref h_a2_rows, .ref h_a2_firstRows, .int q57_2.1, .int a2_rowCount])), (h_a2_firstRows, .inl (cI, n_a2_firstRows, .inl q57_2.2)), (h_t, .inr (9, [.int t_state, .int t_direction, v_t_operation])), (h_a2_rows, .inl (cI, n_a2_rows, .inl a2_rows_a))] H := hP.sub [2, 3, 0, 1] rfl
  have hD : va_D A [(h_a2, .inr (4, [.ref h_a2_rows, .ref h_a2_firstRows, .int q57_2.1, .int a2_rowCount])), (h_a2_firstRows, .inl (cI, n_a2_firstRows, .inl q57_2.2)), (h_t, .inr (9, [.int t_state, .int t_direction, v_t_operation])), (h_a2_rows, .inl (cI, n_a2_rows, .inl a2_rows_a))] := hD.sub [2, 3, 0, 1] (by decide) rfl
  refine lv_aload_n hx hb d_TextReader_takesElement_60 rfl (lv_at hl 0 rfl) ?_
  refine lv_iload_n hx hb d_TextReader_takesElement_61 rfl (lv_at hl 1 rfl) ?_
  refine lv_bipush (v := 118) hx hb d_TextReader_takesElement_62 (by decide) ?_
  refine lv_icmp_ne (tgt := 71) hx hb d_TextReader_takesElement_64 (by decide) (fun cc64 => ?_) (fun cc64 => ?_)
  · have hf := ifF cc64 hf
    refine lv_iconst (v := 0) hx hb d_TextReader_takesElement_71 (by decide) ?_
    refine va_put (D := D) (ci := 9) (v := .int 0) (ty := .int) (C := R_TextReader) (T := F_TextReader) (N := 3) hx hb hts i_TextReader t_TextReader t_TextReader_ok n_TextReader hown hK.1 hP hD hS 2 rfl rfl 1 (by decide) (hts _ w_133) (fun _ h9 => h9) rfl (t_TextReader_ok 1 (by decide)) rfl rfl (Nat.le_of_ble_eq_true rfl) d_TextReader_takesElement_72 (fun H locs hP hD hS => ?_)
    have hP : va_P D classes [(h_a2, .inr (4, [.ref h_a2_rows, .ref h_a2_firstRows, .int q57_2.1, .int a2_rowCount])), (h_a2_firstRows, .inl (cI, n_a2_firstRows, .inl q57_2.2)), (h_t, .inr (9, [.int t_state, .int 0, v_t_operation])), (h_a2_rows, .inl (cI, n_a2_rows, .inl a2_rows_a))] H := hP
    have hD : va_D A [(h_a2, .inr (4, [.ref h_a2_rows, .ref h_a2_firstRows, .int q57_2.1, .int a2_rowCount])), (h_a2_firstRows, .inl (cI, n_a2_firstRows, .inl q57_2.2)), (h_t, .inr (9, [.int t_state, .int 0, v_t_operation])), (h_a2_rows, .inl (cI, n_a2_rows, .inl a2_rows_a))] := hD
    refine lv_aload_n hx hb d_TextReader_takesElement_75 rfl (lv_at hl 0 rfl) ?_
    refine lv_iconst (v := 2) hx hb d_TextReader_takesElement_76 (by decide) ?_
    refine va_put (D := D) (ci := 9) (v := .int 2) (ty := .int) (C := R_TextReader) (T := F_TextReader) (N := 3) hx hb hts i_TextReader t_TextReader t_TextReader_ok n_TextReader hown hK.1 hP hD hS 2 rfl rfl 0 (by decide) (hts _ w_134) (fun _ h9 => h9) rfl (t_TextReader_ok 0 (by decide)) rfl rfl (Nat.le_of_ble_eq_true rfl) d_TextReader_takesElement_77 (fun H locs hP hD hS => ?_)
    have hP : va_P D classes [(h_a2, .inr (4, [.ref h_a2_rows, .ref h_a2_firstRows, .int q57_2.1, .int a2_rowCount])), (h_a2_firstRows, .inl (cI, n_a2_firstRows, .inl q57_2.2)), (h_t, .inr (9, [.int 2, .int 0, v_t_operation])), (h_a2_rows, .inl (cI, n_a2_rows, .inl a2_rows_a))] H := hP
    have hD : va_D A [(h_a2, .inr (4, [.ref h_a2_rows, .ref h_a2_firstRows, .int q57_2.1, .int a2_rowCount])), (h_a2_firstRows, .inl (cI, n_a2_firstRows, .inl q57_2.2)), (h_t, .inr (9, [.int 2, .int 0, v_t_operation])), (h_a2_rows, .inl (cI, n_a2_rows, .inl a2_rows_a))] := hD
    refine lv_iconst (v := 1) hx hb d_TextReader_takesElement_80 (by decide) ?_
    obtain rfl := Option.some.inj hf
    exact ret_z hx hb hr rfl hlocks hP hD hS ⟨rfl, rfl⟩ d_TextReader_takesElement_81
  · have hf := ifT cc64 hf
    refine lv_iconst (v := 1) hx hb d_TextReader_takesElement_67 (by decide) ?_
    refine lv_goto (tgt := 72) hx hb d_TextReader_takesElement_68 (by decide) ?_
    refine va_put (D := D) (ci := 9) (v := .int 1) (ty := .int) (C := R_TextReader) (T := F_TextReader) (N := 3) hx hb hts i_TextReader t_TextReader t_TextReader_ok n_TextReader hown hK.1 hP hD hS 2 rfl rfl 1 (by decide) (hts _ w_133) (fun _ h9 => h9) rfl (t_TextReader_ok 1 (by decide)) rfl rfl (Nat.le_of_ble_eq_true rfl) d_TextReader_takesElement_72 (fun H locs hP hD hS => ?_)
    have hP : va_P D classes [(h_a2, .inr (4, [.ref h_a2_rows, .ref h_a2_firstRows, .int q57_2.1, .int a2_rowCount])), (h_a2_firstRows, .inl (cI, n_a2_firstRows, .inl q57_2.2)), (h_t, .inr (9, [.int t_state, .int 1, v_t_operation])), (h_a2_rows, .inl (cI, n_a2_rows, .inl a2_rows_a))] H := hP
    have hD : va_D A [(h_a2, .inr (4, [.ref h_a2_rows, .ref h_a2_firstRows, .int q57_2.1, .int a2_rowCount])), (h_a2_firstRows, .inl (cI, n_a2_firstRows, .inl q57_2.2)), (h_t, .inr (9, [.int t_state, .int 1, v_t_operation])), (h_a2_rows, .inl (cI, n_a2_rows, .inl a2_rows_a))] := hD
    refine lv_aload_n hx hb d_TextReader_takesElement_75 rfl (lv_at hl 0 rfl) ?_
    refine lv_iconst (v := 2) hx hb d_TextReader_takesElement_76 (by decide) ?_
    refine va_put (D := D) (ci := 9) (v := .int 2) (ty := .int) (C := R_TextReader) (T := F_TextReader) (N := 3) hx hb hts i_TextReader t_TextReader t_TextReader_ok n_TextReader hown hK.1 hP hD hS 2 rfl rfl 0 (by decide) (hts _ w_134) (fun _ h9 => h9) rfl (t_TextReader_ok 0 (by decide)) rfl rfl (Nat.le_of_ble_eq_true rfl) d_TextReader_takesElement_77 (fun H locs hP hD hS => ?_)
    have hP : va_P D classes [(h_a2, .inr (4, [.ref h_a2_rows, .ref h_a2_firstRows, .int q57_2.1, .int a2_rowCount])), (h_a2_firstRows, .inl (cI, n_a2_firstRows, .inl q57_2.2)), (h_t, .inr (9, [.int 2, .int 1, v_t_operation])), (h_a2_rows, .inl (cI, n_a2_rows, .inl a2_rows_a))] H := hP
    have hD : va_D A [(h_a2, .inr (4, [.ref h_a2_rows, .ref h_a2_firstRows, .int q57_2.1, .int a2_rowCount])), (h_a2_firstRows, .inl (cI, n_a2_firstRows, .inl q57_2.2)), (h_t, .inr (9, [.int 2, .int 1, v_t_operation])), (h_a2_rows, .inl (cI, n_a2_rows, .inl a2_rows_a))] := hD
    refine lv_iconst (v := 1) hx hb d_TextReader_takesElement_80 (by decide) ?_
    obtain rfl := Option.some.inj hf
    exact ret_z hx hb hr rfl hlocks hP hD hS ⟨rfl, rfl⟩ d_TextReader_takesElement_81
set_option maxHeartbeats 4000000 in
set_option maxRecDepth 100000 in
theorem c_TextReader_takesElement (l : Launch) (D : va_G) (cI cB cJ : ClassId) (h_t h_a2 h_a2_firstRows h_a2_rows : Nat) (v_t_operation : Value) (n_a2_firstRows : Nat) (n_a2_rows : Nat) (a2_elements : Int32) (a2_rowCount : Int32) (a2_firstRows_a : Nat → Int32) (t_state : Int32) (t_direction : Int32) (a2_rows_a : Nat → Int32) (a1 : Int32) (sz : Nat) (res : Int32 × Int32 × Int32 × (Nat → Int32) × Int32 × Int32 × (Nat → Int32)) (hf : f_TextReader_takesElement n_a2_firstRows n_a2_rows a2_elements a2_rowCount a2_firstRows_a t_state t_direction a2_rows_a a1 = some res) : Met l y_TextReader_takesElement (.code y_TextReader_takesElement b_TextReader_takesElement 3 (some .boolean) :: TB) rm_TextReader_takesElement (PcW D [(cI, .int), (cB, .byte), (cJ, .long)] [.ref h_t, .int a1, .ref h_a2] [(h_a2, .inr (4, [.ref h_a2_rows, .ref h_a2_firstRows, .int a2_elements, .int a2_rowCount])), (h_a2_firstRows, .inl (cI, n_a2_firstRows, .inl a2_firstRows_a)), (h_t, .inr (9, [.int t_state, .int t_direction, v_t_operation])), (h_a2_rows, .inl (cI, n_a2_rows, .inl a2_rows_a))] sz) (QW D (post_TextReader_takesElement h_t h_a2 h_a2_firstRows h_a2_rows v_t_operation n_a2_firstRows n_a2_rows cI cB cJ res) (va_A [(h_a2, .inr (4, [.ref h_a2_rows, .ref h_a2_firstRows, .int a2_elements, .int a2_rowCount])), (h_a2_firstRows, .inl (cI, n_a2_firstRows, .inl a2_firstRows_a)), (h_t, .inr (9, [.int t_state, .int t_direction, v_t_operation])), (h_a2_rows, .inl (cI, n_a2_rows, .inl a2_rows_a))] sz)) 0 0 (va_A [(h_a2, .inr (4, [.ref h_a2_rows, .ref h_a2_firstRows, .int a2_elements, .int a2_rowCount])), (h_a2_firstRows, .inl (cI, n_a2_firstRows, .inl a2_firstRows_a)), (h_t, .inr (9, [.int t_state, .int t_direction, v_t_operation])), (h_a2_rows, .inl (cI, n_a2_rows, .inl a2_rows_a))] sz) := by
  refine entW ⟨by decide +kernel, rfl⟩ fun p e s m below meth c C0 hP hD hsz ls hl => ?_
  subst hsz
  generalize hAe : va_A [(h_a2, .inr (4, [.ref h_a2_rows, .ref h_a2_firstRows, .int a2_elements, .int a2_rowCount])), (h_a2_firstRows, .inl (cI, n_a2_firstRows, .inl a2_firstRows_a)), (h_t, .inr (9, [.int t_state, .int t_direction, v_t_operation])), (h_a2_rows, .inl (cI, n_a2_rows, .inl a2_rows_a))] s.heap.size = A at hD ⊢
  have hA : ∀ q : Nat, s.heap.size ≤ q → A q := fun q h => by rw [← hAe]; exact Or.inr h
  clear hAe
  have hS : va_S A s.heap s.heap [] := va_S.rf
  have hl : lv_has ls 3 [(0, .ref h_t), (1, .int a1), (2, .ref h_a2)] := hl
  obtain ⟨hx, hb, hml, hr, hlocks, hts, hown, hK, hin⟩ := id C0
  have hf : (((
  (Option.bind (f_March_hasRoomForElement a2_elements) fun q1_1 =>
  (if q1_1 = 0 then
    some (0, a2_elements, a2_rowCount, a2_firstRows_a, t_state, t_direction, a2_rows_a)
  else
    (if a1 = 100 then
      (Option.bind (f_March_beginElement n_a2_firstRows a2_elements a2_rowCount a2_firstRows_a) fun q16_3 =>
      (Option.bind (f_March_addRow n_a2_firstRows n_a2_rows q16_3.1 a2_rowCount q16_3.2 a2_rows_a 16) fun q22_4 =>
      (Option.bind (f_March_endElement n_a2_rows q22_4.1 q22_4.2.2) fun q26_5 =>
      some (1, q16_3.1, q22_4.1, q22_4.2.1, 1, t_direction, q26_5))))
    else
      (if a1 = 94 then
        (f_TextReader_takesElement_56 n_a2_firstRows a2_elements a2_rowCount a2_firstRows_a a2_rows_a a1)
      else
        (if a1 = 118 then
          (f_TextReader_takesElement_56 n_a2_firstRows a2_elements a2_rowCount a2_firstRows_a a2_rows_a a1)
        else
          (if a1 = 42 then
            (f_TextReader_takesElement_56 n_a2_firstRows a2_elements a2_rowCount a2_firstRows_a a2_rows_a a1)
          else
            some (0, a2_elements, a2_rowCount, a2_firstRows_a, t_state, t_direction, a2_rows_a))))))))) : Option (Int32 × Int32 × Int32 × (Nat → Int32) × Int32 × Int32 × (Nat → Int32))) = some res := hf
  obtain ⟨H, hH⟩ : ∃ H, H = s.heap := ⟨_, rfl⟩
  obtain ⟨locs, hlo⟩ : ∃ x : List Loc, x = [] := ⟨_, rfl⟩
  rw [← hlo] at hS ⊢
  have hP : va_P D classes [(h_a2, .inr (4, [.ref h_a2_rows, .ref h_a2_firstRows, .int a2_elements, .int a2_rowCount])), (h_a2_firstRows, .inl (cI, n_a2_firstRows, .inl a2_firstRows_a)), (h_t, .inr (9, [.int t_state, .int t_direction, v_t_operation])), (h_a2_rows, .inl (cI, n_a2_rows, .inl a2_rows_a))] H := by rw [hH]; exact hP
  have hS : va_S A s.heap H locs := by rw [hH]; exact hS
  show W p l e rm_TextReader_takesElement s m _ below meth c s.heap locs 0 0 (MQ below (QW D (post_TextReader_takesElement h_t h_a2 h_a2_firstRows h_a2_rows v_t_operation n_a2_firstRows n_a2_rows cI cB cJ res) A) _ s 0 0 A) (F0 m 0 ls [])
  refine wheap hH ?_
  clear hH hlo
  refine lv_aload_n hx hb d_TextReader_takesElement_0 rfl (lv_at hl 2 rfl) ?_
  obtain ⟨q1_1, hc, hf⟩ := bindS hf
  refine mcV (n := 0) (As := []) (rest := []) (wr := [(h_a2_firstRows, .inl (cI, n_a2_firstRows, .inl a2_firstRows_a)), (h_t, .inr (9, [.int t_state, .int t_direction, v_t_operation])), (h_a2_rows, .inl (cI, n_a2_rows, .inl a2_rows_a))]) hx hb hml hown hts hK (c_March_hasRoomForElement (l := l) (D := D) (cI := cI) (cB := cB) (cJ := cJ) (h_t := h_a2) (v_t_rows := (.ref h_a2_rows)) (v_t_firstRows := (.ref h_a2_firstRows)) (v_t_rowCount := (.int a2_rowCount)) (t_elements := a2_elements) (sz := H.size) (res := q1_1) (hf := hc)) w_128 w_121 w_122 w_107 w_123 (by decide +kernel) rfl rfl ⟨Nat.le_of_ble_eq_true rfl, Nat.le_of_ble_eq_true rfl⟩ hP hD hS hA [0] [1, 2, 3] rfl rfl (by decide) (by decide) (by decide) (ci := 4) 0 rfl rfl hl.1 rfl rfl (lv_room (Nat.le_of_ble_eq_true rfl)) d_TextReader_takesElement_1 ⟨Nat.le_of_ble_eq_true rfl, Nat.le_of_ble_eq_true rfl⟩ (fun o ws' H locs hp hP hD hS => ?_)
  obtain ⟨rfl, rfl⟩ := hp
  have hP : va_P D classes [(h_a2, .inr (4, [.ref h_a2_rows, .ref h_a2_firstRows, .int a2_elements, .int a2_rowCount])), (h_a2_firstRows, .inl (cI, n_a2_firstRows, .inl a2_firstRows_a)), (h_t, .inr (9, [.int t_state, .int t_direction, v_t_operation])), (h_a2_rows, .inl (cI, n_a2_rows, .inl a2_rows_a))] H := hP.sub [3, 0, 1, 2] rfl
  have hD : va_D A [(h_a2, .inr (4, [.ref h_a2_rows, .ref h_a2_firstRows, .int a2_elements, .int a2_rowCount])), (h_a2_firstRows, .inl (cI, n_a2_firstRows, .inl a2_firstRows_a)), (h_t, .inr (9, [.int t_state, .int t_direction, v_t_operation])), (h_a2_rows, .inl (cI, n_a2_rows, .inl a2_rows_a))] := hD.sub [3, 0, 1, 2] (by decide) rfl
  refine lv_if_ne (tgt := 9) hx hb d_TextReader_takesElement_4 (by decide) (fun cc4 => ?_) (fun cc4 => ?_)
  · have hf := ifF cc4 hf
    refine lv_iload_n hx hb d_TextReader_takesElement_9 rfl (lv_at hl 1 rfl) ?_
    refine lv_bipush (v := 100) hx hb d_TextReader_takesElement_10 (by decide) ?_
    refine lv_icmp_ne (tgt := 36) hx hb d_TextReader_takesElement_12 (by decide) (fun cc12 => ?_) (fun cc12 => ?_)
    · have hf := ifF cc12 hf
      refine lv_iload_n hx hb d_TextReader_takesElement_36 rfl (lv_at hl 1 rfl) ?_
      refine lv_bipush (v := 94) hx hb d_TextReader_takesElement_37 (by decide) ?_
      refine lv_icmp_eq (tgt := 56) hx hb d_TextReader_takesElement_39 (by decide) (fun cc39 => ?_) (fun cc39 => ?_)
      · have hf := ifT cc39 hf
        exact k_TextReader_takesElement_56 (s := s) C0 hA hf hP hD hS (lv_sub hl [0, 1, 2] rfl)
      · have hf := ifF cc39 hf
        refine lv_iload_n hx hb d_TextReader_takesElement_42 rfl (lv_at hl 1 rfl) ?_
        refine lv_bipush (v := 118) hx hb d_TextReader_takesElement_43 (by decide) ?_
        refine lv_icmp_eq (tgt := 56) hx hb d_TextReader_takesElement_45 (by decide) (fun cc45 => ?_) (fun cc45 => ?_)
        · have hf := ifT cc45 hf
          exact k_TextReader_takesElement_56 (s := s) C0 hA hf hP hD hS (lv_sub hl [0, 1, 2] rfl)
        · have hf := ifF cc45 hf
          refine lv_iload_n hx hb d_TextReader_takesElement_48 rfl (lv_at hl 1 rfl) ?_
          refine lv_bipush (v := 42) hx hb d_TextReader_takesElement_49 (by decide) ?_
          refine lv_icmp_eq (tgt := 56) hx hb d_TextReader_takesElement_51 (by decide) (fun cc51 => ?_) (fun cc51 => ?_)
          · have hf := ifT cc51 hf
            exact k_TextReader_takesElement_56 (s := s) C0 hA hf hP hD hS (lv_sub hl [0, 1, 2] rfl)
          · have hf := ifF cc51 hf
            refine lv_iconst (v := 0) hx hb d_TextReader_takesElement_54 (by decide) ?_
            obtain rfl := Option.some.inj hf
            exact ret_z hx hb hr rfl hlocks hP hD hS ⟨rfl, rfl⟩ d_TextReader_takesElement_55
    · have hf := ifT cc12 hf
      refine lv_aload_n hx hb d_TextReader_takesElement_15 rfl (lv_at hl 2 rfl) ?_
      obtain ⟨q16_3, hc, hf⟩ := bindS hf
      refine mcV (n := 0) (As := []) (rest := []) (wr := [(h_t, .inr (9, [.int t_state, .int t_direction, v_t_operation])), (h_a2_rows, .inl (cI, n_a2_rows, .inl a2_rows_a))]) hx hb hml hown hts hK (c_March_beginElement (l := l) (D := D) (cI := cI) (cB := cB) (cJ := cJ) (h_t := h_a2) (h_t_firstRows := h_a2_firstRows) (v_t_rows := (.ref h_a2_rows)) (n_t_firstRows := n_a2_firstRows) (t_elements := a2_elements) (t_rowCount := a2_rowCount) (t_firstRows_a := a2_firstRows_a) (sz := H.size) (res := q16_3) (hf := hc)) w_129 w_130 w_131 w_107 w_132 (by decide +kernel) rfl rfl ⟨Nat.le_of_ble_eq_true rfl, Nat.le_of_ble_eq_true rfl⟩ hP hD hS hA [0, 1] [2, 3] rfl rfl (by decide) (by decide) (by decide) (ci := 4) 0 rfl rfl hl.1 rfl rfl (lv_room (Nat.le_of_ble_eq_true rfl)) d_TextReader_takesElement_16 ⟨Nat.le_of_ble_eq_true rfl, Nat.le_of_ble_eq_true rfl⟩ (fun o ws' H locs hp hP hD hS => ?_)
      obtain ⟨rfl, rfl⟩ := hp
      have hP : va_P D classes [(h_a2, .inr (4, [.ref h_a2_rows, .ref h_a2_firstRows, .int q16_3.1, .int a2_rowCount])), (h_a2_firstRows, .inl (cI, n_a2_firstRows, .inl q16_3.2)), (h_t, .inr (9, [.int t_state, .int t_direction, v_t_operation])), (h_a2_rows, .inl (cI, n_a2_rows, .inl a2_rows_a))] H := hP.sub [2, 3, 0, 1] rfl
      have hD : va_D A [(h_a2, .inr (4, [.ref h_a2_rows, .ref h_a2_firstRows, .int q16_3.1, .int a2_rowCount])), (h_a2_firstRows, .inl (cI, n_a2_firstRows, .inl q16_3.2)), (h_t, .inr (9, [.int t_state, .int t_direction, v_t_operation])), (h_a2_rows, .inl (cI, n_a2_rows, .inl a2_rows_a))] := hD.sub [2, 3, 0, 1] (by decide) rfl
      refine lv_aload_n hx hb d_TextReader_takesElement_19 rfl (lv_at hl 2 rfl) ?_
      refine lv_bipush (v := 16) hx hb d_TextReader_takesElement_20 (by decide) ?_
      obtain ⟨q22_4, hc, hf⟩ := bindS hf
      refine mcV (n := 1) (As := [.int 16]) (rest := []) (wr := [(h_t, .inr (9, [.int t_state, .int t_direction, v_t_operation]))]) hx hb hml hown hts hK (c_March_addRow (l := l) (D := D) (cI := cI) (cB := cB) (cJ := cJ) (h_t := h_a2) (h_t_firstRows := h_a2_firstRows) (h_t_rows := h_a2_rows) (n_t_firstRows := n_a2_firstRows) (n_t_rows := n_a2_rows) (t_elements := q16_3.1) (t_rowCount := a2_rowCount) (t_firstRows_a := q16_3.2) (t_rows_a := a2_rows_a) (a1 := 16) (sz := H.size) (res := q22_4) (hf := hc)) w_135 w_136 w_137 w_107 w_138 (by decide +kernel) rfl rfl ⟨Nat.le_of_ble_eq_true rfl, Nat.le_of_ble_eq_true rfl⟩ hP hD hS hA [0, 1, 3] [2] rfl rfl (by decide) (by decide) (by decide) (ci := 4) 0 rfl rfl hl.1 rfl rfl (lv_room (Nat.le_of_ble_eq_true rfl)) d_TextReader_takesElement_22 ⟨Nat.le_of_ble_eq_true rfl, Nat.le_of_ble_eq_true rfl⟩ (fun o ws' H locs hp hP hD hS => ?_)
      obtain ⟨rfl, rfl⟩ := hp
      have hP : va_P D classes [(h_a2, .inr (4, [.ref h_a2_rows, .ref h_a2_firstRows, .int q16_3.1, .int q22_4.1])), (h_a2_firstRows, .inl (cI, n_a2_firstRows, .inl q22_4.2.1)), (h_t, .inr (9, [.int t_state, .int t_direction, v_t_operation])), (h_a2_rows, .inl (cI, n_a2_rows, .inl q22_4.2.2))] H := hP.sub [1, 2, 0, 3] rfl
      have hD : va_D A [(h_a2, .inr (4, [.ref h_a2_rows, .ref h_a2_firstRows, .int q16_3.1, .int q22_4.1])), (h_a2_firstRows, .inl (cI, n_a2_firstRows, .inl q22_4.2.1)), (h_t, .inr (9, [.int t_state, .int t_direction, v_t_operation])), (h_a2_rows, .inl (cI, n_a2_rows, .inl q22_4.2.2))] := hD.sub [1, 2, 0, 3] (by decide) rfl
      refine lv_aload_n hx hb d_TextReader_takesElement_25 rfl (lv_at hl 2 rfl) ?_
      obtain ⟨q26_5, hc, hf⟩ := bindS hf
      refine mcV (n := 0) (As := []) (rest := []) (wr := [(h_a2_firstRows, .inl (cI, n_a2_firstRows, .inl q22_4.2.1)), (h_t, .inr (9, [.int t_state, .int t_direction, v_t_operation]))]) hx hb hml hown hts hK (c_March_endElement (l := l) (D := D) (cI := cI) (cB := cB) (cJ := cJ) (h_t := h_a2) (h_t_rows := h_a2_rows) (v_t_firstRows := (.ref h_a2_firstRows)) (v_t_elements := (.int q16_3.1)) (n_t_rows := n_a2_rows) (t_rowCount := q22_4.1) (t_rows_a := q22_4.2.2) (sz := H.size) (res := q26_5) (hf := hc)) w_139 w_140 w_141 w_107 w_142 (by decide +kernel) rfl rfl ⟨Nat.le_of_ble_eq_true rfl, Nat.le_of_ble_eq_true rfl⟩ hP hD hS hA [0, 3] [1, 2] rfl rfl (by decide) (by decide) (by decide) (ci := 4) 0 rfl rfl hl.1 rfl rfl (lv_room (Nat.le_of_ble_eq_true rfl)) d_TextReader_takesElement_26 ⟨Nat.le_of_ble_eq_true rfl, Nat.le_of_ble_eq_true rfl⟩ (fun o ws' H locs hp hP hD hS => ?_)
      obtain ⟨rfl, rfl⟩ := hp
      have hP : va_P D classes [(h_a2, .inr (4, [.ref h_a2_rows, .ref h_a2_firstRows, .int q16_3.1, .int q22_4.1])), (h_a2_firstRows, .inl (cI, n_a2_firstRows, .inl q22_4.2.1)), (h_t, .inr (9, [.int t_state, .int t_direction, v_t_operation])), (h_a2_rows, .inl (cI, n_a2_rows, .inl q26_5))] H := hP.sub [2, 0, 1, 3] rfl
      have hD : va_D A [(h_a2, .inr (4, [.ref h_a2_rows, .ref h_a2_firstRows, .int q16_3.1, .int q22_4.1])), (h_a2_firstRows, .inl (cI, n_a2_firstRows, .inl q22_4.2.1)), (h_t, .inr (9, [.int t_state, .int t_direction, v_t_operation])), (h_a2_rows, .inl (cI, n_a2_rows, .inl q26_5))] := hD.sub [2, 0, 1, 3] (by decide) rfl
      refine lv_aload_n hx hb d_TextReader_takesElement_29 rfl (lv_at hl 0 rfl) ?_
      refine lv_iconst (v := 1) hx hb d_TextReader_takesElement_30 (by decide) ?_
      refine va_put (D := D) (ci := 9) (v := .int 1) (ty := .int) (C := R_TextReader) (T := F_TextReader) (N := 3) hx hb hts i_TextReader t_TextReader t_TextReader_ok n_TextReader hown hK.1 hP hD hS 2 rfl rfl 0 (by decide) (hts _ w_134) (fun _ h9 => h9) rfl (t_TextReader_ok 0 (by decide)) rfl rfl (Nat.le_of_ble_eq_true rfl) d_TextReader_takesElement_31 (fun H locs hP hD hS => ?_)
      have hP : va_P D classes [(h_a2, .inr (4, [.ref h_a2_rows, .ref h_a2_firstRows, .int q16_3.1, .int q22_4.1])), (h_a2_firstRows, .inl (cI, n_a2_firstRows, .inl q22_4.2.1)), (h_t, .inr (9, [.int 1, .int t_direction, v_t_operation])), (h_a2_rows, .inl (cI, n_a2_rows, .inl q26_5))] H := hP
      have hD : va_D A [(h_a2, .inr (4, [.ref h_a2_rows, .ref h_a2_firstRows, .int q16_3.1, .int q22_4.1])), (h_a2_firstRows, .inl (cI, n_a2_firstRows, .inl q22_4.2.1)), (h_t, .inr (9, [.int 1, .int t_direction, v_t_operation])), (h_a2_rows, .inl (cI, n_a2_rows, .inl q26_5))] := hD
      refine lv_iconst (v := 1) hx hb d_TextReader_takesElement_34 (by decide) ?_
      obtain rfl := Option.some.inj hf
      exact ret_z hx hb hr rfl hlocks hP hD hS ⟨rfl, rfl⟩ d_TextReader_takesElement_35
  · have hf := ifT cc4 hf
    refine lv_iconst (v := 0) hx hb d_TextReader_takesElement_7 (by decide) ?_
    obtain rfl := Option.some.inj hf
    exact ret_z hx hb hr rfl hlocks hP hD hS ⟨rfl, rfl⟩ d_TextReader_takesElement_8
def f_TextReader_takesOperation_12 (n_a2_firstRows : Nat) (a2_elements : Int32) (a2_rowCount : Int32) (a2_firstRows_a : Nat → Int32) (t_state : Int32) (t_operation : Int32) (x1 : Int32) : Option (Int32 × Int32 × Int32) :=
  (Option.bind (f_March_hasRoomForOperation n_a2_firstRows a2_elements a2_rowCount a2_firstRows_a) fun q13_1 =>
  (if q13_1 = 0 then
    some (0, t_state, t_operation)
  else
    (if x1 = 114 then
      some (1, 4, 2)
    else
      some (1, 4, 0))))
def f_TextReader_takesOperation (n_a2_firstRows : Nat) (a2_elements : Int32) (a2_rowCount : Int32) (a2_firstRows_a : Nat → Int32) (t_state : Int32) (t_operation : Int32) (a1 : Int32) : Option (Int32 × Int32 × Int32) :=
  (if a1 = 119 then
    (f_TextReader_takesOperation_12 n_a2_firstRows a2_elements a2_rowCount a2_firstRows_a t_state t_operation a1)
  else
    (if a1 = 114 then
      (f_TextReader_takesOperation_12 n_a2_firstRows a2_elements a2_rowCount a2_firstRows_a t_state t_operation a1)
    else
      some (0, t_state, t_operation)))
def post_TextReader_takesOperation (h_t h_a2 h_a2_firstRows : Nat) (v_a2_rows v_t_direction : Value) (n_a2_firstRows : Nat) (a2_elements : Int32) (a2_rowCount : Int32) (a2_firstRows_a : Nat → Int32) (cI cB cJ : ClassId) (res : Int32 × Int32 × Int32) : Option Value → va_W → Prop := fun o ws' => o = some (.int res.1) ∧ ws' = [(h_a2, .inr (4, [v_a2_rows, .ref h_a2_firstRows, .int a2_elements, .int a2_rowCount])), (h_a2_firstRows, .inl (cI, n_a2_firstRows, .inl a2_firstRows_a)), (h_t, .inr (9, [.int res.2.1, v_t_direction, .int res.2.2]))]
abbrev rm_TextReader_takesOperation : Room := { frames := 1, cells := 0, slots := 0, locals := 20 }
set_option maxHeartbeats 4000000 in
set_option maxRecDepth 100000 in
theorem k_TextReader_takesOperation_12 {p : Program} {l : Launch} {e : Env} {s : State} {m : MethodId} {args : Array Value} {below : List Frame} {meth : Method} {c : Code} {D : va_G} {cI cB cJ : ClassId} {A : Nat → Prop} (C0 : CX p s m args meth c D [(cI, .int), (cB, .byte), (cJ, .long)] R_TextReader b_TextReader_takesOperation 3 (some .boolean) "takesOperation") (hA : ∀ q, s.heap.size ≤ q → A q) {h_t h_a2 h_a2_firstRows : Nat} {v_a2_rows v_t_direction : Value} {res : Int32 × Int32 × Int32} {n_a2_firstRows : Nat} {a2_elements : Int32} {a2_rowCount : Int32} {a2_firstRows_a : Nat → Int32} {t_state : Int32} {t_operation : Int32} {x1 : Int32}
    (hf : f_TextReader_takesOperation_12 n_a2_firstRows a2_elements a2_rowCount a2_firstRows_a t_state t_operation x1 = some res) {H : Heap} {locs : List Loc} {ls : Array Slot} (hP : va_P D classes [(h_a2, .inr (4, [v_a2_rows, .ref h_a2_firstRows, .int a2_elements, .int a2_rowCount])), (h_a2_firstRows, .inl (cI, n_a2_firstRows, .inl a2_firstRows_a)), (h_t, .inr (9, [.int t_state, v_t_direction, .int t_operation]))] H) (hD : va_D A [(h_a2, .inr (4, [v_a2_rows, .ref h_a2_firstRows, .int a2_elements, .int a2_rowCount])), (h_a2_firstRows, .inl (cI, n_a2_firstRows, .inl a2_firstRows_a)), (h_t, .inr (9, [.int t_state, v_t_direction, .int t_operation]))]) (hS : va_S A s.heap H locs) (hl : lv_has ls 3 [(0, .ref h_t), (1, .int x1), (2, .ref h_a2)]) : W p l e rm_TextReader_takesOperation s m args below meth c H locs 0 0 (MQ below (QW D (post_TextReader_takesOperation h_t h_a2 h_a2_firstRows v_a2_rows v_t_direction n_a2_firstRows a2_elements a2_rowCount a2_firstRows_a cI cB cJ res) A) args s 0 0 A) (F0 m 12 ls []) := by
  obtain ⟨hx, hb, hml, hr, hlocks, hts, hown, hK, hin⟩ := id C0
  have hf : (((
  (Option.bind (f_March_hasRoomForOperation n_a2_firstRows a2_elements a2_rowCount a2_firstRows_a) fun q13_1 =>
  (if q13_1 = 0 then
    some (0, t_state, t_operation)
  else
    (if x1 = 114 then
      some (1, 4, 2)
    else
      some (1, 4, 0)))))) : Option (Int32 × Int32 × Int32)) = some res := hf
  refine lv_aload_n hx hb d_TextReader_takesOperation_12 rfl (lv_at hl 2 rfl) ?_
  obtain ⟨q13_1, hc, hf⟩ := bindS hf
  refine mcV (n := 0) (As := []) (rest := []) (wr := [(h_t, .inr (9, [.int t_state, v_t_direction, .int t_operation]))]) hx hb hml hown hts hK (c_March_hasRoomForOperation (l := l) (D := D) (cI := cI) (cB := cB) (cJ := cJ) (h_t := h_a2) (h_t_firstRows := h_a2_firstRows) (v_t_rows := v_a2_rows) (n_t_firstRows := n_a2_firstRows) (t_elements := a2_elements) (t_rowCount := a2_rowCount) (t_firstRows_a := a2_firstRows_a) (sz := H.size) (res := q13_1) (hf := hc)) w_143 w_125 w_126 w_107 w_127 (by decide +kernel) rfl rfl ⟨Nat.le_of_ble_eq_true rfl, Nat.le_of_ble_eq_true rfl⟩ hP hD hS hA [0, 1] [2] rfl rfl (by decide) (by decide) (by decide) (ci := 4) 0 rfl rfl hl.1 rfl rfl (lv_room (Nat.le_of_ble_eq_true rfl)) d_TextReader_takesOperation_13 ⟨Nat.le_of_ble_eq_true rfl, Nat.le_of_ble_eq_true rfl⟩ (fun o ws' H locs hp hP hD hS => ?_)
  obtain ⟨rfl, rfl⟩ := hp
  have hP : va_P D classes [(h_a2, .inr (4, [v_a2_rows, .ref h_a2_firstRows, .int a2_elements, .int a2_rowCount])), (h_a2_firstRows, .inl (cI, n_a2_firstRows, .inl a2_firstRows_a)), (h_t, .inr (9, [.int t_state, v_t_direction, .int t_operation]))] H := hP.sub [1, 2, 0] rfl
  have hD : va_D A [(h_a2, .inr (4, [v_a2_rows, .ref h_a2_firstRows, .int a2_elements, .int a2_rowCount])), (h_a2_firstRows, .inl (cI, n_a2_firstRows, .inl a2_firstRows_a)), (h_t, .inr (9, [.int t_state, v_t_direction, .int t_operation]))] := hD.sub [1, 2, 0] (by decide) rfl
  refine lv_if_ne (tgt := 21) hx hb d_TextReader_takesOperation_16 (by decide) (fun cc16 => ?_) (fun cc16 => ?_)
  · have hf := ifF cc16 hf
    refine lv_aload_n hx hb d_TextReader_takesOperation_21 rfl (lv_at hl 0 rfl) ?_
    refine lv_iload_n hx hb d_TextReader_takesOperation_22 rfl (lv_at hl 1 rfl) ?_
    refine lv_bipush (v := 114) hx hb d_TextReader_takesOperation_23 (by decide) ?_
    refine lv_icmp_ne (tgt := 32) hx hb d_TextReader_takesOperation_25 (by decide) (fun cc25 => ?_) (fun cc25 => ?_)
    · have hf := ifF cc25 hf
      refine lv_iconst (v := 0) hx hb d_TextReader_takesOperation_32 (by decide) ?_
      refine va_put (D := D) (ci := 9) (v := .int 0) (ty := .int) (C := R_TextReader) (T := F_TextReader) (N := 3) hx hb hts i_TextReader t_TextReader t_TextReader_ok n_TextReader hown hK.1 hP hD hS 2 rfl rfl 2 (by decide) (hts _ w_144) (fun _ h9 => h9) rfl (t_TextReader_ok 2 (by decide)) rfl rfl (Nat.le_of_ble_eq_true rfl) d_TextReader_takesOperation_33 (fun H locs hP hD hS => ?_)
      have hP : va_P D classes [(h_a2, .inr (4, [v_a2_rows, .ref h_a2_firstRows, .int a2_elements, .int a2_rowCount])), (h_a2_firstRows, .inl (cI, n_a2_firstRows, .inl a2_firstRows_a)), (h_t, .inr (9, [.int t_state, v_t_direction, .int 0]))] H := hP
      have hD : va_D A [(h_a2, .inr (4, [v_a2_rows, .ref h_a2_firstRows, .int a2_elements, .int a2_rowCount])), (h_a2_firstRows, .inl (cI, n_a2_firstRows, .inl a2_firstRows_a)), (h_t, .inr (9, [.int t_state, v_t_direction, .int 0]))] := hD
      refine lv_aload_n hx hb d_TextReader_takesOperation_36 rfl (lv_at hl 0 rfl) ?_
      refine lv_iconst (v := 4) hx hb d_TextReader_takesOperation_37 (by decide) ?_
      refine va_put (D := D) (ci := 9) (v := .int 4) (ty := .int) (C := R_TextReader) (T := F_TextReader) (N := 3) hx hb hts i_TextReader t_TextReader t_TextReader_ok n_TextReader hown hK.1 hP hD hS 2 rfl rfl 0 (by decide) (hts _ w_134) (fun _ h9 => h9) rfl (t_TextReader_ok 0 (by decide)) rfl rfl (Nat.le_of_ble_eq_true rfl) d_TextReader_takesOperation_38 (fun H locs hP hD hS => ?_)
      have hP : va_P D classes [(h_a2, .inr (4, [v_a2_rows, .ref h_a2_firstRows, .int a2_elements, .int a2_rowCount])), (h_a2_firstRows, .inl (cI, n_a2_firstRows, .inl a2_firstRows_a)), (h_t, .inr (9, [.int 4, v_t_direction, .int 0]))] H := hP
      have hD : va_D A [(h_a2, .inr (4, [v_a2_rows, .ref h_a2_firstRows, .int a2_elements, .int a2_rowCount])), (h_a2_firstRows, .inl (cI, n_a2_firstRows, .inl a2_firstRows_a)), (h_t, .inr (9, [.int 4, v_t_direction, .int 0]))] := hD
      refine lv_iconst (v := 1) hx hb d_TextReader_takesOperation_41 (by decide) ?_
      obtain rfl := Option.some.inj hf
      exact ret_z hx hb hr rfl hlocks hP hD hS ⟨rfl, rfl⟩ d_TextReader_takesOperation_42
    · have hf := ifT cc25 hf
      refine lv_iconst (v := 2) hx hb d_TextReader_takesOperation_28 (by decide) ?_
      refine lv_goto (tgt := 33) hx hb d_TextReader_takesOperation_29 (by decide) ?_
      refine va_put (D := D) (ci := 9) (v := .int 2) (ty := .int) (C := R_TextReader) (T := F_TextReader) (N := 3) hx hb hts i_TextReader t_TextReader t_TextReader_ok n_TextReader hown hK.1 hP hD hS 2 rfl rfl 2 (by decide) (hts _ w_144) (fun _ h9 => h9) rfl (t_TextReader_ok 2 (by decide)) rfl rfl (Nat.le_of_ble_eq_true rfl) d_TextReader_takesOperation_33 (fun H locs hP hD hS => ?_)
      have hP : va_P D classes [(h_a2, .inr (4, [v_a2_rows, .ref h_a2_firstRows, .int a2_elements, .int a2_rowCount])), (h_a2_firstRows, .inl (cI, n_a2_firstRows, .inl a2_firstRows_a)), (h_t, .inr (9, [.int t_state, v_t_direction, .int 2]))] H := hP
      have hD : va_D A [(h_a2, .inr (4, [v_a2_rows, .ref h_a2_firstRows, .int a2_elements, .int a2_rowCount])), (h_a2_firstRows, .inl (cI, n_a2_firstRows, .inl a2_firstRows_a)), (h_t, .inr (9, [.int t_state, v_t_direction, .int 2]))] := hD
      refine lv_aload_n hx hb d_TextReader_takesOperation_36 rfl (lv_at hl 0 rfl) ?_
      refine lv_iconst (v := 4) hx hb d_TextReader_takesOperation_37 (by decide) ?_
      refine va_put (D := D) (ci := 9) (v := .int 4) (ty := .int) (C := R_TextReader) (T := F_TextReader) (N := 3) hx hb hts i_TextReader t_TextReader t_TextReader_ok n_TextReader hown hK.1 hP hD hS 2 rfl rfl 0 (by decide) (hts _ w_134) (fun _ h9 => h9) rfl (t_TextReader_ok 0 (by decide)) rfl rfl (Nat.le_of_ble_eq_true rfl) d_TextReader_takesOperation_38 (fun H locs hP hD hS => ?_)
      have hP : va_P D classes [(h_a2, .inr (4, [v_a2_rows, .ref h_a2_firstRows, .int a2_elements, .int a2_rowCount])), (h_a2_firstRows, .inl (cI, n_a2_firstRows, .inl a2_firstRows_a)), (h_t, .inr (9, [.int 4, v_t_direction, .int 2]))] H := hP
      have hD : va_D A [(h_a2, .inr (4, [v_a2_rows, .ref h_a2_firstRows, .int a2_elements, .int a2_rowCount])), (h_a2_firstRows, .inl (cI, n_a2_firstRows, .inl a2_firstRows_a)), (h_t, .inr (9, [.int 4, v_t_direction, .int 2]))] := hD
      refine lv_iconst (v := 1) hx hb d_TextReader_takesOperation_41 (by decide) ?_
      obtain rfl := Option.some.inj hf
      exact ret_z hx hb hr rfl hlocks hP hD hS ⟨rfl, rfl⟩ d_TextReader_takesOperation_42
  · have hf := ifT cc16 hf
    refine lv_iconst (v := 0) hx hb d_TextReader_takesOperation_19 (by decide) ?_
    obtain rfl := Option.some.inj hf
    exact ret_z hx hb hr rfl hlocks hP hD hS ⟨rfl, rfl⟩ d_TextReader_takesOperation_20
set_option maxHeartbeats 4000000 in
set_option maxRecDepth 100000 in
theorem c_TextReader_takesOperation (l : Launch) (D : va_G) (cI cB cJ : ClassId) (h_t h_a2 h_a2_firstRows : Nat) (v_a2_rows v_t_direction : Value) (n_a2_firstRows : Nat) (a2_elements : Int32) (a2_rowCount : Int32) (a2_firstRows_a : Nat → Int32) (t_state : Int32) (t_operation : Int32) (a1 : Int32) (sz : Nat) (res : Int32 × Int32 × Int32) (hf : f_TextReader_takesOperation n_a2_firstRows a2_elements a2_rowCount a2_firstRows_a t_state t_operation a1 = some res) : Met l y_TextReader_takesOperation (.code y_TextReader_takesOperation b_TextReader_takesOperation 3 (some .boolean) :: TB) rm_TextReader_takesOperation (PcW D [(cI, .int), (cB, .byte), (cJ, .long)] [.ref h_t, .int a1, .ref h_a2] [(h_a2, .inr (4, [v_a2_rows, .ref h_a2_firstRows, .int a2_elements, .int a2_rowCount])), (h_a2_firstRows, .inl (cI, n_a2_firstRows, .inl a2_firstRows_a)), (h_t, .inr (9, [.int t_state, v_t_direction, .int t_operation]))] sz) (QW D (post_TextReader_takesOperation h_t h_a2 h_a2_firstRows v_a2_rows v_t_direction n_a2_firstRows a2_elements a2_rowCount a2_firstRows_a cI cB cJ res) (va_A [(h_a2, .inr (4, [v_a2_rows, .ref h_a2_firstRows, .int a2_elements, .int a2_rowCount])), (h_a2_firstRows, .inl (cI, n_a2_firstRows, .inl a2_firstRows_a)), (h_t, .inr (9, [.int t_state, v_t_direction, .int t_operation]))] sz)) 0 0 (va_A [(h_a2, .inr (4, [v_a2_rows, .ref h_a2_firstRows, .int a2_elements, .int a2_rowCount])), (h_a2_firstRows, .inl (cI, n_a2_firstRows, .inl a2_firstRows_a)), (h_t, .inr (9, [.int t_state, v_t_direction, .int t_operation]))] sz) := by
  refine entW ⟨by decide +kernel, rfl⟩ fun p e s m below meth c C0 hP hD hsz ls hl => ?_
  subst hsz
  generalize hAe : va_A [(h_a2, .inr (4, [v_a2_rows, .ref h_a2_firstRows, .int a2_elements, .int a2_rowCount])), (h_a2_firstRows, .inl (cI, n_a2_firstRows, .inl a2_firstRows_a)), (h_t, .inr (9, [.int t_state, v_t_direction, .int t_operation]))] s.heap.size = A at hD ⊢
  have hA : ∀ q : Nat, s.heap.size ≤ q → A q := fun q h => by rw [← hAe]; exact Or.inr h
  clear hAe
  have hS : va_S A s.heap s.heap [] := va_S.rf
  have hl : lv_has ls 3 [(0, .ref h_t), (1, .int a1), (2, .ref h_a2)] := hl
  obtain ⟨hx, hb, hml, hr, hlocks, hts, hown, hK, hin⟩ := id C0
  have hf : (((
  (if a1 = 119 then
    (f_TextReader_takesOperation_12 n_a2_firstRows a2_elements a2_rowCount a2_firstRows_a t_state t_operation a1)
  else
    (if a1 = 114 then
      (f_TextReader_takesOperation_12 n_a2_firstRows a2_elements a2_rowCount a2_firstRows_a t_state t_operation a1)
    else
      some (0, t_state, t_operation))))) : Option (Int32 × Int32 × Int32)) = some res := hf
  obtain ⟨H, hH⟩ : ∃ H, H = s.heap := ⟨_, rfl⟩
  obtain ⟨locs, hlo⟩ : ∃ x : List Loc, x = [] := ⟨_, rfl⟩
  rw [← hlo] at hS ⊢
  have hP : va_P D classes [(h_a2, .inr (4, [v_a2_rows, .ref h_a2_firstRows, .int a2_elements, .int a2_rowCount])), (h_a2_firstRows, .inl (cI, n_a2_firstRows, .inl a2_firstRows_a)), (h_t, .inr (9, [.int t_state, v_t_direction, .int t_operation]))] H := by rw [hH]; exact hP
  have hS : va_S A s.heap H locs := by rw [hH]; exact hS
  show W p l e rm_TextReader_takesOperation s m _ below meth c s.heap locs 0 0 (MQ below (QW D (post_TextReader_takesOperation h_t h_a2 h_a2_firstRows v_a2_rows v_t_direction n_a2_firstRows a2_elements a2_rowCount a2_firstRows_a cI cB cJ res) A) _ s 0 0 A) (F0 m 0 ls [])
  refine wheap hH ?_
  clear hH hlo
  refine lv_iload_n hx hb d_TextReader_takesOperation_0 rfl (lv_at hl 1 rfl) ?_
  refine lv_bipush (v := 119) hx hb d_TextReader_takesOperation_1 (by decide) ?_
  refine lv_icmp_eq (tgt := 12) hx hb d_TextReader_takesOperation_3 (by decide) (fun cc3 => ?_) (fun cc3 => ?_)
  · have hf := ifT cc3 hf
    exact k_TextReader_takesOperation_12 (s := s) C0 hA hf hP hD hS (lv_sub hl [0, 1, 2] rfl)
  · have hf := ifF cc3 hf
    refine lv_iload_n hx hb d_TextReader_takesOperation_6 rfl (lv_at hl 1 rfl) ?_
    refine lv_bipush (v := 114) hx hb d_TextReader_takesOperation_7 (by decide) ?_
    refine lv_icmp_ne (tgt := 19) hx hb d_TextReader_takesOperation_9 (by decide) (fun cc9 => ?_) (fun cc9 => ?_)
    · have hf := ifF cc9 hf
      refine lv_iconst (v := 0) hx hb d_TextReader_takesOperation_19 (by decide) ?_
      obtain rfl := Option.some.inj hf
      exact ret_z hx hb hr rfl hlocks hP hD hS ⟨rfl, rfl⟩ d_TextReader_takesOperation_20
    · have hf := ifT cc9 hf
      exact k_TextReader_takesOperation_12 (s := s) C0 hA hf hP hD hS (lv_sub hl [0, 1, 2] rfl)
def f_TextReader_takesValue_25 (n_a2_firstRows : Nat) (n_a2_rows : Nat) (t_direction : Int32) (t_operation : Int32) (a2_elements : Int32) (a2_rowCount : Int32) (a2_firstRows_a : Nat → Int32) (a2_rows_a : Nat → Int32) (s0 : Int32) : Option (Int32 × Int32 × Int32 × (Nat → Int32) × (Nat → Int32)) :=
  (Option.bind (f_March_addRow n_a2_firstRows n_a2_rows a2_elements a2_rowCount a2_firstRows_a a2_rows_a ((t_direction ||| t_operation) ||| s0)) fun q38_1 =>
  some (1, 5, q38_1.1, q38_1.2.1, q38_1.2.2))
def f_TextReader_takesValue_14 (n_a2_firstRows : Nat) (n_a2_rows : Nat) (t_direction : Int32) (t_operation : Int32) (a2_elements : Int32) (a2_rowCount : Int32) (a2_firstRows_a : Nat → Int32) (a2_rows_a : Nat → Int32) (x1 : Int32) : Option (Int32 × Int32 × Int32 × (Nat → Int32) × (Nat → Int32)) :=
  (if x1 = 49 then
    (f_TextReader_takesValue_25 n_a2_firstRows n_a2_rows t_direction t_operation a2_elements a2_rowCount a2_firstRows_a a2_rows_a 4)
  else
    (f_TextReader_takesValue_25 n_a2_firstRows n_a2_rows t_direction t_operation a2_elements a2_rowCount a2_firstRows_a a2_rows_a 0))
def f_TextReader_takesValue (n_a2_firstRows : Nat) (n_a2_rows : Nat) (t_state : Int32) (t_direction : Int32) (t_operation : Int32) (a2_elements : Int32) (a2_rowCount : Int32) (a2_firstRows_a : Nat → Int32) (a2_rows_a : Nat → Int32) (a1 : Int32) : Option (Int32 × Int32 × Int32 × (Nat → Int32) × (Nat → Int32)) :=
  (if a1 = 48 then
    (f_TextReader_takesValue_14 n_a2_firstRows n_a2_rows t_direction t_operation a2_elements a2_rowCount a2_firstRows_a a2_rows_a a1)
  else
    (if a1 = 49 then
      (f_TextReader_takesValue_14 n_a2_firstRows n_a2_rows t_direction t_operation a2_elements a2_rowCount a2_firstRows_a a2_rows_a a1)
    else
      some (0, t_state, a2_rowCount, a2_firstRows_a, a2_rows_a)))
def post_TextReader_takesValue (h_t h_a2 h_a2_firstRows h_a2_rows : Nat) (n_a2_firstRows : Nat) (n_a2_rows : Nat) (t_direction : Int32) (t_operation : Int32) (a2_elements : Int32) (cI cB cJ : ClassId) (res : Int32 × Int32 × Int32 × (Nat → Int32) × (Nat → Int32)) : Option Value → va_W → Prop := fun o ws' => o = some (.int res.1) ∧ ws' = [(h_t, .inr (9, [.int res.2.1, .int t_direction, .int t_operation])), (h_a2, .inr (4, [.ref h_a2_rows, .ref h_a2_firstRows, .int a2_elements, .int res.2.2.1])), (h_a2_firstRows, .inl (cI, n_a2_firstRows, .inl res.2.2.2.1)), (h_a2_rows, .inl (cI, n_a2_rows, .inl res.2.2.2.2))]
abbrev rm_TextReader_takesValue : Room := { frames := 2, cells := 0, slots := 0, locals := 41 }
set_option maxHeartbeats 4000000 in
set_option maxRecDepth 100000 in
theorem k_TextReader_takesValue_25 {p : Program} {l : Launch} {e : Env} {s : State} {m : MethodId} {args : Array Value} {below : List Frame} {meth : Method} {c : Code} {D : va_G} {cI cB cJ : ClassId} {A : Nat → Prop} (C0 : CX p s m args meth c D [(cI, .int), (cB, .byte), (cJ, .long)] R_TextReader b_TextReader_takesValue 4 (some .boolean) "takesValue") (hA : ∀ q, s.heap.size ≤ q → A q) {h_t h_a2 h_a2_firstRows h_a2_rows : Nat} {res : Int32 × Int32 × Int32 × (Nat → Int32) × (Nat → Int32)} {n_a2_firstRows : Nat} {n_a2_rows : Nat} {t_state : Int32} {t_direction : Int32} {t_operation : Int32} {a2_elements : Int32} {a2_rowCount : Int32} {a2_firstRows_a : Nat → Int32} {a2_rows_a : Nat → Int32} {s0 : Int32}
    (hf : f_TextReader_takesValue_25 n_a2_firstRows n_a2_rows t_direction t_operation a2_elements a2_rowCount a2_firstRows_a a2_rows_a s0 = some res) {H : Heap} {locs : List Loc} {ls : Array Slot} (hP : va_P D classes [(h_t, .inr (9, [.int t_state, .int t_direction, .int t_operation])), (h_a2, .inr (4, [.ref h_a2_rows, .ref h_a2_firstRows, .int a2_elements, .int a2_rowCount])), (h_a2_firstRows, .inl (cI, n_a2_firstRows, .inl a2_firstRows_a)), (h_a2_rows, .inl (cI, n_a2_rows, .inl a2_rows_a))] H) (hD : va_D A [(h_t, .inr (9, [.int t_state, .int t_direction, .int t_operation])), (h_a2, .inr (4, [.ref h_a2_rows, .ref h_a2_firstRows, .int a2_elements, .int a2_rowCount])), (h_a2_firstRows, .inl (cI, n_a2_firstRows, .inl a2_firstRows_a)), (h_a2_rows, .inl (cI, n_a2_rows, .inl a2_rows_a))]) (hS : va_S A s.heap H locs) (hl : lv_has ls 4 [(0, .ref h_t), (2, .ref h_a2)]) : W p l e rm_TextReader_takesValue s m args below meth c H locs 0 0 (MQ below (QW D (post_TextReader_takesValue h_t h_a2 h_a2_firstRows h_a2_rows n_a2_firstRows n_a2_rows t_direction t_operation a2_elements cI cB cJ res) A) args s 0 0 A) (F0 m 25 ls [.int s0]) := by
  obtain ⟨hx, hb, hml, hr, hlocks, hts, hown, hK, hin⟩ := id C0
  have hf : (((
  (Option.bind (f_March_addRow n_a2_firstRows n_a2_rows a2_elements a2_rowCount a2_firstRows_a a2_rows_a ((t_direction ||| t_operation) ||| s0)) fun q38_1 =>
  some (1, 5, q38_1.1, q38_1.2.1, q38_1.2.2)))) : Option (Int32 × Int32 × Int32 × (Nat → Int32) × (Nat → Int32))) = some res := hf
  refine lv_istore_n (lv' := [(3, .int s0), (0, .ref h_t), (2, .ref h_a2)]) hx hb d_TextReader_takesValue_25 rfl hl (by decide) rfl (fun ls hl => ?_)
  refine lv_aload_n hx hb d_TextReader_takesValue_26 rfl (lv_at hl 2 rfl) ?_
  refine lv_aload_n hx hb d_TextReader_takesValue_27 rfl (lv_at hl 1 rfl) ?_
  refine va_get (D := D) (ci := 9) (v := .int t_direction) (C := R_TextReader) (T := F_TextReader) (N := 3) hx hb hts i_TextReader hown hK.1 hP 0 rfl rfl 1 (by decide) (hts _ w_133) (fun _ h9 => h9) rfl d_TextReader_takesValue_28 ?_
  refine lv_aload_n hx hb d_TextReader_takesValue_31 rfl (lv_at hl 1 rfl) ?_
  refine va_get (D := D) (ci := 9) (v := .int t_operation) (C := R_TextReader) (T := F_TextReader) (N := 3) hx hb hts i_TextReader hown hK.1 hP 0 rfl rfl 2 (by decide) (hts _ w_144) (fun _ h9 => h9) rfl d_TextReader_takesValue_32 ?_
  refine lv_ior hx hb d_TextReader_takesValue_35 ?_
  refine lv_iload_n hx hb d_TextReader_takesValue_36 rfl (lv_at hl 0 rfl) ?_
  refine lv_ior hx hb d_TextReader_takesValue_37 ?_
  obtain ⟨q38_1, hc, hf⟩ := bindS hf
  refine mcV (n := 1) (As := [.int ((t_direction ||| t_operation) ||| s0)]) (rest := []) (wr := [(h_t, .inr (9, [.int t_state, .int t_direction, .int t_operation]))]) hx hb hml hown hts hK (c_March_addRow (l := l) (D := D) (cI := cI) (cB := cB) (cJ := cJ) (h_t := h_a2) (h_t_firstRows := h_a2_firstRows) (h_t_rows := h_a2_rows) (n_t_firstRows := n_a2_firstRows) (n_t_rows := n_a2_rows) (t_elements := a2_elements) (t_rowCount := a2_rowCount) (t_firstRows_a := a2_firstRows_a) (t_rows_a := a2_rows_a) (a1 := ((t_direction ||| t_operation) ||| s0)) (sz := H.size) (res := q38_1) (hf := hc)) w_135 w_136 w_137 w_107 w_138 (by decide +kernel) rfl rfl ⟨Nat.le_of_ble_eq_true rfl, Nat.le_of_ble_eq_true rfl⟩ hP hD hS hA [1, 2, 3] [0] rfl rfl (by decide) (by decide) (by decide) (ci := 4) 0 rfl rfl hl.1 rfl rfl (lv_room (Nat.le_of_ble_eq_true rfl)) d_TextReader_takesValue_38 ⟨Nat.le_of_ble_eq_true rfl, Nat.le_of_ble_eq_true rfl⟩ (fun o ws' H locs hp hP hD hS => ?_)
  obtain ⟨rfl, rfl⟩ := hp
  have hP : va_P D classes [(h_t, .inr (9, [.int t_state, .int t_direction, .int t_operation])), (h_a2, .inr (4, [.ref h_a2_rows, .ref h_a2_firstRows, .int a2_elements, .int q38_1.1])), (h_a2_firstRows, .inl (cI, n_a2_firstRows, .inl q38_1.2.1)), (h_a2_rows, .inl (cI, n_a2_rows, .inl q38_1.2.2))] H := hP.sub [0, 1, 2, 3] rfl
  have hD : va_D A [(h_t, .inr (9, [.int t_state, .int t_direction, .int t_operation])), (h_a2, .inr (4, [.ref h_a2_rows, .ref h_a2_firstRows, .int a2_elements, .int q38_1.1])), (h_a2_firstRows, .inl (cI, n_a2_firstRows, .inl q38_1.2.1)), (h_a2_rows, .inl (cI, n_a2_rows, .inl q38_1.2.2))] := hD.sub [0, 1, 2, 3] (by decide) rfl
  refine lv_aload_n hx hb d_TextReader_takesValue_41 rfl (lv_at hl 1 rfl) ?_
  refine lv_iconst (v := 5) hx hb d_TextReader_takesValue_42 (by decide) ?_
  refine va_put (D := D) (ci := 9) (v := .int 5) (ty := .int) (C := R_TextReader) (T := F_TextReader) (N := 3) hx hb hts i_TextReader t_TextReader t_TextReader_ok n_TextReader hown hK.1 hP hD hS 0 rfl rfl 0 (by decide) (hts _ w_134) (fun _ h9 => h9) rfl (t_TextReader_ok 0 (by decide)) rfl rfl (Nat.le_of_ble_eq_true rfl) d_TextReader_takesValue_43 (fun H locs hP hD hS => ?_)
  have hP : va_P D classes [(h_t, .inr (9, [.int 5, .int t_direction, .int t_operation])), (h_a2, .inr (4, [.ref h_a2_rows, .ref h_a2_firstRows, .int a2_elements, .int q38_1.1])), (h_a2_firstRows, .inl (cI, n_a2_firstRows, .inl q38_1.2.1)), (h_a2_rows, .inl (cI, n_a2_rows, .inl q38_1.2.2))] H := hP
  have hD : va_D A [(h_t, .inr (9, [.int 5, .int t_direction, .int t_operation])), (h_a2, .inr (4, [.ref h_a2_rows, .ref h_a2_firstRows, .int a2_elements, .int q38_1.1])), (h_a2_firstRows, .inl (cI, n_a2_firstRows, .inl q38_1.2.1)), (h_a2_rows, .inl (cI, n_a2_rows, .inl q38_1.2.2))] := hD
  refine lv_iconst (v := 1) hx hb d_TextReader_takesValue_46 (by decide) ?_
  obtain rfl := Option.some.inj hf
  exact ret_z hx hb hr rfl hlocks hP hD hS ⟨rfl, rfl⟩ d_TextReader_takesValue_47
set_option maxHeartbeats 4000000 in
set_option maxRecDepth 100000 in
theorem k_TextReader_takesValue_14 {p : Program} {l : Launch} {e : Env} {s : State} {m : MethodId} {args : Array Value} {below : List Frame} {meth : Method} {c : Code} {D : va_G} {cI cB cJ : ClassId} {A : Nat → Prop} (C0 : CX p s m args meth c D [(cI, .int), (cB, .byte), (cJ, .long)] R_TextReader b_TextReader_takesValue 4 (some .boolean) "takesValue") (hA : ∀ q, s.heap.size ≤ q → A q) {h_t h_a2 h_a2_firstRows h_a2_rows : Nat} {res : Int32 × Int32 × Int32 × (Nat → Int32) × (Nat → Int32)} {n_a2_firstRows : Nat} {n_a2_rows : Nat} {t_state : Int32} {t_direction : Int32} {t_operation : Int32} {a2_elements : Int32} {a2_rowCount : Int32} {a2_firstRows_a : Nat → Int32} {a2_rows_a : Nat → Int32} {x1 : Int32}
    (hf : f_TextReader_takesValue_14 n_a2_firstRows n_a2_rows t_direction t_operation a2_elements a2_rowCount a2_firstRows_a a2_rows_a x1 = some res) {H : Heap} {locs : List Loc} {ls : Array Slot} (hP : va_P D classes [(h_t, .inr (9, [.int t_state, .int t_direction, .int t_operation])), (h_a2, .inr (4, [.ref h_a2_rows, .ref h_a2_firstRows, .int a2_elements, .int a2_rowCount])), (h_a2_firstRows, .inl (cI, n_a2_firstRows, .inl a2_firstRows_a)), (h_a2_rows, .inl (cI, n_a2_rows, .inl a2_rows_a))] H) (hD : va_D A [(h_t, .inr (9, [.int t_state, .int t_direction, .int t_operation])), (h_a2, .inr (4, [.ref h_a2_rows, .ref h_a2_firstRows, .int a2_elements, .int a2_rowCount])), (h_a2_firstRows, .inl (cI, n_a2_firstRows, .inl a2_firstRows_a)), (h_a2_rows, .inl (cI, n_a2_rows, .inl a2_rows_a))]) (hS : va_S A s.heap H locs) (hl : lv_has ls 4 [(0, .ref h_t), (1, .int x1), (2, .ref h_a2)]) : W p l e rm_TextReader_takesValue s m args below meth c H locs 0 0 (MQ below (QW D (post_TextReader_takesValue h_t h_a2 h_a2_firstRows h_a2_rows n_a2_firstRows n_a2_rows t_direction t_operation a2_elements cI cB cJ res) A) args s 0 0 A) (F0 m 14 ls []) := by
  obtain ⟨hx, hb, hml, hr, hlocks, hts, hown, hK, hin⟩ := id C0
  have hf : (((
  (if x1 = 49 then
    (f_TextReader_takesValue_25 n_a2_firstRows n_a2_rows t_direction t_operation a2_elements a2_rowCount a2_firstRows_a a2_rows_a 4)
  else
    (f_TextReader_takesValue_25 n_a2_firstRows n_a2_rows t_direction t_operation a2_elements a2_rowCount a2_firstRows_a a2_rows_a 0)))) : Option (Int32 × Int32 × Int32 × (Nat → Int32) × (Nat → Int32))) = some res := hf
  refine lv_iload_n hx hb d_TextReader_takesValue_14 rfl (lv_at hl 1 rfl) ?_
  refine lv_bipush (v := 49) hx hb d_TextReader_takesValue_15 (by decide) ?_
  refine lv_icmp_ne (tgt := 24) hx hb d_TextReader_takesValue_17 (by decide) (fun cc17 => ?_) (fun cc17 => ?_)
  · have hf := ifF cc17 hf
    refine lv_iconst (v := 0) hx hb d_TextReader_takesValue_24 (by decide) ?_
    exact k_TextReader_takesValue_25 (s := s) C0 hA hf hP hD hS (lv_sub hl [0, 2] rfl)
  · have hf := ifT cc17 hf
    refine lv_iconst (v := 4) hx hb d_TextReader_takesValue_20 (by decide) ?_
    refine lv_goto (tgt := 25) hx hb d_TextReader_takesValue_21 (by decide) ?_
    exact k_TextReader_takesValue_25 (s := s) C0 hA hf hP hD hS (lv_sub hl [0, 2] rfl)
set_option maxHeartbeats 4000000 in
set_option maxRecDepth 100000 in
theorem c_TextReader_takesValue (l : Launch) (D : va_G) (cI cB cJ : ClassId) (h_t h_a2 h_a2_firstRows h_a2_rows : Nat)  (n_a2_firstRows : Nat) (n_a2_rows : Nat) (t_state : Int32) (t_direction : Int32) (t_operation : Int32) (a2_elements : Int32) (a2_rowCount : Int32) (a2_firstRows_a : Nat → Int32) (a2_rows_a : Nat → Int32) (a1 : Int32) (sz : Nat) (res : Int32 × Int32 × Int32 × (Nat → Int32) × (Nat → Int32)) (hf : f_TextReader_takesValue n_a2_firstRows n_a2_rows t_state t_direction t_operation a2_elements a2_rowCount a2_firstRows_a a2_rows_a a1 = some res) : Met l y_TextReader_takesValue (.code y_TextReader_takesValue b_TextReader_takesValue 4 (some .boolean) :: TB) rm_TextReader_takesValue (PcW D [(cI, .int), (cB, .byte), (cJ, .long)] [.ref h_t, .int a1, .ref h_a2] [(h_t, .inr (9, [.int t_state, .int t_direction, .int t_operation])), (h_a2, .inr (4, [.ref h_a2_rows, .ref h_a2_firstRows, .int a2_elements, .int a2_rowCount])), (h_a2_firstRows, .inl (cI, n_a2_firstRows, .inl a2_firstRows_a)), (h_a2_rows, .inl (cI, n_a2_rows, .inl a2_rows_a))] sz) (QW D (post_TextReader_takesValue h_t h_a2 h_a2_firstRows h_a2_rows n_a2_firstRows n_a2_rows t_direction t_operation a2_elements cI cB cJ res) (va_A [(h_t, .inr (9, [.int t_state, .int t_direction, .int t_operation])), (h_a2, .inr (4, [.ref h_a2_rows, .ref h_a2_firstRows, .int a2_elements, .int a2_rowCount])), (h_a2_firstRows, .inl (cI, n_a2_firstRows, .inl a2_firstRows_a)), (h_a2_rows, .inl (cI, n_a2_rows, .inl a2_rows_a))] sz)) 0 0 (va_A [(h_t, .inr (9, [.int t_state, .int t_direction, .int t_operation])), (h_a2, .inr (4, [.ref h_a2_rows, .ref h_a2_firstRows, .int a2_elements, .int a2_rowCount])), (h_a2_firstRows, .inl (cI, n_a2_firstRows, .inl a2_firstRows_a)), (h_a2_rows, .inl (cI, n_a2_rows, .inl a2_rows_a))] sz) := by
  refine entW ⟨by decide +kernel, rfl⟩ fun p e s m below meth c C0 hP hD hsz ls hl => ?_
  subst hsz
  generalize hAe : va_A [(h_t, .inr (9, [.int t_state, .int t_direction, .int t_operation])), (h_a2, .inr (4, [.ref h_a2_rows, .ref h_a2_firstRows, .int a2_elements, .int a2_rowCount])), (h_a2_firstRows, .inl (cI, n_a2_firstRows, .inl a2_firstRows_a)), (h_a2_rows, .inl (cI, n_a2_rows, .inl a2_rows_a))] s.heap.size = A at hD ⊢
  have hA : ∀ q : Nat, s.heap.size ≤ q → A q := fun q h => by rw [← hAe]; exact Or.inr h
  clear hAe
  have hS : va_S A s.heap s.heap [] := va_S.rf
  have hl : lv_has ls 4 [(0, .ref h_t), (1, .int a1), (2, .ref h_a2)] := hl
  obtain ⟨hx, hb, hml, hr, hlocks, hts, hown, hK, hin⟩ := id C0
  have hf : (((
  (if a1 = 48 then
    (f_TextReader_takesValue_14 n_a2_firstRows n_a2_rows t_direction t_operation a2_elements a2_rowCount a2_firstRows_a a2_rows_a a1)
  else
    (if a1 = 49 then
      (f_TextReader_takesValue_14 n_a2_firstRows n_a2_rows t_direction t_operation a2_elements a2_rowCount a2_firstRows_a a2_rows_a a1)
    else
      some (0, t_state, a2_rowCount, a2_firstRows_a, a2_rows_a))))) : Option (Int32 × Int32 × Int32 × (Nat → Int32) × (Nat → Int32))) = some res := hf
  obtain ⟨H, hH⟩ : ∃ H, H = s.heap := ⟨_, rfl⟩
  obtain ⟨locs, hlo⟩ : ∃ x : List Loc, x = [] := ⟨_, rfl⟩
  rw [← hlo] at hS ⊢
  have hP : va_P D classes [(h_t, .inr (9, [.int t_state, .int t_direction, .int t_operation])), (h_a2, .inr (4, [.ref h_a2_rows, .ref h_a2_firstRows, .int a2_elements, .int a2_rowCount])), (h_a2_firstRows, .inl (cI, n_a2_firstRows, .inl a2_firstRows_a)), (h_a2_rows, .inl (cI, n_a2_rows, .inl a2_rows_a))] H := by rw [hH]; exact hP
  have hS : va_S A s.heap H locs := by rw [hH]; exact hS
  show W p l e rm_TextReader_takesValue s m _ below meth c s.heap locs 0 0 (MQ below (QW D (post_TextReader_takesValue h_t h_a2 h_a2_firstRows h_a2_rows n_a2_firstRows n_a2_rows t_direction t_operation a2_elements cI cB cJ res) A) _ s 0 0 A) (F0 m 0 ls [])
  refine wheap hH ?_
  clear hH hlo
  refine lv_iload_n hx hb d_TextReader_takesValue_0 rfl (lv_at hl 1 rfl) ?_
  refine lv_bipush (v := 48) hx hb d_TextReader_takesValue_1 (by decide) ?_
  refine lv_icmp_eq (tgt := 14) hx hb d_TextReader_takesValue_3 (by decide) (fun cc3 => ?_) (fun cc3 => ?_)
  · have hf := ifT cc3 hf
    exact k_TextReader_takesValue_14 (s := s) C0 hA hf hP hD hS (lv_sub hl [0, 1, 2] rfl)
  · have hf := ifF cc3 hf
    refine lv_iload_n hx hb d_TextReader_takesValue_6 rfl (lv_at hl 1 rfl) ?_
    refine lv_bipush (v := 49) hx hb d_TextReader_takesValue_7 (by decide) ?_
    refine lv_icmp_eq (tgt := 14) hx hb d_TextReader_takesValue_9 (by decide) (fun cc9 => ?_) (fun cc9 => ?_)
    · have hf := ifT cc9 hf
      exact k_TextReader_takesValue_14 (s := s) C0 hA hf hP hD hS (lv_sub hl [0, 1, 2] rfl)
    · have hf := ifF cc9 hf
      refine lv_iconst (v := 0) hx hb d_TextReader_takesValue_12 (by decide) ?_
      obtain rfl := Option.some.inj hf
      exact ret_z hx hb hr rfl hlocks hP hD hS ⟨rfl, rfl⟩ d_TextReader_takesValue_13
def f_TextReader_takesBehindOperation (n_a2_rows : Nat) (a2_rowCount : Int32) (a2_rows_a : Nat → Int32) (t_state : Int32) (a1 : Int32) : Option (Int32 × (Nat → Int32) × Int32) :=
  (if a1 = 44 then
    some (1, a2_rows_a, 3)
  else
    (if a1 = 41 then
      (Option.bind (f_March_endElement n_a2_rows a2_rowCount a2_rows_a) fun q20_1 =>
      some (1, q20_1, 1))
    else
      some (0, a2_rows_a, t_state)))
def post_TextReader_takesBehindOperation (h_t h_a2 h_a2_rows : Nat) (v_a2_firstRows v_a2_elements v_t_direction v_t_operation : Value) (n_a2_rows : Nat) (a2_rowCount : Int32) (cI cB cJ : ClassId) (res : Int32 × (Nat → Int32) × Int32) : Option Value → va_W → Prop := fun o ws' => o = some (.int res.1) ∧ ws' = [(h_a2, .inr (4, [.ref h_a2_rows, v_a2_firstRows, v_a2_elements, .int a2_rowCount])), (h_a2_rows, .inl (cI, n_a2_rows, .inl res.2.1)), (h_t, .inr (9, [.int res.2.2, v_t_direction, v_t_operation]))]
abbrev rm_TextReader_takesBehindOperation : Room := { frames := 1, cells := 0, slots := 0, locals := 20 }
set_option maxHeartbeats 4000000 in
set_option maxRecDepth 100000 in
theorem c_TextReader_takesBehindOperation (l : Launch) (D : va_G) (cI cB cJ : ClassId) (h_t h_a2 h_a2_rows : Nat) (v_a2_firstRows v_a2_elements v_t_direction v_t_operation : Value) (n_a2_rows : Nat) (a2_rowCount : Int32) (a2_rows_a : Nat → Int32) (t_state : Int32) (a1 : Int32) (sz : Nat) (res : Int32 × (Nat → Int32) × Int32) (hf : f_TextReader_takesBehindOperation n_a2_rows a2_rowCount a2_rows_a t_state a1 = some res) : Met l y_TextReader_takesBehindOperation (.code y_TextReader_takesBehindOperation b_TextReader_takesBehindOperation 3 (some .boolean) :: TB) rm_TextReader_takesBehindOperation (PcW D [(cI, .int), (cB, .byte), (cJ, .long)] [.ref h_t, .int a1, .ref h_a2] [(h_a2, .inr (4, [.ref h_a2_rows, v_a2_firstRows, v_a2_elements, .int a2_rowCount])), (h_a2_rows, .inl (cI, n_a2_rows, .inl a2_rows_a)), (h_t, .inr (9, [.int t_state, v_t_direction, v_t_operation]))] sz) (QW D (post_TextReader_takesBehindOperation h_t h_a2 h_a2_rows v_a2_firstRows v_a2_elements v_t_direction v_t_operation n_a2_rows a2_rowCount cI cB cJ res) (va_A [(h_a2, .inr (4, [.ref h_a2_rows, v_a2_firstRows, v_a2_elements, .int a2_rowCount])), (h_a2_rows, .inl (cI, n_a2_rows, .inl a2_rows_a)), (h_t, .inr (9, [.int t_state, v_t_direction, v_t_operation]))] sz)) 0 0 (va_A [(h_a2, .inr (4, [.ref h_a2_rows, v_a2_firstRows, v_a2_elements, .int a2_rowCount])), (h_a2_rows, .inl (cI, n_a2_rows, .inl a2_rows_a)), (h_t, .inr (9, [.int t_state, v_t_direction, v_t_operation]))] sz) := by
  refine entW ⟨by decide +kernel, rfl⟩ fun p e s m below meth c C0 hP hD hsz ls hl => ?_
  subst hsz
  generalize hAe : va_A [(h_a2, .inr (4, [.ref h_a2_rows, v_a2_firstRows, v_a2_elements, .int a2_rowCount])), (h_a2_rows, .inl (cI, n_a2_rows, .inl a2_rows_a)), (h_t, .inr (9, [.int t_state, v_t_direction, v_t_operation]))] s.heap.size = A at hD ⊢
  have hA : ∀ q : Nat, s.heap.size ≤ q → A q := fun q h => by rw [← hAe]; exact Or.inr h
  clear hAe
  have hS : va_S A s.heap s.heap [] := va_S.rf
  have hl : lv_has ls 3 [(0, .ref h_t), (1, .int a1), (2, .ref h_a2)] := hl
  obtain ⟨hx, hb, hml, hr, hlocks, hts, hown, hK, hin⟩ := id C0
  have hf : (((
  (if a1 = 44 then
    some (1, a2_rows_a, 3)
  else
    (if a1 = 41 then
      (Option.bind (f_March_endElement n_a2_rows a2_rowCount a2_rows_a) fun q20_1 =>
      some (1, q20_1, 1))
    else
      some (0, a2_rows_a, t_state))))) : Option (Int32 × (Nat → Int32) × Int32)) = some res := hf
  obtain ⟨H, hH⟩ : ∃ H, H = s.heap := ⟨_, rfl⟩
  obtain ⟨locs, hlo⟩ : ∃ x : List Loc, x = [] := ⟨_, rfl⟩
  rw [← hlo] at hS ⊢
  have hP : va_P D classes [(h_a2, .inr (4, [.ref h_a2_rows, v_a2_firstRows, v_a2_elements, .int a2_rowCount])), (h_a2_rows, .inl (cI, n_a2_rows, .inl a2_rows_a)), (h_t, .inr (9, [.int t_state, v_t_direction, v_t_operation]))] H := by rw [hH]; exact hP
  have hS : va_S A s.heap H locs := by rw [hH]; exact hS
  show W p l e rm_TextReader_takesBehindOperation s m _ below meth c s.heap locs 0 0 (MQ below (QW D (post_TextReader_takesBehindOperation h_t h_a2 h_a2_rows v_a2_firstRows v_a2_elements v_t_direction v_t_operation n_a2_rows a2_rowCount cI cB cJ res) A) _ s 0 0 A) (F0 m 0 ls [])
  refine wheap hH ?_
  clear hH hlo
  refine lv_iload_n hx hb d_TextReader_takesBehindOperation_0 rfl (lv_at hl 1 rfl) ?_
  refine lv_bipush (v := 44) hx hb d_TextReader_takesBehindOperation_1 (by decide) ?_
  refine lv_icmp_ne (tgt := 13) hx hb d_TextReader_takesBehindOperation_3 (by decide) (fun cc3 => ?_) (fun cc3 => ?_)
  · have hf := ifF cc3 hf
    refine lv_iload_n hx hb d_TextReader_takesBehindOperation_13 rfl (lv_at hl 1 rfl) ?_
    refine lv_bipush (v := 41) hx hb d_TextReader_takesBehindOperation_14 (by decide) ?_
    refine lv_icmp_ne (tgt := 30) hx hb d_TextReader_takesBehindOperation_16 (by decide) (fun cc16 => ?_) (fun cc16 => ?_)
    · have hf := ifF cc16 hf
      refine lv_iconst (v := 0) hx hb d_TextReader_takesBehindOperation_30 (by decide) ?_
      obtain rfl := Option.some.inj hf
      exact ret_z hx hb hr rfl hlocks hP hD hS ⟨rfl, rfl⟩ d_TextReader_takesBehindOperation_31
    · have hf := ifT cc16 hf
      refine lv_aload_n hx hb d_TextReader_takesBehindOperation_19 rfl (lv_at hl 2 rfl) ?_
      obtain ⟨q20_1, hc, hf⟩ := bindS hf
      refine mcV (n := 0) (As := []) (rest := []) (wr := [(h_t, .inr (9, [.int t_state, v_t_direction, v_t_operation]))]) hx hb hml hown hts hK (c_March_endElement (l := l) (D := D) (cI := cI) (cB := cB) (cJ := cJ) (h_t := h_a2) (h_t_rows := h_a2_rows) (v_t_firstRows := v_a2_firstRows) (v_t_elements := v_a2_elements) (n_t_rows := n_a2_rows) (t_rowCount := a2_rowCount) (t_rows_a := a2_rows_a) (sz := H.size) (res := q20_1) (hf := hc)) w_139 w_140 w_141 w_107 w_142 (by decide +kernel) rfl rfl ⟨Nat.le_of_ble_eq_true rfl, Nat.le_of_ble_eq_true rfl⟩ hP hD hS hA [0, 1] [2] rfl rfl (by decide) (by decide) (by decide) (ci := 4) 0 rfl rfl hl.1 rfl rfl (lv_room (Nat.le_of_ble_eq_true rfl)) d_TextReader_takesBehindOperation_20 ⟨Nat.le_of_ble_eq_true rfl, Nat.le_of_ble_eq_true rfl⟩ (fun o ws' H locs hp hP hD hS => ?_)
      obtain ⟨rfl, rfl⟩ := hp
      have hP : va_P D classes [(h_a2, .inr (4, [.ref h_a2_rows, v_a2_firstRows, v_a2_elements, .int a2_rowCount])), (h_a2_rows, .inl (cI, n_a2_rows, .inl q20_1)), (h_t, .inr (9, [.int t_state, v_t_direction, v_t_operation]))] H := hP.sub [1, 2, 0] rfl
      have hD : va_D A [(h_a2, .inr (4, [.ref h_a2_rows, v_a2_firstRows, v_a2_elements, .int a2_rowCount])), (h_a2_rows, .inl (cI, n_a2_rows, .inl q20_1)), (h_t, .inr (9, [.int t_state, v_t_direction, v_t_operation]))] := hD.sub [1, 2, 0] (by decide) rfl
      refine lv_aload_n hx hb d_TextReader_takesBehindOperation_23 rfl (lv_at hl 0 rfl) ?_
      refine lv_iconst (v := 1) hx hb d_TextReader_takesBehindOperation_24 (by decide) ?_
      refine va_put (D := D) (ci := 9) (v := .int 1) (ty := .int) (C := R_TextReader) (T := F_TextReader) (N := 3) hx hb hts i_TextReader t_TextReader t_TextReader_ok n_TextReader hown hK.1 hP hD hS 2 rfl rfl 0 (by decide) (hts _ w_134) (fun _ h9 => h9) rfl (t_TextReader_ok 0 (by decide)) rfl rfl (Nat.le_of_ble_eq_true rfl) d_TextReader_takesBehindOperation_25 (fun H locs hP hD hS => ?_)
      have hP : va_P D classes [(h_a2, .inr (4, [.ref h_a2_rows, v_a2_firstRows, v_a2_elements, .int a2_rowCount])), (h_a2_rows, .inl (cI, n_a2_rows, .inl q20_1)), (h_t, .inr (9, [.int 1, v_t_direction, v_t_operation]))] H := hP
      have hD : va_D A [(h_a2, .inr (4, [.ref h_a2_rows, v_a2_firstRows, v_a2_elements, .int a2_rowCount])), (h_a2_rows, .inl (cI, n_a2_rows, .inl q20_1)), (h_t, .inr (9, [.int 1, v_t_direction, v_t_operation]))] := hD
      refine lv_iconst (v := 1) hx hb d_TextReader_takesBehindOperation_28 (by decide) ?_
      obtain rfl := Option.some.inj hf
      exact ret_z hx hb hr rfl hlocks hP hD hS ⟨rfl, rfl⟩ d_TextReader_takesBehindOperation_29
  · have hf := ifT cc3 hf
    refine lv_aload_n hx hb d_TextReader_takesBehindOperation_6 rfl (lv_at hl 0 rfl) ?_
    refine lv_iconst (v := 3) hx hb d_TextReader_takesBehindOperation_7 (by decide) ?_
    refine va_put (D := D) (ci := 9) (v := .int 3) (ty := .int) (C := R_TextReader) (T := F_TextReader) (N := 3) hx hb hts i_TextReader t_TextReader t_TextReader_ok n_TextReader hown hK.1 hP hD hS 2 rfl rfl 0 (by decide) (hts _ w_134) (fun _ h9 => h9) rfl (t_TextReader_ok 0 (by decide)) rfl rfl (Nat.le_of_ble_eq_true rfl) d_TextReader_takesBehindOperation_8 (fun H locs hP hD hS => ?_)
    have hP : va_P D classes [(h_a2, .inr (4, [.ref h_a2_rows, v_a2_firstRows, v_a2_elements, .int a2_rowCount])), (h_a2_rows, .inl (cI, n_a2_rows, .inl a2_rows_a)), (h_t, .inr (9, [.int 3, v_t_direction, v_t_operation]))] H := hP
    have hD : va_D A [(h_a2, .inr (4, [.ref h_a2_rows, v_a2_firstRows, v_a2_elements, .int a2_rowCount])), (h_a2_rows, .inl (cI, n_a2_rows, .inl a2_rows_a)), (h_t, .inr (9, [.int 3, v_t_direction, v_t_operation]))] := hD
    refine lv_iconst (v := 1) hx hb d_TextReader_takesBehindOperation_11 (by decide) ?_
    obtain rfl := Option.some.inj hf
    exact ret_z hx hb hr rfl hlocks hP hD hS ⟨rfl, rfl⟩ d_TextReader_takesBehindOperation_12
def f_TextReader_takes (n_a2_firstRows : Nat) (n_a2_rows : Nat) (t_state : Int32) (t_direction : Int32) (t_operation : Int32) (a2_elements : Int32) (a2_rowCount : Int32) (a2_firstRows_a : Nat → Int32) (a2_rows_a : Nat → Int32) (a1 : Int32) : Option (Int32 × Int32 × Int32 × Int32 × Int32 × Int32 × (Nat → Int32) × (Nat → Int32)) :=
  (if t_state = 0 then
    (Option.bind (f_TextReader_takesElement n_a2_firstRows n_a2_rows a2_elements a2_rowCount a2_firstRows_a t_state t_direction a2_rows_a a1) fun q43_1 =>
    (if isB q43_1.1 = true then
    some (q43_1.1, q43_1.2.2.2.2.1, q43_1.2.2.2.2.2.1, t_operation, q43_1.2.1, q43_1.2.2.1, q43_1.2.2.2.1, q43_1.2.2.2.2.2.2)
    else none))
  else
    (if t_state = 1 then
      (if a1 = 59 then
        some (1, 0, t_direction, t_operation, a2_elements, a2_rowCount, a2_firstRows_a, a2_rows_a)
      else
        (Option.bind (f_TextReader_takesElement n_a2_firstRows n_a2_rows a2_elements a2_rowCount a2_firstRows_a t_state t_direction a2_rows_a a1) fun q63_2 =>
        (if isB q63_2.1 = true then
        some (q63_2.1, q63_2.2.2.2.2.1, q63_2.2.2.2.2.2.1, t_operation, q63_2.2.1, q63_2.2.2.1, q63_2.2.2.2.1, q63_2.2.2.2.2.2.2)
        else none)))
    else
      (if t_state = 2 then
        (if a1 = 40 then
          some (1, 3, t_direction, t_operation, a2_elements, a2_rowCount, a2_firstRows_a, a2_rows_a)
        else
          some (0, 3, t_direction, t_operation, a2_elements, a2_rowCount, a2_firstRows_a, a2_rows_a))
      else
        (if t_state = 3 then
          (Option.bind (f_TextReader_takesOperation n_a2_firstRows a2_elements a2_rowCount a2_firstRows_a t_state t_operation a1) fun q87_3 =>
          (if isB q87_3.1 = true then
          some (q87_3.1, q87_3.2.1, t_direction, q87_3.2.2, a2_elements, a2_rowCount, a2_firstRows_a, a2_rows_a)
          else none))
        else
          (if t_state = 4 then
            (Option.bind (f_TextReader_takesValue n_a2_firstRows n_a2_rows t_state t_direction t_operation a2_elements a2_rowCount a2_firstRows_a a2_rows_a a1) fun q94_4 =>
            (if isB q94_4.1 = true then
            some (q94_4.1, q94_4.2.1, t_direction, t_operation, a2_elements, q94_4.2.2.1, q94_4.2.2.2.1, q94_4.2.2.2.2)
            else none))
          else
            (Option.bind (f_TextReader_takesBehindOperation n_a2_rows a2_rowCount a2_rows_a t_state a1) fun q101_5 =>
            (if isB q101_5.1 = true then
            some (q101_5.1, q101_5.2.2, t_direction, t_operation, a2_elements, a2_rowCount, a2_firstRows_a, q101_5.2.1)
            else none)))))))
def post_TextReader_takes (h_t h_a2 h_a2_firstRows h_a2_rows : Nat) (n_a2_firstRows : Nat) (n_a2_rows : Nat) (cI cB cJ : ClassId) (res : Int32 × Int32 × Int32 × Int32 × Int32 × Int32 × (Nat → Int32) × (Nat → Int32)) : Option Value → va_W → Prop := fun o ws' => o = some (.int res.1) ∧ ws' = [(h_t, .inr (9, [.int res.2.1, .int res.2.2.1, .int res.2.2.2.1])), (h_a2, .inr (4, [.ref h_a2_rows, .ref h_a2_firstRows, .int res.2.2.2.2.1, .int res.2.2.2.2.2.1])), (h_a2_firstRows, .inl (cI, n_a2_firstRows, .inl res.2.2.2.2.2.2.1)), (h_a2_rows, .inl (cI, n_a2_rows, .inl res.2.2.2.2.2.2.2))]
abbrev rm_TextReader_takes : Room := { frames := 3, cells := 0, slots := 0, locals := 64 }
set_option maxHeartbeats 4000000 in
set_option maxRecDepth 100000 in
theorem c_TextReader_takes (l : Launch) (D : va_G) (cI cB cJ : ClassId) (h_t h_a2 h_a2_firstRows h_a2_rows : Nat)  (n_a2_firstRows : Nat) (n_a2_rows : Nat) (t_state : Int32) (t_direction : Int32) (t_operation : Int32) (a2_elements : Int32) (a2_rowCount : Int32) (a2_firstRows_a : Nat → Int32) (a2_rows_a : Nat → Int32) (a1 : Int32) (sz : Nat) (res : Int32 × Int32 × Int32 × Int32 × Int32 × Int32 × (Nat → Int32) × (Nat → Int32)) (hf : f_TextReader_takes n_a2_firstRows n_a2_rows t_state t_direction t_operation a2_elements a2_rowCount a2_firstRows_a a2_rows_a a1 = some res) : Met l y_TextReader_takes (.code y_TextReader_takes b_TextReader_takes 3 (some .boolean) :: TB) rm_TextReader_takes (PcW D [(cI, .int), (cB, .byte), (cJ, .long)] [.ref h_t, .int a1, .ref h_a2] [(h_t, .inr (9, [.int t_state, .int t_direction, .int t_operation])), (h_a2, .inr (4, [.ref h_a2_rows, .ref h_a2_firstRows, .int a2_elements, .int a2_rowCount])), (h_a2_firstRows, .inl (cI, n_a2_firstRows, .inl a2_firstRows_a)), (h_a2_rows, .inl (cI, n_a2_rows, .inl a2_rows_a))] sz) (QW D (post_TextReader_takes h_t h_a2 h_a2_firstRows h_a2_rows n_a2_firstRows n_a2_rows cI cB cJ res) (va_A [(h_t, .inr (9, [.int t_state, .int t_direction, .int t_operation])), (h_a2, .inr (4, [.ref h_a2_rows, .ref h_a2_firstRows, .int a2_elements, .int a2_rowCount])), (h_a2_firstRows, .inl (cI, n_a2_firstRows, .inl a2_firstRows_a)), (h_a2_rows, .inl (cI, n_a2_rows, .inl a2_rows_a))] sz)) 0 0 (va_A [(h_t, .inr (9, [.int t_state, .int t_direction, .int t_operation])), (h_a2, .inr (4, [.ref h_a2_rows, .ref h_a2_firstRows, .int a2_elements, .int a2_rowCount])), (h_a2_firstRows, .inl (cI, n_a2_firstRows, .inl a2_firstRows_a)), (h_a2_rows, .inl (cI, n_a2_rows, .inl a2_rows_a))] sz) := by
  refine entW ⟨by decide +kernel, rfl⟩ fun p e s m below meth c C0 hP hD hsz ls hl => ?_
  subst hsz
  generalize hAe : va_A [(h_t, .inr (9, [.int t_state, .int t_direction, .int t_operation])), (h_a2, .inr (4, [.ref h_a2_rows, .ref h_a2_firstRows, .int a2_elements, .int a2_rowCount])), (h_a2_firstRows, .inl (cI, n_a2_firstRows, .inl a2_firstRows_a)), (h_a2_rows, .inl (cI, n_a2_rows, .inl a2_rows_a))] s.heap.size = A at hD ⊢
  have hA : ∀ q : Nat, s.heap.size ≤ q → A q := fun q h => by rw [← hAe]; exact Or.inr h
  clear hAe
  have hS : va_S A s.heap s.heap [] := va_S.rf
  have hl : lv_has ls 3 [(0, .ref h_t), (1, .int a1), (2, .ref h_a2)] := hl
  obtain ⟨hx, hb, hml, hr, hlocks, hts, hown, hK, hin⟩ := id C0
  have hf : (((
  (if t_state = 0 then
    (Option.bind (f_TextReader_takesElement n_a2_firstRows n_a2_rows a2_elements a2_rowCount a2_firstRows_a t_state t_direction a2_rows_a a1) fun q43_1 =>
    (if isB q43_1.1 = true then
    some (q43_1.1, q43_1.2.2.2.2.1, q43_1.2.2.2.2.2.1, t_operation, q43_1.2.1, q43_1.2.2.1, q43_1.2.2.2.1, q43_1.2.2.2.2.2.2)
    else none))
  else
    (if t_state = 1 then
      (if a1 = 59 then
        some (1, 0, t_direction, t_operation, a2_elements, a2_rowCount, a2_firstRows_a, a2_rows_a)
      else
        (Option.bind (f_TextReader_takesElement n_a2_firstRows n_a2_rows a2_elements a2_rowCount a2_firstRows_a t_state t_direction a2_rows_a a1) fun q63_2 =>
        (if isB q63_2.1 = true then
        some (q63_2.1, q63_2.2.2.2.2.1, q63_2.2.2.2.2.2.1, t_operation, q63_2.2.1, q63_2.2.2.1, q63_2.2.2.2.1, q63_2.2.2.2.2.2.2)
        else none)))
    else
      (if t_state = 2 then
        (if a1 = 40 then
          some (1, 3, t_direction, t_operation, a2_elements, a2_rowCount, a2_firstRows_a, a2_rows_a)
        else
          some (0, 3, t_direction, t_operation, a2_elements, a2_rowCount, a2_firstRows_a, a2_rows_a))
      else
        (if t_state = 3 then
          (Option.bind (f_TextReader_takesOperation n_a2_firstRows a2_elements a2_rowCount a2_firstRows_a t_state t_operation a1) fun q87_3 =>
          (if isB q87_3.1 = true then
          some (q87_3.1, q87_3.2.1, t_direction, q87_3.2.2, a2_elements, a2_rowCount, a2_firstRows_a, a2_rows_a)
          else none))
        else
          (if t_state = 4 then
            (Option.bind (f_TextReader_takesValue n_a2_firstRows n_a2_rows t_state t_direction t_operation a2_elements a2_rowCount a2_firstRows_a a2_rows_a a1) fun q94_4 =>
            (if isB q94_4.1 = true then
            some (q94_4.1, q94_4.2.1, t_direction, t_operation, a2_elements, q94_4.2.2.1, q94_4.2.2.2.1, q94_4.2.2.2.2)
            else none))
          else
            (Option.bind (f_TextReader_takesBehindOperation n_a2_rows a2_rowCount a2_rows_a t_state a1) fun q101_5 =>
            (if isB q101_5.1 = true then
            some (q101_5.1, q101_5.2.2, t_direction, t_operation, a2_elements, a2_rowCount, a2_firstRows_a, q101_5.2.1)
            else none))))))))) : Option (Int32 × Int32 × Int32 × Int32 × Int32 × Int32 × (Nat → Int32) × (Nat → Int32))) = some res := hf
  obtain ⟨H, hH⟩ : ∃ H, H = s.heap := ⟨_, rfl⟩
  obtain ⟨locs, hlo⟩ : ∃ x : List Loc, x = [] := ⟨_, rfl⟩
  rw [← hlo] at hS ⊢
  have hP : va_P D classes [(h_t, .inr (9, [.int t_state, .int t_direction, .int t_operation])), (h_a2, .inr (4, [.ref h_a2_rows, .ref h_a2_firstRows, .int a2_elements, .int a2_rowCount])), (h_a2_firstRows, .inl (cI, n_a2_firstRows, .inl a2_firstRows_a)), (h_a2_rows, .inl (cI, n_a2_rows, .inl a2_rows_a))] H := by rw [hH]; exact hP
  have hS : va_S A s.heap H locs := by rw [hH]; exact hS
  show W p l e rm_TextReader_takes s m _ below meth c s.heap locs 0 0 (MQ below (QW D (post_TextReader_takes h_t h_a2 h_a2_firstRows h_a2_rows n_a2_firstRows n_a2_rows cI cB cJ res) A) _ s 0 0 A) (F0 m 0 ls [])
  refine wheap hH ?_
  clear hH hlo
  refine lv_aload_n hx hb d_TextReader_takes_0 rfl (lv_at hl 0 rfl) ?_
  refine va_get (D := D) (ci := 9) (v := .int t_state) (C := R_TextReader) (T := F_TextReader) (N := 3) hx hb hts i_TextReader hown hK.1 hP 0 rfl rfl 0 (by decide) (hts _ w_134) (fun _ h9 => h9) rfl d_TextReader_takes_1 ?_
  by_cases cs : t_state = 0
  · have hf := ifT cs hf
    refine lv_tableIn (off := 36) (tgt := 40) hx hb d_TextReader_takes_4 (by rw [cs]; decide) (by rw [cs]; decide) (by rw [cs] <;> rfl) (by decide) ?_
    refine lv_aload_n hx hb d_TextReader_takes_40 rfl (lv_at hl 0 rfl) ?_
    refine lv_iload_n hx hb d_TextReader_takes_41 rfl (lv_at hl 1 rfl) ?_
    refine lv_aload_n hx hb d_TextReader_takes_42 rfl (lv_at hl 2 rfl) ?_
    obtain ⟨q43_1, hc, hf⟩ := bindS hf
    refine mcV (n := 2) (As := [.int a1, .ref h_a2]) (rest := []) (wr := []) hx hb hml hown hts hK (c_TextReader_takesElement (l := l) (D := D) (cI := cI) (cB := cB) (cJ := cJ) (h_t := h_t) (h_a2 := h_a2) (h_a2_firstRows := h_a2_firstRows) (h_a2_rows := h_a2_rows) (v_t_operation := (.int t_operation)) (n_a2_firstRows := n_a2_firstRows) (n_a2_rows := n_a2_rows) (a2_elements := a2_elements) (a2_rowCount := a2_rowCount) (a2_firstRows_a := a2_firstRows_a) (t_state := t_state) (t_direction := t_direction) (a2_rows_a := a2_rows_a) (a1 := a1) (sz := H.size) (res := q43_1) (hf := hc)) w_145 w_146 w_147 w_82 w_148 (by decide +kernel) rfl rfl ⟨Nat.le_of_ble_eq_true rfl, Nat.le_of_ble_eq_true rfl⟩ hP hD hS hA [1, 2, 0, 3] [] rfl rfl (by decide) (by decide) (by decide) (ci := 9) 2 rfl rfl hl.1 rfl rfl (lv_room (Nat.le_of_ble_eq_true rfl)) d_TextReader_takes_43 ⟨Nat.le_of_ble_eq_true rfl, Nat.le_of_ble_eq_true rfl⟩ (fun o ws' H locs hp hP hD hS => ?_)
    obtain ⟨rfl, rfl⟩ := hp
    have hP : va_P D classes [(h_t, .inr (9, [.int q43_1.2.2.2.2.1, .int q43_1.2.2.2.2.2.1, .int t_operation])), (h_a2, .inr (4, [.ref h_a2_rows, .ref h_a2_firstRows, .int q43_1.2.1, .int q43_1.2.2.1])), (h_a2_firstRows, .inl (cI, n_a2_firstRows, .inl q43_1.2.2.2.1)), (h_a2_rows, .inl (cI, n_a2_rows, .inl q43_1.2.2.2.2.2.2))] H := hP.sub [2, 0, 1, 3] rfl
    have hD : va_D A [(h_t, .inr (9, [.int q43_1.2.2.2.2.1, .int q43_1.2.2.2.2.2.1, .int t_operation])), (h_a2, .inr (4, [.ref h_a2_rows, .ref h_a2_firstRows, .int q43_1.2.1, .int q43_1.2.2.1])), (h_a2_firstRows, .inl (cI, n_a2_firstRows, .inl q43_1.2.2.2.1)), (h_a2_rows, .inl (cI, n_a2_rows, .inl q43_1.2.2.2.2.2.2))] := hD.sub [2, 0, 1, 3] (by decide) rfl
    obtain ⟨hbb, hf⟩ := ifG hf
    obtain rfl := Option.some.inj hf
    exact ret_z hx hb hr (nar_b hbb) hlocks hP hD hS ⟨rfl, rfl⟩ d_TextReader_takes_46
  · have hf := ifF cs hf
    have cs0 := cs
    by_cases cs : t_state = 1
    · have hf := ifT cs hf
      refine lv_tableIn (off := 43) (tgt := 47) hx hb d_TextReader_takes_4 (by rw [cs]; decide) (by rw [cs]; decide) (by rw [cs] <;> rfl) (by decide) ?_
      refine lv_iload_n hx hb d_TextReader_takes_47 rfl (lv_at hl 1 rfl) ?_
      refine lv_bipush (v := 59) hx hb d_TextReader_takes_48 (by decide) ?_
      refine lv_icmp_ne (tgt := 60) hx hb d_TextReader_takes_50 (by decide) (fun cc50 => ?_) (fun cc50 => ?_)
      · have hf := ifF cc50 hf
        refine lv_aload_n hx hb d_TextReader_takes_60 rfl (lv_at hl 0 rfl) ?_
        refine lv_iload_n hx hb d_TextReader_takes_61 rfl (lv_at hl 1 rfl) ?_
        refine lv_aload_n hx hb d_TextReader_takes_62 rfl (lv_at hl 2 rfl) ?_
        obtain ⟨q63_2, hc, hf⟩ := bindS hf
        refine mcV (n := 2) (As := [.int a1, .ref h_a2]) (rest := []) (wr := []) hx hb hml hown hts hK (c_TextReader_takesElement (l := l) (D := D) (cI := cI) (cB := cB) (cJ := cJ) (h_t := h_t) (h_a2 := h_a2) (h_a2_firstRows := h_a2_firstRows) (h_a2_rows := h_a2_rows) (v_t_operation := (.int t_operation)) (n_a2_firstRows := n_a2_firstRows) (n_a2_rows := n_a2_rows) (a2_elements := a2_elements) (a2_rowCount := a2_rowCount) (a2_firstRows_a := a2_firstRows_a) (t_state := t_state) (t_direction := t_direction) (a2_rows_a := a2_rows_a) (a1 := a1) (sz := H.size) (res := q63_2) (hf := hc)) w_145 w_146 w_147 w_82 w_148 (by decide +kernel) rfl rfl ⟨Nat.le_of_ble_eq_true rfl, Nat.le_of_ble_eq_true rfl⟩ hP hD hS hA [1, 2, 0, 3] [] rfl rfl (by decide) (by decide) (by decide) (ci := 9) 2 rfl rfl hl.1 rfl rfl (lv_room (Nat.le_of_ble_eq_true rfl)) d_TextReader_takes_63 ⟨Nat.le_of_ble_eq_true rfl, Nat.le_of_ble_eq_true rfl⟩ (fun o ws' H locs hp hP hD hS => ?_)
        obtain ⟨rfl, rfl⟩ := hp
        have hP : va_P D classes [(h_t, .inr (9, [.int q63_2.2.2.2.2.1, .int q63_2.2.2.2.2.2.1, .int t_operation])), (h_a2, .inr (4, [.ref h_a2_rows, .ref h_a2_firstRows, .int q63_2.2.1, .int q63_2.2.2.1])), (h_a2_firstRows, .inl (cI, n_a2_firstRows, .inl q63_2.2.2.2.1)), (h_a2_rows, .inl (cI, n_a2_rows, .inl q63_2.2.2.2.2.2.2))] H := hP.sub [2, 0, 1, 3] rfl
        have hD : va_D A [(h_t, .inr (9, [.int q63_2.2.2.2.2.1, .int q63_2.2.2.2.2.2.1, .int t_operation])), (h_a2, .inr (4, [.ref h_a2_rows, .ref h_a2_firstRows, .int q63_2.2.1, .int q63_2.2.2.1])), (h_a2_firstRows, .inl (cI, n_a2_firstRows, .inl q63_2.2.2.2.1)), (h_a2_rows, .inl (cI, n_a2_rows, .inl q63_2.2.2.2.2.2.2))] := hD.sub [2, 0, 1, 3] (by decide) rfl
        obtain ⟨hbb, hf⟩ := ifG hf
        obtain rfl := Option.some.inj hf
        exact ret_z hx hb hr (nar_b hbb) hlocks hP hD hS ⟨rfl, rfl⟩ d_TextReader_takes_66
      · have hf := ifT cc50 hf
        refine lv_aload_n hx hb d_TextReader_takes_53 rfl (lv_at hl 0 rfl) ?_
        refine lv_iconst (v := 0) hx hb d_TextReader_takes_54 (by decide) ?_
        refine va_put (D := D) (ci := 9) (v := .int 0) (ty := .int) (C := R_TextReader) (T := F_TextReader) (N := 3) hx hb hts i_TextReader t_TextReader t_TextReader_ok n_TextReader hown hK.1 hP hD hS 0 rfl rfl 0 (by decide) (hts _ w_134) (fun _ h9 => h9) rfl (t_TextReader_ok 0 (by decide)) rfl rfl (Nat.le_of_ble_eq_true rfl) d_TextReader_takes_55 (fun H locs hP hD hS => ?_)
        have hP : va_P D classes [(h_t, .inr (9, [.int 0, .int t_direction, .int t_operation])), (h_a2, .inr (4, [.ref h_a2_rows, .ref h_a2_firstRows, .int a2_elements, .int a2_rowCount])), (h_a2_firstRows, .inl (cI, n_a2_firstRows, .inl a2_firstRows_a)), (h_a2_rows, .inl (cI, n_a2_rows, .inl a2_rows_a))] H := hP
        have hD : va_D A [(h_t, .inr (9, [.int 0, .int t_direction, .int t_operation])), (h_a2, .inr (4, [.ref h_a2_rows, .ref h_a2_firstRows, .int a2_elements, .int a2_rowCount])), (h_a2_firstRows, .inl (cI, n_a2_firstRows, .inl a2_firstRows_a)), (h_a2_rows, .inl (cI, n_a2_rows, .inl a2_rows_a))] := hD
        refine lv_iconst (v := 1) hx hb d_TextReader_takes_58 (by decide) ?_
        obtain rfl := Option.some.inj hf
        exact ret_z hx hb hr rfl hlocks hP hD hS ⟨rfl, rfl⟩ d_TextReader_takes_59
    · have hf := ifF cs hf
      have cs1 := cs
      by_cases cs : t_state = 2
      · have hf := ifT cs hf
        refine lv_tableIn (off := 63) (tgt := 67) hx hb d_TextReader_takes_4 (by rw [cs]; decide) (by rw [cs]; decide) (by rw [cs] <;> rfl) (by decide) ?_
        refine lv_aload_n hx hb d_TextReader_takes_67 rfl (lv_at hl 0 rfl) ?_
        refine lv_iconst (v := 3) hx hb d_TextReader_takes_68 (by decide) ?_
        refine va_put (D := D) (ci := 9) (v := .int 3) (ty := .int) (C := R_TextReader) (T := F_TextReader) (N := 3) hx hb hts i_TextReader t_TextReader t_TextReader_ok n_TextReader hown hK.1 hP hD hS 0 rfl rfl 0 (by decide) (hts _ w_134) (fun _ h9 => h9) rfl (t_TextReader_ok 0 (by decide)) rfl rfl (Nat.le_of_ble_eq_true rfl) d_TextReader_takes_69 (fun H locs hP hD hS => ?_)
        have hP : va_P D classes [(h_t, .inr (9, [.int 3, .int t_direction, .int t_operation])), (h_a2, .inr (4, [.ref h_a2_rows, .ref h_a2_firstRows, .int a2_elements, .int a2_rowCount])), (h_a2_firstRows, .inl (cI, n_a2_firstRows, .inl a2_firstRows_a)), (h_a2_rows, .inl (cI, n_a2_rows, .inl a2_rows_a))] H := hP
        have hD : va_D A [(h_t, .inr (9, [.int 3, .int t_direction, .int t_operation])), (h_a2, .inr (4, [.ref h_a2_rows, .ref h_a2_firstRows, .int a2_elements, .int a2_rowCount])), (h_a2_firstRows, .inl (cI, n_a2_firstRows, .inl a2_firstRows_a)), (h_a2_rows, .inl (cI, n_a2_rows, .inl a2_rows_a))] := hD
        refine lv_iload_n hx hb d_TextReader_takes_72 rfl (lv_at hl 1 rfl) ?_
        refine lv_bipush (v := 40) hx hb d_TextReader_takes_73 (by decide) ?_
        refine lv_icmp_ne (tgt := 82) hx hb d_TextReader_takes_75 (by decide) (fun cc75 => ?_) (fun cc75 => ?_)
        · have hf := ifF cc75 hf
          refine lv_iconst (v := 0) hx hb d_TextReader_takes_82 (by decide) ?_
          obtain rfl := Option.some.inj hf
          exact ret_z hx hb hr rfl hlocks hP hD hS ⟨rfl, rfl⟩ d_TextReader_takes_83
        · have hf := ifT cc75 hf
          refine lv_iconst (v := 1) hx hb d_TextReader_takes_78 (by decide) ?_
          refine lv_goto (tgt := 83) hx hb d_TextReader_takes_79 (by decide) ?_
          obtain rfl := Option.some.inj hf
          exact ret_z hx hb hr rfl hlocks hP hD hS ⟨rfl, rfl⟩ d_TextReader_takes_83
      · have hf := ifF cs hf
        have cs2 := cs
        by_cases cs : t_state = 3
        · have hf := ifT cs hf
          refine lv_tableIn (off := 80) (tgt := 84) hx hb d_TextReader_takes_4 (by rw [cs]; decide) (by rw [cs]; decide) (by rw [cs] <;> rfl) (by decide) ?_
          refine lv_aload_n hx hb d_TextReader_takes_84 rfl (lv_at hl 0 rfl) ?_
          refine lv_iload_n hx hb d_TextReader_takes_85 rfl (lv_at hl 1 rfl) ?_
          refine lv_aload_n hx hb d_TextReader_takes_86 rfl (lv_at hl 2 rfl) ?_
          obtain ⟨q87_3, hc, hf⟩ := bindS hf
          refine mcV (n := 2) (As := [.int a1, .ref h_a2]) (rest := []) (wr := [(h_a2_rows, .inl (cI, n_a2_rows, .inl a2_rows_a))]) hx hb hml hown hts hK (c_TextReader_takesOperation (l := l) (D := D) (cI := cI) (cB := cB) (cJ := cJ) (h_t := h_t) (h_a2 := h_a2) (h_a2_firstRows := h_a2_firstRows) (v_a2_rows := (.ref h_a2_rows)) (v_t_direction := (.int t_direction)) (n_a2_firstRows := n_a2_firstRows) (a2_elements := a2_elements) (a2_rowCount := a2_rowCount) (a2_firstRows_a := a2_firstRows_a) (t_state := t_state) (t_operation := t_operation) (a1 := a1) (sz := H.size) (res := q87_3) (hf := hc)) w_149 w_150 w_151 w_82 w_152 (by decide +kernel) rfl rfl ⟨Nat.le_of_ble_eq_true rfl, Nat.le_of_ble_eq_true rfl⟩ hP hD hS hA [1, 2, 0] [3] rfl rfl (by decide) (by decide) (by decide) (ci := 9) 2 rfl rfl hl.1 rfl rfl (lv_room (Nat.le_of_ble_eq_true rfl)) d_TextReader_takes_87 ⟨Nat.le_of_ble_eq_true rfl, Nat.le_of_ble_eq_true rfl⟩ (fun o ws' H locs hp hP hD hS => ?_)
          obtain ⟨rfl, rfl⟩ := hp
          have hP : va_P D classes [(h_t, .inr (9, [.int q87_3.2.1, .int t_direction, .int q87_3.2.2])), (h_a2, .inr (4, [.ref h_a2_rows, .ref h_a2_firstRows, .int a2_elements, .int a2_rowCount])), (h_a2_firstRows, .inl (cI, n_a2_firstRows, .inl a2_firstRows_a)), (h_a2_rows, .inl (cI, n_a2_rows, .inl a2_rows_a))] H := hP.sub [3, 1, 2, 0] rfl
          have hD : va_D A [(h_t, .inr (9, [.int q87_3.2.1, .int t_direction, .int q87_3.2.2])), (h_a2, .inr (4, [.ref h_a2_rows, .ref h_a2_firstRows, .int a2_elements, .int a2_rowCount])), (h_a2_firstRows, .inl (cI, n_a2_firstRows, .inl a2_firstRows_a)), (h_a2_rows, .inl (cI, n_a2_rows, .inl a2_rows_a))] := hD.sub [3, 1, 2, 0] (by decide) rfl
          obtain ⟨hbb, hf⟩ := ifG hf
          obtain rfl := Option.some.inj hf
          exact ret_z hx hb hr (nar_b hbb) hlocks hP hD hS ⟨rfl, rfl⟩ d_TextReader_takes_90
        · have hf := ifF cs hf
          have cs3 := cs
          by_cases cs : t_state = 4
          · have hf := ifT cs hf
            refine lv_tableIn (off := 87) (tgt := 91) hx hb d_TextReader_takes_4 (by rw [cs]; decide) (by rw [cs]; decide) (by rw [cs] <;> rfl) (by decide) ?_
            refine lv_aload_n hx hb d_TextReader_takes_91 rfl (lv_at hl 0 rfl) ?_
            refine lv_iload_n hx hb d_TextReader_takes_92 rfl (lv_at hl 1 rfl) ?_
            refine lv_aload_n hx hb d_TextReader_takes_93 rfl (lv_at hl 2 rfl) ?_
            obtain ⟨q94_4, hc, hf⟩ := bindS hf
            refine mcV (n := 2) (As := [.int a1, .ref h_a2]) (rest := []) (wr := []) hx hb hml hown hts hK (c_TextReader_takesValue (l := l) (D := D) (cI := cI) (cB := cB) (cJ := cJ) (h_t := h_t) (h_a2 := h_a2) (h_a2_firstRows := h_a2_firstRows) (h_a2_rows := h_a2_rows) (n_a2_firstRows := n_a2_firstRows) (n_a2_rows := n_a2_rows) (t_state := t_state) (t_direction := t_direction) (t_operation := t_operation) (a2_elements := a2_elements) (a2_rowCount := a2_rowCount) (a2_firstRows_a := a2_firstRows_a) (a2_rows_a := a2_rows_a) (a1 := a1) (sz := H.size) (res := q94_4) (hf := hc)) w_153 w_154 w_155 w_82 w_156 (by decide +kernel) rfl rfl ⟨Nat.le_of_ble_eq_true rfl, Nat.le_of_ble_eq_true rfl⟩ hP hD hS hA [0, 1, 2, 3] [] rfl rfl (by decide) (by decide) (by decide) (ci := 9) 0 rfl rfl hl.1 rfl rfl (lv_room (Nat.le_of_ble_eq_true rfl)) d_TextReader_takes_94 ⟨Nat.le_of_ble_eq_true rfl, Nat.le_of_ble_eq_true rfl⟩ (fun o ws' H locs hp hP hD hS => ?_)
            obtain ⟨rfl, rfl⟩ := hp
            have hP : va_P D classes [(h_t, .inr (9, [.int q94_4.2.1, .int t_direction, .int t_operation])), (h_a2, .inr (4, [.ref h_a2_rows, .ref h_a2_firstRows, .int a2_elements, .int q94_4.2.2.1])), (h_a2_firstRows, .inl (cI, n_a2_firstRows, .inl q94_4.2.2.2.1)), (h_a2_rows, .inl (cI, n_a2_rows, .inl q94_4.2.2.2.2))] H := hP.sub [0, 1, 2, 3] rfl
            have hD : va_D A [(h_t, .inr (9, [.int q94_4.2.1, .int t_direction, .int t_operation])), (h_a2, .inr (4, [.ref h_a2_rows, .ref h_a2_firstRows, .int a2_elements, .int q94_4.2.2.1])), (h_a2_firstRows, .inl (cI, n_a2_firstRows, .inl q94_4.2.2.2.1)), (h_a2_rows, .inl (cI, n_a2_rows, .inl q94_4.2.2.2.2))] := hD.sub [0, 1, 2, 3] (by decide) rfl
            obtain ⟨hbb, hf⟩ := ifG hf
            obtain rfl := Option.some.inj hf
            exact ret_z hx hb hr (nar_b hbb) hlocks hP hD hS ⟨rfl, rfl⟩ d_TextReader_takes_97
          · have hf := ifF cs hf
            have cs4 := cs
            refine lv_tableOut (tgt := 98) hx hb d_TextReader_takes_4 (by have n0 := lv_neT (a := 0) cs0 (by decide); have n1 := lv_neT (a := 1) cs1 (by decide); have n2 := lv_neT (a := 2) cs2 (by decide); have n3 := lv_neT (a := 3) cs3 (by decide); have n4 := lv_neT (a := 4) cs4 (by decide); omega) (by decide) ?_
            refine lv_aload_n hx hb d_TextReader_takes_98 rfl (lv_at hl 0 rfl) ?_
            refine lv_iload_n hx hb d_TextReader_takes_99 rfl (lv_at hl 1 rfl) ?_
            refine lv_aload_n hx hb d_TextReader_takes_100 rfl (lv_at hl 2 rfl) ?_
            obtain ⟨q101_5, hc, hf⟩ := bindS hf
            refine mcV (n := 2) (As := [.int a1, .ref h_a2]) (rest := []) (wr := [(h_a2_firstRows, .inl (cI, n_a2_firstRows, .inl a2_firstRows_a))]) hx hb hml hown hts hK (c_TextReader_takesBehindOperation (l := l) (D := D) (cI := cI) (cB := cB) (cJ := cJ) (h_t := h_t) (h_a2 := h_a2) (h_a2_rows := h_a2_rows) (v_a2_firstRows := (.ref h_a2_firstRows)) (v_a2_elements := (.int a2_elements)) (v_t_direction := (.int t_direction)) (v_t_operation := (.int t_operation)) (n_a2_rows := n_a2_rows) (a2_rowCount := a2_rowCount) (a2_rows_a := a2_rows_a) (t_state := t_state) (a1 := a1) (sz := H.size) (res := q101_5) (hf := hc)) w_157 w_158 w_159 w_82 w_160 (by decide +kernel) rfl rfl ⟨Nat.le_of_ble_eq_true rfl, Nat.le_of_ble_eq_true rfl⟩ hP hD hS hA [1, 3, 0] [2] rfl rfl (by decide) (by decide) (by decide) (ci := 9) 2 rfl rfl hl.1 rfl rfl (lv_room (Nat.le_of_ble_eq_true rfl)) d_TextReader_takes_101 ⟨Nat.le_of_ble_eq_true rfl, Nat.le_of_ble_eq_true rfl⟩ (fun o ws' H locs hp hP hD hS => ?_)
            obtain ⟨rfl, rfl⟩ := hp
            have hP : va_P D classes [(h_t, .inr (9, [.int q101_5.2.2, .int t_direction, .int t_operation])), (h_a2, .inr (4, [.ref h_a2_rows, .ref h_a2_firstRows, .int a2_elements, .int a2_rowCount])), (h_a2_firstRows, .inl (cI, n_a2_firstRows, .inl a2_firstRows_a)), (h_a2_rows, .inl (cI, n_a2_rows, .inl q101_5.2.1))] H := hP.sub [3, 1, 0, 2] rfl
            have hD : va_D A [(h_t, .inr (9, [.int q101_5.2.2, .int t_direction, .int t_operation])), (h_a2, .inr (4, [.ref h_a2_rows, .ref h_a2_firstRows, .int a2_elements, .int a2_rowCount])), (h_a2_firstRows, .inl (cI, n_a2_firstRows, .inl a2_firstRows_a)), (h_a2_rows, .inl (cI, n_a2_rows, .inl q101_5.2.1))] := hD.sub [3, 1, 0, 2] (by decide) rfl
            obtain ⟨hbb, hf⟩ := ifG hf
            obtain rfl := Option.some.inj hf
            exact ret_z hx hb hr (nar_b hbb) hlocks hP hD hS ⟨rfl, rfl⟩ d_TextReader_takes_104
