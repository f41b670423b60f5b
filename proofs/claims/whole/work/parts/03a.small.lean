-- method J6_bitCount_0f7a4
def f_J6_bitCount_0f7a4 (a0 : Int32) : Option (Int32) :=
  lt (a0 - ((ushI a0 (1 : Int32)) &&& (1431655765 : Int32))) (fun x1 => lt ((x1 &&& (858993459 : Int32)) + ((ushI x1 (2 : Int32)) &&& (858993459 : Int32))) (fun x2 => lt ((x2 + (ushI x2 (4 : Int32))) &&& (252645135 : Int32)) (fun x3 => lt (x3 + (ushI x3 (8 : Int32))) (fun x4 => lt (x4 + (ushI x4 (16 : Int32))) (fun x5 => some ((x5 &&& (63 : Int32))))))))
set_option maxHeartbeats 4000000 in
set_option maxRecDepth 100000 in
theorem c_J6_bitCount_0f7a4 (l : Launch) (G : GG) (sz : Nat)  (a0 : Int32) (o : Int32) (ho : f_J6_bitCount_0f7a4 a0 = some o)  : Met l yJ6_bitCount_0f7a4 wsJ6_bitCount_0f7a4 ({ frames := 0, cells := 0, slots := 0, locals := 0 } : Room) (pcA G [.int a0] [] sz) (qcI Unit G o (fun _ => True) (fun _ => []) (va_A [] sz)) 0 0 (va_A [] sz) := by
  refine Met.ofW (cc := cJ6_bitCount_0f7a4) (maxL := 1) (ret := (some .int)) (by decide) rfl ?_
  intro p e s m args below meth c s₁ B hml hv
  obtain ⟨rfl, hsz, hP, hg, hD0, hc⟩ := hv
  have hx := B.exec
  have hb := B.bytes
  have hr := B.returns
  have hts := atoms_spec (ws := wsJ6_bitCount_0f7a4) B.pre
  have hown : s.vm.findClass RJ6 = some m.cls := findClass_of_methodNamed B.named
  have hlocks := B.notSynchronized
  subst hsz
  have hD := hD0.self (sz := s.heap.size)
  generalize hAe : va_A [] s.heap.size = A at hD hc ⊢
  have hA : ∀ q : Nat, s.heap.size ≤ q → A q := fun q h => by rw [← hAe]; exact Or.inr h
  have hl := lv_entry ([.int a0]) (n := 1) (Nat.le_of_ble_eq_true rfl)
  rw [lg_entry_eq]
  generalize (lg_sl ([.int a0]) ++ List.replicate (1 - (lg_sl ([.int a0])).length) Slot.unset).toArray = ls at hl ⊢
  have hl : lv_has ls 1 [(0, .int a0)] := hl
  have hf := ho
  unfold f_J6_bitCount_0f7a4 at hf
  refine en (fun H locs hP hD hS => ?_) hP hD
  refine lv_iload_n hx hb dJ6_bitCount_0f7a4_0 rfl (lv_at hl 0 rfl) ?_
  refine lv_iload_n hx hb dJ6_bitCount_0f7a4_1 rfl (lv_at hl 0 rfl) ?_
  refine lv_iconst (v := (1 : Int32)) hx hb dJ6_bitCount_0f7a4_2 (by decide) ?_
  refine lv_iushr (v := (ushI a0 (1 : Int32))) hx hb dJ6_bitCount_0f7a4_3 rfl ?_
  refine lv_ldcw (v := (1431655765 : Int32)) hx hb hown (hts (.constant RJ6 265 (1431655765 : Int32)) (by decide +kernel)) dJ6_bitCount_0f7a4_4 ?_
  refine lv_iand hx hb dJ6_bitCount_0f7a4_7 ?_
  refine lv_isub hx hb dJ6_bitCount_0f7a4_8 ?_
  refine lv_topi (fun x1 ex1 => ?_)
  have hf := lt_n hf x1 ex1
  refine lv_istore_n (lv' := [(0, .int x1)]) hx hb dJ6_bitCount_0f7a4_9 rfl hl (by decide) rfl (fun ls hl => ?_)
  refine lv_iload_n hx hb dJ6_bitCount_0f7a4_10 rfl (lv_at hl 0 rfl) ?_
  refine lv_ldcw (v := (858993459 : Int32)) hx hb hown (hts (.constant RJ6 266 (858993459 : Int32)) (by decide +kernel)) dJ6_bitCount_0f7a4_11 ?_
  refine lv_iand hx hb dJ6_bitCount_0f7a4_14 ?_
  refine lv_iload_n hx hb dJ6_bitCount_0f7a4_15 rfl (lv_at hl 0 rfl) ?_
  refine lv_iconst (v := (2 : Int32)) hx hb dJ6_bitCount_0f7a4_16 (by decide) ?_
  refine lv_iushr (v := (ushI x1 (2 : Int32))) hx hb dJ6_bitCount_0f7a4_17 rfl ?_
  refine lv_ldcw (v := (858993459 : Int32)) hx hb hown (hts (.constant RJ6 266 (858993459 : Int32)) (by decide +kernel)) dJ6_bitCount_0f7a4_18 ?_
  refine lv_iand hx hb dJ6_bitCount_0f7a4_21 ?_
  refine lv_iadd hx hb dJ6_bitCount_0f7a4_22 ?_
  refine lv_topi (fun x2 ex2 => ?_)
  have hf := lt_n hf x2 ex2
  refine lv_istore_n (lv' := [(0, .int x2)]) hx hb dJ6_bitCount_0f7a4_23 rfl hl (by decide) rfl (fun ls hl => ?_)
  refine lv_iload_n hx hb dJ6_bitCount_0f7a4_24 rfl (lv_at hl 0 rfl) ?_
  refine lv_iload_n hx hb dJ6_bitCount_0f7a4_25 rfl (lv_at hl 0 rfl) ?_
  refine lv_iconst (v := (4 : Int32)) hx hb dJ6_bitCount_0f7a4_26 (by decide) ?_
  refine lv_iushr (v := (ushI x2 (4 : Int32))) hx hb dJ6_bitCount_0f7a4_27 rfl ?_
  refine lv_iadd hx hb dJ6_bitCount_0f7a4_28 ?_
  refine lv_ldcw (v := (252645135 : Int32)) hx hb hown (hts (.constant RJ6 267 (252645135 : Int32)) (by decide +kernel)) dJ6_bitCount_0f7a4_29 ?_
  refine lv_iand hx hb dJ6_bitCount_0f7a4_32 ?_
  refine lv_topi (fun x3 ex3 => ?_)
  have hf := lt_n hf x3 ex3
  refine lv_istore_n (lv' := [(0, .int x3)]) hx hb dJ6_bitCount_0f7a4_33 rfl hl (by decide) rfl (fun ls hl => ?_)
  refine lv_iload_n hx hb dJ6_bitCount_0f7a4_34 rfl (lv_at hl 0 rfl) ?_
  refine lv_iload_n hx hb dJ6_bitCount_0f7a4_35 rfl (lv_at hl 0 rfl) ?_
  refine lv_bipush (v := (8 : Int32)) hx hb dJ6_bitCount_0f7a4_36 (by decide) ?_
  refine lv_iushr (v := (ushI x3 (8 : Int32))) hx hb dJ6_bitCount_0f7a4_38 rfl ?_
  refine lv_iadd hx hb dJ6_bitCount_0f7a4_39 ?_
  refine lv_topi (fun x4 ex4 => ?_)
  have hf := lt_n hf x4 ex4
  refine lv_istore_n (lv' := [(0, .int x4)]) hx hb dJ6_bitCount_0f7a4_40 rfl hl (by decide) rfl (fun ls hl => ?_)
  refine lv_iload_n hx hb dJ6_bitCount_0f7a4_41 rfl (lv_at hl 0 rfl) ?_
  refine lv_iload_n hx hb dJ6_bitCount_0f7a4_42 rfl (lv_at hl 0 rfl) ?_
  refine lv_bipush (v := (16 : Int32)) hx hb dJ6_bitCount_0f7a4_43 (by decide) ?_
  refine lv_iushr (v := (ushI x4 (16 : Int32))) hx hb dJ6_bitCount_0f7a4_45 rfl ?_
  refine lv_iadd hx hb dJ6_bitCount_0f7a4_46 ?_
  refine lv_topi (fun x5 ex5 => ?_)
  have hf := lt_n hf x5 ex5
  refine lv_istore_n (lv' := [(0, .int x5)]) hx hb dJ6_bitCount_0f7a4_47 rfl hl (by decide) rfl (fun ls hl => ?_)
  refine lv_iload_n hx hb dJ6_bitCount_0f7a4_48 rfl (lv_at hl 0 rfl) ?_
  refine lv_bipush (v := (63 : Int32)) hx hb dJ6_bitCount_0f7a4_49 (by decide) ?_
  refine lv_iand hx hb dJ6_bitCount_0f7a4_51 ?_
  rw [← Option.some.inj hf]
  exact rt_i (u := ()) hx hb hr hlocks hP hD trivial hS dJ6_bitCount_0f7a4_52
-- method J13_bitCount_95d88
def f_J13_bitCount_95d88 (a0 : Int64) : Option (Int32) :=
  lt (a0 - ((ushL a0 (1 : Int32)) &&& (6148914691236517205 : Int64))) (fun x1 => lt ((x1 &&& (3689348814741910323 : Int64)) + ((ushL x1 (2 : Int32)) &&& (3689348814741910323 : Int64))) (fun x2 => lt ((x2 + (ushL x2 (4 : Int32))) &&& (1085102592571150095 : Int64)) (fun x3 => lt (x3 + (ushL x3 (8 : Int32))) (fun x4 => lt (x4 + (ushL x4 (16 : Int32))) (fun x5 => lt (x5 + (ushL x5 (32 : Int32))) (fun x6 => some ((((x6).toInt32) &&& (127 : Int32)))))))))
set_option maxHeartbeats 4000000 in
set_option maxRecDepth 100000 in
theorem c_J13_bitCount_95d88 (l : Launch) (G : GG) (sz : Nat)  (a0 : Int64) (o : Int32) (ho : f_J13_bitCount_95d88 a0 = some o)  : Met l yJ13_bitCount_95d88 wsJ13_bitCount_95d88 ({ frames := 0, cells := 0, slots := 0, locals := 0 } : Room) (pcA G [.long a0] [] sz) (qcI Unit G o (fun _ => True) (fun _ => []) (va_A [] sz)) 0 0 (va_A [] sz) := by
  refine Met.ofW (cc := cJ13_bitCount_95d88) (maxL := 2) (ret := (some .int)) (by decide) rfl ?_
  intro p e s m args below meth c s₁ B hml hv
  obtain ⟨rfl, hsz, hP, hg, hD0, hc⟩ := hv
  have hx := B.exec
  have hb := B.bytes
  have hr := B.returns
  have hts := atoms_spec (ws := wsJ13_bitCount_95d88) B.pre
  have hown : s.vm.findClass RJ13 = some m.cls := findClass_of_methodNamed B.named
  have hlocks := B.notSynchronized
  subst hsz
  have hD := hD0.self (sz := s.heap.size)
  generalize hAe : va_A [] s.heap.size = A at hD hc ⊢
  have hA : ∀ q : Nat, s.heap.size ≤ q → A q := fun q h => by rw [← hAe]; exact Or.inr h
  have hl := lv_entry ([.long a0]) (n := 2) (Nat.le_of_ble_eq_true rfl)
  rw [lg_entry_eq]
  generalize (lg_sl ([.long a0]) ++ List.replicate (2 - (lg_sl ([.long a0])).length) Slot.unset).toArray = ls at hl ⊢
  have hl : lv_has ls 2 [(0, .long a0)] := hl
  have hf := ho
  unfold f_J13_bitCount_95d88 at hf
  refine en (fun H locs hP hD hS => ?_) hP hD
  refine lv_lload_n hx hb dJ13_bitCount_95d88_0 rfl (lv_at hl 0 rfl) ?_
  refine lv_lload_n hx hb dJ13_bitCount_95d88_1 rfl (lv_at hl 0 rfl) ?_
  refine lv_iconst (v := (1 : Int32)) hx hb dJ13_bitCount_95d88_2 (by decide) ?_
  refine lv_lushr (v := (ushL a0 (1 : Int32))) hx hb dJ13_bitCount_95d88_3 rfl ?_
  refine lv_ldc2 (v := (6148914691236517205 : Int64)) hx hb hown (hts (.constantLong RJ13 314 (6148914691236517205 : Int64)) (by decide +kernel)) dJ13_bitCount_95d88_4 ?_
  refine lv_land hx hb dJ13_bitCount_95d88_7 ?_
  refine lv_lsub hx hb dJ13_bitCount_95d88_8 ?_
  refine lv_topl (fun x1 ex1 => ?_)
  have hf := lt_n hf x1 ex1
  refine lv_lstore_n (lv' := [(0, .long x1)]) hx hb dJ13_bitCount_95d88_9 rfl hl (by decide) rfl (fun ls hl => ?_)
  refine lv_lload_n hx hb dJ13_bitCount_95d88_10 rfl (lv_at hl 0 rfl) ?_
  refine lv_ldc2 (v := (3689348814741910323 : Int64)) hx hb hown (hts (.constantLong RJ13 316 (3689348814741910323 : Int64)) (by decide +kernel)) dJ13_bitCount_95d88_11 ?_
  refine lv_land hx hb dJ13_bitCount_95d88_14 ?_
  refine lv_lload_n hx hb dJ13_bitCount_95d88_15 rfl (lv_at hl 0 rfl) ?_
  refine lv_iconst (v := (2 : Int32)) hx hb dJ13_bitCount_95d88_16 (by decide) ?_
  refine lv_lushr (v := (ushL x1 (2 : Int32))) hx hb dJ13_bitCount_95d88_17 rfl ?_
  refine lv_ldc2 (v := (3689348814741910323 : Int64)) hx hb hown (hts (.constantLong RJ13 316 (3689348814741910323 : Int64)) (by decide +kernel)) dJ13_bitCount_95d88_18 ?_
  refine lv_land hx hb dJ13_bitCount_95d88_21 ?_
  refine lv_ladd hx hb dJ13_bitCount_95d88_22 ?_
  refine lv_topl (fun x2 ex2 => ?_)
  have hf := lt_n hf x2 ex2
  refine lv_lstore_n (lv' := [(0, .long x2)]) hx hb dJ13_bitCount_95d88_23 rfl hl (by decide) rfl (fun ls hl => ?_)
  refine lv_lload_n hx hb dJ13_bitCount_95d88_24 rfl (lv_at hl 0 rfl) ?_
  refine lv_lload_n hx hb dJ13_bitCount_95d88_25 rfl (lv_at hl 0 rfl) ?_
  refine lv_iconst (v := (4 : Int32)) hx hb dJ13_bitCount_95d88_26 (by decide) ?_
  refine lv_lushr (v := (ushL x2 (4 : Int32))) hx hb dJ13_bitCount_95d88_27 rfl ?_
  refine lv_ladd hx hb dJ13_bitCount_95d88_28 ?_
  refine lv_ldc2 (v := (1085102592571150095 : Int64)) hx hb hown (hts (.constantLong RJ13 318 (1085102592571150095 : Int64)) (by decide +kernel)) dJ13_bitCount_95d88_29 ?_
  refine lv_land hx hb dJ13_bitCount_95d88_32 ?_
  refine lv_topl (fun x3 ex3 => ?_)
  have hf := lt_n hf x3 ex3
  refine lv_lstore_n (lv' := [(0, .long x3)]) hx hb dJ13_bitCount_95d88_33 rfl hl (by decide) rfl (fun ls hl => ?_)
  refine lv_lload_n hx hb dJ13_bitCount_95d88_34 rfl (lv_at hl 0 rfl) ?_
  refine lv_lload_n hx hb dJ13_bitCount_95d88_35 rfl (lv_at hl 0 rfl) ?_
  refine lv_bipush (v := (8 : Int32)) hx hb dJ13_bitCount_95d88_36 (by decide) ?_
  refine lv_lushr (v := (ushL x3 (8 : Int32))) hx hb dJ13_bitCount_95d88_38 rfl ?_
  refine lv_ladd hx hb dJ13_bitCount_95d88_39 ?_
  refine lv_topl (fun x4 ex4 => ?_)
  have hf := lt_n hf x4 ex4
  refine lv_lstore_n (lv' := [(0, .long x4)]) hx hb dJ13_bitCount_95d88_40 rfl hl (by decide) rfl (fun ls hl => ?_)
  refine lv_lload_n hx hb dJ13_bitCount_95d88_41 rfl (lv_at hl 0 rfl) ?_
  refine lv_lload_n hx hb dJ13_bitCount_95d88_42 rfl (lv_at hl 0 rfl) ?_
  refine lv_bipush (v := (16 : Int32)) hx hb dJ13_bitCount_95d88_43 (by decide) ?_
  refine lv_lushr (v := (ushL x4 (16 : Int32))) hx hb dJ13_bitCount_95d88_45 rfl ?_
  refine lv_ladd hx hb dJ13_bitCount_95d88_46 ?_
  refine lv_topl (fun x5 ex5 => ?_)
  have hf := lt_n hf x5 ex5
  refine lv_lstore_n (lv' := [(0, .long x5)]) hx hb dJ13_bitCount_95d88_47 rfl hl (by decide) rfl (fun ls hl => ?_)
  refine lv_lload_n hx hb dJ13_bitCount_95d88_48 rfl (lv_at hl 0 rfl) ?_
  refine lv_lload_n hx hb dJ13_bitCount_95d88_49 rfl (lv_at hl 0 rfl) ?_
  refine lv_bipush (v := (32 : Int32)) hx hb dJ13_bitCount_95d88_50 (by decide) ?_
  refine lv_lushr (v := (ushL x5 (32 : Int32))) hx hb dJ13_bitCount_95d88_52 rfl ?_
  refine lv_ladd hx hb dJ13_bitCount_95d88_53 ?_
  refine lv_topl (fun x6 ex6 => ?_)
  have hf := lt_n hf x6 ex6
  refine lv_lstore_n (lv' := [(0, .long x6)]) hx hb dJ13_bitCount_95d88_54 rfl hl (by decide) rfl (fun ls hl => ?_)
  refine lv_lload_n hx hb dJ13_bitCount_95d88_55 rfl (lv_at hl 0 rfl) ?_
  refine lv_l2i (v := (x6).toInt32) hx hb dJ13_bitCount_95d88_56 rfl ?_
  refine lv_bipush (v := (127 : Int32)) hx hb dJ13_bitCount_95d88_57 (by decide) ?_
  refine lv_iand hx hb dJ13_bitCount_95d88_59 ?_
  rw [← Option.some.inj hf]
  exact rt_i (u := ()) hx hb hr hlocks hP hD trivial hS dJ13_bitCount_95d88_60
-- method J0_coder_7d493
def f_J0_coder_7d493 (a0 : Nat) : Option (Int32) :=
  if (1 : Int32) = (0 : Int32) then some ((1 : Int32)) else some ((0 : Int32))
set_option maxHeartbeats 4000000 in
set_option maxRecDepth 100000 in
theorem c_J0_coder_7d493 (l : Launch) (G : GG) (sz : Nat)  (a0 : Nat) (o : Int32) (ho : f_J0_coder_7d493 a0 = some o) (hs_a0 : a0 < 5) : Met l yJ0_coder_7d493 wsJ0_coder_7d493 ({ frames := 0, cells := 0, slots := 0, locals := 0 } : Room) (pcA G [.ref (G.2.2.2.1 a0)] [] sz) (qcI Unit G o (fun _ => True) (fun _ => []) (va_A [] sz)) 0 0 (va_A [] sz) := by
  refine Met.ofW (cc := cJ0_coder_7d493) (maxL := 1) (ret := (some .byte)) (by decide) rfl ?_
  intro p e s m args below meth c s₁ B hml hv
  obtain ⟨rfl, hsz, hP, hg, hD0, hc⟩ := hv
  have hx := B.exec
  have hb := B.bytes
  have hr := B.returns
  have hts := atoms_spec (ws := wsJ0_coder_7d493) B.pre
  have hown : s.vm.findClass RJ0 = some m.cls := findClass_of_methodNamed B.named
  have hlocks := B.notSynchronized
  subst hsz
  have hD := hD0.self (sz := s.heap.size)
  generalize hAe : va_A [] s.heap.size = A at hD hc ⊢
  have hA : ∀ q : Nat, s.heap.size ≤ q → A q := fun q h => by rw [← hAe]; exact Or.inr h
  have hl := lv_entry ([.ref (G.2.2.2.1 a0)]) (n := 1) (Nat.le_of_ble_eq_true rfl)
  rw [lg_entry_eq]
  generalize (lg_sl ([.ref (G.2.2.2.1 a0)]) ++ List.replicate (1 - (lg_sl ([.ref (G.2.2.2.1 a0)])).length) Slot.unset).toArray = ls at hl ⊢
  have hl : lv_has ls 1 [(0, .ref (G.2.2.2.1 a0))] := hl
  have hf := ho
  unfold f_J0_coder_7d493 at hf
  refine en (fun H locs hP hD hS => ?_) hP hD
  refine va_gets hx hb hc.2.2.2.1 hS hown (hts (.fieldLink RJ0 38 "java/lang/String" "COMPACT_STRINGS" "Z") (by decide +kernel)) (fun _ h9 => h9) dJ0_coder_7d493_0 ?_
  refine lv_if_eq (tgt := 13) hx hb dJ0_coder_7d493_3 (by decide) (fun c1 => ?_) (fun c1 => ?_)
  · have hf := it_t c1 hf
    refine lv_iconst (v := (1 : Int32)) hx hb dJ0_coder_7d493_13 (by decide) ?_
    rw [← Option.some.inj hf]
    exact rt_c (u := ()) hx hb hr rfl hlocks hP hD trivial hS dJ0_coder_7d493_14
  · have hf := it_f c1 hf
    refine lv_aload_n hx hb dJ0_coder_7d493_6 rfl (lv_at hl 0 rfl) ?_
    refine vk_getf hx hb (hc.2.2.1.1 _ hs_a0).2.1 hS hown (hts (.fieldLink RJ0 15 "java/lang/String" "coder" "B") (by decide +kernel)) (fun _ h9 => h9) dJ0_coder_7d493_7 ?_
    refine lv_goto (tgt := 14) hx hb dJ0_coder_7d493_10 (by decide) ?_
    rw [← Option.some.inj hf]
    exact rt_c (u := ()) hx hb hr rfl hlocks hP hD trivial hS dJ0_coder_7d493_14
-- method J0_isLatin1_aae02
def f_J0_isLatin1_aae02 (a0 : Nat) : Option (Int32) :=
  if (1 : Int32) = (0 : Int32) then some ((0 : Int32)) else if (0 : Int32) = (0 : Int32) then some ((1 : Int32)) else some ((0 : Int32))
set_option maxHeartbeats 4000000 in
set_option maxRecDepth 100000 in
theorem c_J0_isLatin1_aae02 (l : Launch) (G : GG) (sz : Nat)  (a0 : Nat) (o : Int32) (ho : f_J0_isLatin1_aae02 a0 = some o) (hs_a0 : a0 < 5) : Met l yJ0_isLatin1_aae02 wsJ0_isLatin1_aae02 ({ frames := 0, cells := 0, slots := 0, locals := 0 } : Room) (pcA G [.ref (G.2.2.2.1 a0)] [] sz) (qcI Unit G o (fun _ => True) (fun _ => []) (va_A [] sz)) 0 0 (va_A [] sz) := by
  refine Met.ofW (cc := cJ0_isLatin1_aae02) (maxL := 1) (ret := (some .boolean)) (by decide) rfl ?_
  intro p e s m args below meth c s₁ B hml hv
  obtain ⟨rfl, hsz, hP, hg, hD0, hc⟩ := hv
  have hx := B.exec
  have hb := B.bytes
  have hr := B.returns
  have hts := atoms_spec (ws := wsJ0_isLatin1_aae02) B.pre
  have hown : s.vm.findClass RJ0 = some m.cls := findClass_of_methodNamed B.named
  have hlocks := B.notSynchronized
  subst hsz
  have hD := hD0.self (sz := s.heap.size)
  generalize hAe : va_A [] s.heap.size = A at hD hc ⊢
  have hA : ∀ q : Nat, s.heap.size ≤ q → A q := fun q h => by rw [← hAe]; exact Or.inr h
  have hl := lv_entry ([.ref (G.2.2.2.1 a0)]) (n := 1) (Nat.le_of_ble_eq_true rfl)
  rw [lg_entry_eq]
  generalize (lg_sl ([.ref (G.2.2.2.1 a0)]) ++ List.replicate (1 - (lg_sl ([.ref (G.2.2.2.1 a0)])).length) Slot.unset).toArray = ls at hl ⊢
  have hl : lv_has ls 1 [(0, .ref (G.2.2.2.1 a0))] := hl
  have hf := ho
  unfold f_J0_isLatin1_aae02 at hf
  refine en (fun H locs hP hD hS => ?_) hP hD
  refine va_gets hx hb hc.2.2.2.1 hS hown (hts (.fieldLink RJ0 38 "java/lang/String" "COMPACT_STRINGS" "Z") (by decide +kernel)) (fun _ h9 => h9) dJ0_isLatin1_aae02_0 ?_
  refine lv_if_eq (tgt := 17) hx hb dJ0_isLatin1_aae02_3 (by decide) (fun c1 => ?_) (fun c1 => ?_)
  · have hf := it_t c1 hf
    refine lv_iconst (v := (0 : Int32)) hx hb dJ0_isLatin1_aae02_17 (by decide) ?_
    rw [← Option.some.inj hf]
    exact rt_z (u := ()) hx hb hr zb_0 hlocks hP hD trivial hS dJ0_isLatin1_aae02_18
  · have hf := it_f c1 hf
    refine lv_aload_n hx hb dJ0_isLatin1_aae02_6 rfl (lv_at hl 0 rfl) ?_
    refine vk_getf hx hb (hc.2.2.1.1 _ hs_a0).2.1 hS hown (hts (.fieldLink RJ0 15 "java/lang/String" "coder" "B") (by decide +kernel)) (fun _ h9 => h9) dJ0_isLatin1_aae02_7 ?_
    refine lv_if_ne (tgt := 17) hx hb dJ0_isLatin1_aae02_10 (by decide) (fun c2 => ?_) (fun c2 => ?_)
    · have hf := it_f c2 hf
      refine lv_iconst (v := (0 : Int32)) hx hb dJ0_isLatin1_aae02_17 (by decide) ?_
      rw [← Option.some.inj hf]
      exact rt_z (u := ()) hx hb hr zb_0 hlocks hP hD trivial hS dJ0_isLatin1_aae02_18
    · have hf := it_t c2 hf
      refine lv_iconst (v := (1 : Int32)) hx hb dJ0_isLatin1_aae02_13 (by decide) ?_
      refine lv_goto (tgt := 18) hx hb dJ0_isLatin1_aae02_14 (by decide) ?_
      rw [← Option.some.inj hf]
      exact rt_z (u := ()) hx hb hr zb_1 hlocks hP hD trivial hS dJ0_isLatin1_aae02_18
-- method J0_length_8abf5
def f_J0_length_8abf5 (a0 : Nat) : Option (Int32) :=
  bd (f_J0_coder_7d493 a0) (fun o1 => some (((slen a0) >>> (o1 &&& 31))))
set_option maxHeartbeats 4000000 in
set_option maxRecDepth 100000 in
theorem c_J0_length_8abf5 (l : Launch) (G : GG) (sz : Nat)  (a0 : Nat) (o : Int32) (ho : f_J0_length_8abf5 a0 = some o) (hs_a0 : a0 < 5) : Met l yJ0_length_8abf5 wsJ0_length_8abf5 ({ frames := 1, cells := 0, slots := 0, locals := 20 } : Room) (pcA G [.ref (G.2.2.2.1 a0)] [] sz) (qcI Unit G o (fun _ => True) (fun _ => []) (va_A [] sz)) 0 0 (va_A [] sz) := by
  refine Met.ofW (cc := cJ0_length_8abf5) (maxL := 1) (ret := (some .int)) (by decide) rfl ?_
  intro p e s m args below meth c s₁ B hml hv
  obtain ⟨rfl, hsz, hP, hg, hD0, hc⟩ := hv
  have hx := B.exec
  have hb := B.bytes
  have hr := B.returns
  have hts := atoms_spec (ws := wsJ0_length_8abf5) B.pre
  have hown : s.vm.findClass RJ0 = some m.cls := findClass_of_methodNamed B.named
  have hlocks := B.notSynchronized
  subst hsz
  have hD := hD0.self (sz := s.heap.size)
  generalize hAe : va_A [] s.heap.size = A at hD hc ⊢
  have hA : ∀ q : Nat, s.heap.size ≤ q → A q := fun q h => by rw [← hAe]; exact Or.inr h
  have hl := lv_entry ([.ref (G.2.2.2.1 a0)]) (n := 1) (Nat.le_of_ble_eq_true rfl)
  rw [lg_entry_eq]
  generalize (lg_sl ([.ref (G.2.2.2.1 a0)]) ++ List.replicate (1 - (lg_sl ([.ref (G.2.2.2.1 a0)])).length) Slot.unset).toArray = ls at hl ⊢
  have hl : lv_has ls 1 [(0, .ref (G.2.2.2.1 a0))] := hl
  have hf := ho
  unfold f_J0_length_8abf5 at hf
  refine en (fun H locs hP hD hS => ?_) hP hD
  refine lv_aload_n hx hb dJ0_length_8abf5_0 rfl (lv_at hl 0 rfl) ?_
  refine vk_getf hx hb (hc.2.2.1.1 _ hs_a0).2.2.1 hS hown (hts (.fieldLink RJ0 9 "java/lang/String" "value" "[B") (by decide +kernel)) (fun _ h9 => h9) dJ0_length_8abf5_1 ?_
  refine va_tlen (v := (slen a0)) hx hb (hc.2.2.1.1 _ hs_a0).2.2.2 hS rfl dJ0_length_8abf5_4 ?_
  refine lv_aload_n hx hb dJ0_length_8abf5_5 rfl (lv_at hl 0 rfl) ?_
  obtain ⟨o1, ho1, hf⟩ := bd_e hf
  refine af0_i (va_runV (As := []) (rest := [.int (slen a0)]) ⟨hx, hb, hml, hown, hts⟩ (c_J0_coder_7d493 l G H.size a0 o1 ho1 hs_a0) (cwV 0 hts gJ0_length_8abf5_J0_coder_7d493 rfl rfl rfl (by decide +kernel) ⟨Nat.le_of_ble_eq_true rfl, Nat.le_of_ble_eq_true rfl⟩) ⟨pcA_blind, vk_recv hc.2.2.1 hs_a0 hS, (pcA_pre hg hc hP hD hS hA [] rfl rfl (.ref (G.2.2.2.1 a0) :: [])).2⟩ rfl rfl hl.1 rfl (lv_room (Nat.le_of_ble_eq_true rfl)) dJ0_length_8abf5_6 ⟨Nat.zero_le _, Nat.zero_le _⟩) hP hD hS hA (fun H locs hP hD hS => ?_)
  refine lv_ishr hx hb dJ0_length_8abf5_9 ?_
  rw [← Option.some.inj hf]
  exact rt_i (u := ()) hx hb hr hlocks hP hD trivial hS dJ0_length_8abf5_10
-- method J3_checkIndex_8e157
def f_J3_checkIndex_8e157 (a0 : Int32) (a1 : Int32) : Option (Int32) :=
  if a0 < (0 : Int32) then none else if a0 < a1 then some (a0) else none
set_option maxHeartbeats 4000000 in
set_option maxRecDepth 100000 in
theorem c_J3_checkIndex_8e157_n (l : Launch) (G : GG) (sz : Nat)  (a0 : Int32) (a1 : Int32) (o : Int32) (ho : f_J3_checkIndex_8e157 a0 a1 = some o)  : Met l yJ3_checkIndex_8e157 wsJ3_checkIndex_8e157 ({ frames := 0, cells := 0, slots := 0, locals := 0 } : Room) (pcA G [.int a0, .int a1, .null] [] sz) (qcI Unit G o (fun _ => True) (fun _ => []) (va_A [] sz)) 0 0 (va_A [] sz) := by
  refine Met.ofW (cc := cJ3_checkIndex_8e157) (maxL := 3) (ret := (some .int)) (by decide) rfl ?_
  intro p e s m args below meth c s₁ B hml hv
  obtain ⟨rfl, hsz, hP, hg, hD0, hc⟩ := hv
  have hx := B.exec
  have hb := B.bytes
  have hr := B.returns
  have hts := atoms_spec (ws := wsJ3_checkIndex_8e157) B.pre
  have hown : s.vm.findClass RJ3 = some m.cls := findClass_of_methodNamed B.named
  have hlocks := B.notSynchronized
  subst hsz
  have hD := hD0.self (sz := s.heap.size)
  generalize hAe : va_A [] s.heap.size = A at hD hc ⊢
  have hA : ∀ q : Nat, s.heap.size ≤ q → A q := fun q h => by rw [← hAe]; exact Or.inr h
  have hl := lv_entry ([.int a0, .int a1, .null]) (n := 3) (Nat.le_of_ble_eq_true rfl)
  rw [lg_entry_eq]
  generalize (lg_sl ([.int a0, .int a1, .null]) ++ List.replicate (3 - (lg_sl ([.int a0, .int a1, .null])).length) Slot.unset).toArray = ls at hl ⊢
  have hl : lv_has ls 3 [(0, .int a0), (1, .int a1), (2, .null)] := hl
  have hf := ho
  unfold f_J3_checkIndex_8e157 at hf
  refine en (fun H locs hP hD hS => ?_) hP hD
  refine lv_iload_n hx hb dJ3_checkIndex_8e157_0 rfl (lv_at hl 0 rfl) ?_
  refine lv_if_lt (tgt := 9) hx hb dJ3_checkIndex_8e157_1 (by decide) (fun c1 => ?_) (fun c1 => ?_)
  · have hf := it_t c1 hf
    cases hf
  · have hf := it_f c1 hf
    refine lv_iload_n hx hb dJ3_checkIndex_8e157_4 rfl (lv_at hl 0 rfl) ?_
    refine lv_iload_n hx hb dJ3_checkIndex_8e157_5 rfl (lv_at hl 1 rfl) ?_
    refine lv_icmp_lt (tgt := 16) hx hb dJ3_checkIndex_8e157_6 (by decide) (fun c2 => ?_) (fun c2 => ?_)
    · have hf := it_t c2 hf
      refine lv_iload_n hx hb dJ3_checkIndex_8e157_16 rfl (lv_at hl 0 rfl) ?_
      rw [← Option.some.inj hf]
      exact rt_i (u := ()) hx hb hr hlocks hP hD trivial hS dJ3_checkIndex_8e157_17
    · have hf := it_f c2 hf
      cases hf
set_option maxHeartbeats 4000000 in
set_option maxRecDepth 100000 in
theorem c_J3_checkIndex_8e157_r (l : Launch) (G : GG) (sz : Nat)  (a0 : Int32) (a1 : Int32) (a2 : Nat) (o : Int32) (ho : f_J3_checkIndex_8e157 a0 a1 = some o)  : Met l yJ3_checkIndex_8e157 wsJ3_checkIndex_8e157 ({ frames := 0, cells := 0, slots := 0, locals := 0 } : Room) (pcA G [.int a0, .int a1, .ref a2] [] sz) (qcI Unit G o (fun _ => True) (fun _ => []) (va_A [] sz)) 0 0 (va_A [] sz) := by
  refine Met.ofW (cc := cJ3_checkIndex_8e157) (maxL := 3) (ret := (some .int)) (by decide) rfl ?_
  intro p e s m args below meth c s₁ B hml hv
  obtain ⟨rfl, hsz, hP, hg, hD0, hc⟩ := hv
  have hx := B.exec
  have hb := B.bytes
  have hr := B.returns
  have hts := atoms_spec (ws := wsJ3_checkIndex_8e157) B.pre
  have hown : s.vm.findClass RJ3 = some m.cls := findClass_of_methodNamed B.named
  have hlocks := B.notSynchronized
  subst hsz
  have hD := hD0.self (sz := s.heap.size)
  generalize hAe : va_A [] s.heap.size = A at hD hc ⊢
  have hA : ∀ q : Nat, s.heap.size ≤ q → A q := fun q h => by rw [← hAe]; exact Or.inr h
  have hl := lv_entry ([.int a0, .int a1, .ref a2]) (n := 3) (Nat.le_of_ble_eq_true rfl)
  rw [lg_entry_eq]
  generalize (lg_sl ([.int a0, .int a1, .ref a2]) ++ List.replicate (3 - (lg_sl ([.int a0, .int a1, .ref a2])).length) Slot.unset).toArray = ls at hl ⊢
  have hl : lv_has ls 3 [(0, .int a0), (1, .int a1), (2, .ref a2)] := hl
  have hf := ho
  unfold f_J3_checkIndex_8e157 at hf
  refine en (fun H locs hP hD hS => ?_) hP hD
  refine lv_iload_n hx hb dJ3_checkIndex_8e157_0 rfl (lv_at hl 0 rfl) ?_
  refine lv_if_lt (tgt := 9) hx hb dJ3_checkIndex_8e157_1 (by decide) (fun c1 => ?_) (fun c1 => ?_)
  · have hf := it_t c1 hf
    cases hf
  · have hf := it_f c1 hf
    refine lv_iload_n hx hb dJ3_checkIndex_8e157_4 rfl (lv_at hl 0 rfl) ?_
    refine lv_iload_n hx hb dJ3_checkIndex_8e157_5 rfl (lv_at hl 1 rfl) ?_
    refine lv_icmp_lt (tgt := 16) hx hb dJ3_checkIndex_8e157_6 (by decide) (fun c2 => ?_) (fun c2 => ?_)
    · have hf := it_t c2 hf
      refine lv_iload_n hx hb dJ3_checkIndex_8e157_16 rfl (lv_at hl 0 rfl) ?_
      rw [← Option.some.inj hf]
      exact rt_i (u := ()) hx hb hr hlocks hP hD trivial hS dJ3_checkIndex_8e157_17
    · have hf := it_f c2 hf
      cases hf
-- method J0_checkIndex_df160
def f_J0_checkIndex_df160 (a0 : Int32) (a1 : Int32) : Option (Unit) :=
  bd (f_J3_checkIndex_8e157 a0 a1) (fun o1 => some ())
set_option maxHeartbeats 4000000 in
set_option maxRecDepth 100000 in
theorem c_J0_checkIndex_df160 (l : Launch) (G : GG) (sz : Nat)  (a0 : Int32) (a1 : Int32) (o : Unit) (ho : f_J0_checkIndex_df160 a0 a1 = some o)  : Met l yJ0_checkIndex_df160 wsJ0_checkIndex_df160 ({ frames := 1, cells := 0, slots := 0, locals := 22 } : Room) (pcA G [.int a0, .int a1] [] sz) (qcV Unit G (fun _ => True) (fun _ => []) (va_A [] sz)) 0 0 (va_A [] sz) := by
  refine Met.ofW (cc := cJ0_checkIndex_df160) (maxL := 2) (ret := none) (by decide) rfl ?_
  intro p e s m args below meth c s₁ B hml hv
  obtain ⟨rfl, hsz, hP, hg, hD0, hc⟩ := hv
  have hx := B.exec
  have hb := B.bytes
  have hr := B.returns
  have hts := atoms_spec (ws := wsJ0_checkIndex_df160) B.pre
  have hown : s.vm.findClass RJ0 = some m.cls := findClass_of_methodNamed B.named
  have hlocks := B.notSynchronized
  subst hsz
  have hD := hD0.self (sz := s.heap.size)
  generalize hAe : va_A [] s.heap.size = A at hD hc ⊢
  have hA : ∀ q : Nat, s.heap.size ≤ q → A q := fun q h => by rw [← hAe]; exact Or.inr h
  have hl := lv_entry ([.int a0, .int a1]) (n := 2) (Nat.le_of_ble_eq_true rfl)
  rw [lg_entry_eq]
  generalize (lg_sl ([.int a0, .int a1]) ++ List.replicate (2 - (lg_sl ([.int a0, .int a1])).length) Slot.unset).toArray = ls at hl ⊢
  have hl : lv_has ls 2 [(0, .int a0), (1, .int a1)] := hl
  have hf := ho
  unfold f_J0_checkIndex_df160 at hf
  refine en (fun H locs hP hD hS => ?_) hP hD
  refine lv_iload_n hx hb dJ0_checkIndex_df160_0 rfl (lv_at hl 0 rfl) ?_
  refine lv_iload_n hx hb dJ0_checkIndex_df160_1 rfl (lv_at hl 1 rfl) ?_
  rcases hc.2.2.2.2.1 with hZ | ⟨tz, hZ⟩
  · refine va_gets hx hb hZ hS hown (hts (.fieldLink RJ0 1053 "jdk/internal/util/Preconditions" "SIOOBE_FORMATTER" "Ljava/util/function/BiFunction;") (by decide +kernel)) (fun _ h9 => h9) dJ0_checkIndex_df160_2 ?_
    obtain ⟨o1, ho1, hf⟩ := bd_e hf
    refine af0_i (va_runS (As := [.int a0, .int a1, .null]) (rest := []) ⟨hx, hb, hml, hown, hts⟩ (c_J3_checkIndex_8e157_n l G H.size a0 a1 o1 ho1) (va_cwS 3 hts gJ0_checkIndex_df160_J3_checkIndex_8e157 rfl rfl rfl (by decide +kernel) ⟨Nat.le_of_ble_eq_true rfl, Nat.le_of_ble_eq_true rfl⟩) (pcA_pre hg hc hP hD hS hA [] rfl rfl [.int a0, .int a1, .null]) rfl rfl hl.1 rfl (lv_room (Nat.le_of_ble_eq_true rfl)) dJ0_checkIndex_df160_5 ⟨Nat.zero_le _, Nat.zero_le _⟩) hP hD hS hA (fun H locs hP hD hS => ?_)
    refine lv_pop hx hb dJ0_checkIndex_df160_8 rfl ?_
    exact rt_v (u := ()) hx hb hr hlocks hP hD trivial hS dJ0_checkIndex_df160_9
  · refine va_gets hx hb hZ hS hown (hts (.fieldLink RJ0 1053 "jdk/internal/util/Preconditions" "SIOOBE_FORMATTER" "Ljava/util/function/BiFunction;") (by decide +kernel)) (fun _ h9 => h9) dJ0_checkIndex_df160_2 ?_
    obtain ⟨o2, ho2, hf⟩ := bd_e hf
    refine af0_i (va_runS (As := [.int a0, .int a1, (.ref tz)]) (rest := []) ⟨hx, hb, hml, hown, hts⟩ (c_J3_checkIndex_8e157_r l G H.size a0 a1 tz o2 ho2) (va_cwS 3 hts gJ0_checkIndex_df160_J3_checkIndex_8e157 rfl rfl rfl (by decide +kernel) ⟨Nat.le_of_ble_eq_true rfl, Nat.le_of_ble_eq_true rfl⟩) (pcA_pre hg hc hP hD hS hA [] rfl rfl [.int a0, .int a1, (.ref tz)]) rfl rfl hl.1 rfl (lv_room (Nat.le_of_ble_eq_true rfl)) dJ0_checkIndex_df160_5 ⟨Nat.zero_le _, Nat.zero_le _⟩) hP hD hS hA (fun H locs hP hD hS => ?_)
    refine lv_pop hx hb dJ0_checkIndex_df160_8 rfl ?_
    exact rt_v (u := ()) hx hb hr hlocks hP hD trivial hS dJ0_checkIndex_df160_9
-- method J1_charAt_3b067
def f_J1_charAt_3b067 (a0 : Nat) (a1 : Int32) : Option (Int32) :=
  bd (f_J0_checkIndex_df160 a1 (slen a0)) (fun o1 => gd (ib a1 (lenS.getD a0 0)) (gd (chb (((((sbyt a0 a1.toNatClampNeg) &&& (255 : Int32))).toUInt32 % 65536).toInt32)) (some ((((((sbyt a0 a1.toNatClampNeg) &&& (255 : Int32))).toUInt32 % 65536).toInt32)))))
set_option maxHeartbeats 4000000 in
set_option maxRecDepth 100000 in
theorem c_J1_charAt_3b067 (l : Launch) (G : GG) (sz : Nat)  (a0 : Nat) (a1 : Int32) (o : Int32) (ho : f_J1_charAt_3b067 a0 a1 = some o) (hs_a0 : a0 < 5) : Met l yJ1_charAt_3b067 wsJ1_charAt_3b067 ({ frames := 2, cells := 0, slots := 0, locals := 43 } : Room) (pcA G [.ref (G.2.2.2.2 a0), .int a1] [] sz) (qcI Unit G o (fun _ => True) (fun _ => []) (va_A [] sz)) 0 0 (va_A [] sz) := by
  refine Met.ofW (cc := cJ1_charAt_3b067) (maxL := 2) (ret := (some .char)) (by decide) rfl ?_
  intro p e s m args below meth c s₁ B hml hv
  obtain ⟨rfl, hsz, hP, hg, hD0, hc⟩ := hv
  have hx := B.exec
  have hb := B.bytes
  have hr := B.returns
  have hts := atoms_spec (ws := wsJ1_charAt_3b067) B.pre
  have hown : s.vm.findClass RJ1 = some m.cls := findClass_of_methodNamed B.named
  have hlocks := B.notSynchronized
  subst hsz
  have hD := hD0.self (sz := s.heap.size)
  generalize hAe : va_A [] s.heap.size = A at hD hc ⊢
  have hA : ∀ q : Nat, s.heap.size ≤ q → A q := fun q h => by rw [← hAe]; exact Or.inr h
  have hl := lv_entry ([.ref (G.2.2.2.2 a0), .int a1]) (n := 2) (Nat.le_of_ble_eq_true rfl)
  rw [lg_entry_eq]
  generalize (lg_sl ([.ref (G.2.2.2.2 a0), .int a1]) ++ List.replicate (2 - (lg_sl ([.ref (G.2.2.2.2 a0), .int a1])).length) Slot.unset).toArray = ls at hl ⊢
  have hl : lv_has ls 2 [(0, .ref (G.2.2.2.2 a0)), (1, .int a1)] := hl
  have hf := ho
  unfold f_J1_charAt_3b067 at hf
  refine en (fun H locs hP hD hS => ?_) hP hD
  refine lv_iload_n hx hb dJ1_charAt_3b067_0 rfl (lv_at hl 1 rfl) ?_
  refine lv_aload_n hx hb dJ1_charAt_3b067_1 rfl (lv_at hl 0 rfl) ?_
  refine va_tlen (v := (slen a0)) hx hb (hc.2.2.1.1 _ hs_a0).2.2.2 hS rfl dJ1_charAt_3b067_2 ?_
  obtain ⟨o1, ho1, hf⟩ := bd_e hf
  refine af0_v (va_runS (As := [.int a1, .int (slen a0)]) (rest := []) ⟨hx, hb, hml, hown, hts⟩ (c_J0_checkIndex_df160 l G H.size a1 (slen a0) o1 ho1) (va_cwS 2 hts gJ1_charAt_3b067_J0_checkIndex_df160 rfl rfl rfl (by decide +kernel) ⟨Nat.le_of_ble_eq_true rfl, Nat.le_of_ble_eq_true rfl⟩) (pcA_pre hg hc hP hD hS hA [] rfl rfl [.int a1, .int (slen a0)]) rfl rfl hl.1 rfl (lv_room (Nat.le_of_ble_eq_true rfl)) dJ1_charAt_3b067_3 ⟨Nat.zero_le _, Nat.zero_le _⟩) hP hD hS hA (fun H locs hP hD hS => ?_)
  refine lv_aload_n hx hb dJ1_charAt_3b067_6 rfl (lv_at hl 0 rfl) ?_
  refine lv_iload_n hx hb dJ1_charAt_3b067_7 rfl (lv_at hl 1 rfl) ?_
  refine va_tb (v := .int (sbyt a0 a1.toNatClampNeg)) hx hb (hc.2.2.1.1 _ hs_a0).2.2.2 hS (ib_in (gd_t hf)) rfl dJ1_charAt_3b067_8 ?_
  have hf := gd_x hf
  refine lv_sipush (v := (255 : Int32)) hx hb dJ1_charAt_3b067_9 (by decide) ?_
  refine lv_iand hx hb dJ1_charAt_3b067_12 ?_
  refine lv_i2c (v := ((((sbyt a0 a1.toNatClampNeg) &&& (255 : Int32))).toUInt32 % 65536).toInt32) hx hb dJ1_charAt_3b067_13 rfl ?_
  have z2 := gd_t hf
  have hf := gd_x hf
  rw [← Option.some.inj hf]
  exact rt_c (u := ()) hx hb hr (chb_n z2) hlocks hP hD trivial hS dJ1_charAt_3b067_14
-- method J0_charAt_5068e
def f_J0_charAt_5068e (a0 : Nat) (a1 : Int32) : Option (Int32) :=
  bd (f_J0_isLatin1_aae02 a0) (fun o1 => if o1 = (0 : Int32) then none else bd (f_J1_charAt_3b067 a0 a1) (fun o3 => gd (chb o3) (some (o3))))
set_option maxHeartbeats 4000000 in
set_option maxRecDepth 100000 in
theorem c_J0_charAt_5068e (l : Launch) (G : GG) (sz : Nat)  (a0 : Nat) (a1 : Int32) (o : Int32) (ho : f_J0_charAt_5068e a0 a1 = some o) (hs_a0 : a0 < 5) : Met l yJ0_charAt_5068e wsJ0_charAt_5068e ({ frames := 3, cells := 0, slots := 0, locals := 64 } : Room) (pcA G [.ref (G.2.2.2.1 a0), .int a1] [] sz) (qcI Unit G o (fun _ => True) (fun _ => []) (va_A [] sz)) 0 0 (va_A [] sz) := by
  refine Met.ofW (cc := cJ0_charAt_5068e) (maxL := 2) (ret := (some .char)) (by decide) rfl ?_
  intro p e s m args below meth c s₁ B hml hv
  obtain ⟨rfl, hsz, hP, hg, hD0, hc⟩ := hv
  have hx := B.exec
  have hb := B.bytes
  have hr := B.returns
  have hts := atoms_spec (ws := wsJ0_charAt_5068e) B.pre
  have hown : s.vm.findClass RJ0 = some m.cls := findClass_of_methodNamed B.named
  have hlocks := B.notSynchronized
  subst hsz
  have hD := hD0.self (sz := s.heap.size)
  generalize hAe : va_A [] s.heap.size = A at hD hc ⊢
  have hA : ∀ q : Nat, s.heap.size ≤ q → A q := fun q h => by rw [← hAe]; exact Or.inr h
  have hl := lv_entry ([.ref (G.2.2.2.1 a0), .int a1]) (n := 2) (Nat.le_of_ble_eq_true rfl)
  rw [lg_entry_eq]
  generalize (lg_sl ([.ref (G.2.2.2.1 a0), .int a1]) ++ List.replicate (2 - (lg_sl ([.ref (G.2.2.2.1 a0), .int a1])).length) Slot.unset).toArray = ls at hl ⊢
  have hl : lv_has ls 2 [(0, .ref (G.2.2.2.1 a0)), (1, .int a1)] := hl
  have hf := ho
  unfold f_J0_charAt_5068e at hf
  refine en (fun H locs hP hD hS => ?_) hP hD
  refine lv_aload_n hx hb dJ0_charAt_5068e_0 rfl (lv_at hl 0 rfl) ?_
  obtain ⟨o1, ho1, hf⟩ := bd_e hf
  refine af0_i (va_runV (As := []) (rest := []) ⟨hx, hb, hml, hown, hts⟩ (c_J0_isLatin1_aae02 l G H.size a0 o1 ho1 hs_a0) (cwV 0 hts gJ0_charAt_5068e_J0_isLatin1_aae02 rfl rfl rfl (by decide +kernel) ⟨Nat.le_of_ble_eq_true rfl, Nat.le_of_ble_eq_true rfl⟩) ⟨pcA_blind, vk_recv hc.2.2.1 hs_a0 hS, (pcA_pre hg hc hP hD hS hA [] rfl rfl (.ref (G.2.2.2.1 a0) :: [])).2⟩ rfl rfl hl.1 rfl (lv_room (Nat.le_of_ble_eq_true rfl)) dJ0_charAt_5068e_1 ⟨Nat.zero_le _, Nat.zero_le _⟩) hP hD hS hA (fun H locs hP hD hS => ?_)
  refine lv_if_eq (tgt := 16) hx hb dJ0_charAt_5068e_4 (by decide) (fun c2 => ?_) (fun c2 => ?_)
  · have hf := it_t c2 hf
    cases hf
  · have hf := it_f c2 hf
    refine lv_aload_n hx hb dJ0_charAt_5068e_7 rfl (lv_at hl 0 rfl) ?_
    refine vk_getf hx hb (hc.2.2.1.1 _ hs_a0).2.2.1 hS hown (hts (.fieldLink RJ0 9 "java/lang/String" "value" "[B") (by decide +kernel)) (fun _ h9 => h9) dJ0_charAt_5068e_8 ?_
    refine lv_iload_n hx hb dJ0_charAt_5068e_11 rfl (lv_at hl 1 rfl) ?_
    obtain ⟨o3, ho3, hf⟩ := bd_e hf
    refine af0_i (va_runS (As := [.ref (G.2.2.2.2 a0), .int a1]) (rest := []) ⟨hx, hb, hml, hown, hts⟩ (c_J1_charAt_3b067 l G H.size a0 a1 o3 ho3 hs_a0) (va_cwS 2 hts gJ0_charAt_5068e_J1_charAt_3b067 rfl rfl rfl (by decide +kernel) ⟨Nat.le_of_ble_eq_true rfl, Nat.le_of_ble_eq_true rfl⟩) (pcA_pre hg hc hP hD hS hA [] rfl rfl [.ref (G.2.2.2.2 a0), .int a1]) rfl rfl hl.1 rfl (lv_room (Nat.le_of_ble_eq_true rfl)) dJ0_charAt_5068e_12 ⟨Nat.zero_le _, Nat.zero_le _⟩) hP hD hS hA (fun H locs hP hD hS => ?_)
    have z4 := gd_t hf
    have hf := gd_x hf
    rw [← Option.some.inj hf]
    exact rt_c (u := ()) hx hb hr (chb_n z4) hlocks hP hD trivial hS dJ0_charAt_5068e_15
-- method X7_isWorld
def f_X7_isWorld (a0 : Int32) : Option (Int32) :=
  if a0 < (0 : Int32) then some ((0 : Int32)) else if (64 : Int32) ≤ a0 then some ((0 : Int32)) else some ((1 : Int32))
set_option maxHeartbeats 4000000 in
set_option maxRecDepth 100000 in
theorem c_X7_isWorld (l : Launch) (G : GG) (sz : Nat)  (a0 : Int32) (o : Int32) (ho : f_X7_isWorld a0 = some o)  : Met l yX7_isWorld wsX7_isWorld ({ frames := 0, cells := 0, slots := 0, locals := 0 } : Room) (pcA G [.int a0] [] sz) (qcI Unit G o (fun _ => True) (fun _ => []) (va_A [] sz)) 0 0 (va_A [] sz) := by
  refine Met.ofW (cc := cX7_isWorld) (maxL := 1) (ret := (some .boolean)) (by decide) rfl ?_
  intro p e s m args below meth c s₁ B hml hv
  obtain ⟨rfl, hsz, hP, hg, hD0, hc⟩ := hv
  have hx := B.exec
  have hb := B.bytes
  have hr := B.returns
  have hts := atoms_spec (ws := wsX7_isWorld) B.pre
  have hown : s.vm.findClass RX7 = some m.cls := findClass_of_methodNamed B.named
  have hlocks := B.notSynchronized
  subst hsz
  have hD := hD0.self (sz := s.heap.size)
  generalize hAe : va_A [] s.heap.size = A at hD hc ⊢
  have hA : ∀ q : Nat, s.heap.size ≤ q → A q := fun q h => by rw [← hAe]; exact Or.inr h
  have hl := lv_entry ([.int a0]) (n := 1) (Nat.le_of_ble_eq_true rfl)
  rw [lg_entry_eq]
  generalize (lg_sl ([.int a0]) ++ List.replicate (1 - (lg_sl ([.int a0])).length) Slot.unset).toArray = ls at hl ⊢
  have hl : lv_has ls 1 [(0, .int a0)] := hl
  have hf := ho
  unfold f_X7_isWorld at hf
  refine en (fun H locs hP hD hS => ?_) hP hD
  refine lv_iload_n hx hb dX7_isWorld_0 rfl (lv_at hl 0 rfl) ?_
  refine lv_if_lt (tgt := 14) hx hb dX7_isWorld_1 (by decide) (fun c1 => ?_) (fun c1 => ?_)
  · have hf := it_t c1 hf
    refine lv_iconst (v := (0 : Int32)) hx hb dX7_isWorld_14 (by decide) ?_
    rw [← Option.some.inj hf]
    exact rt_z (u := ()) hx hb hr zb_0 hlocks hP hD trivial hS dX7_isWorld_15
  · have hf := it_f c1 hf
    refine lv_iload_n hx hb dX7_isWorld_4 rfl (lv_at hl 0 rfl) ?_
    refine lv_bipush (v := (64 : Int32)) hx hb dX7_isWorld_5 (by decide) ?_
    refine lv_icmp_ge (tgt := 14) hx hb dX7_isWorld_7 (by decide) (fun c2 => ?_) (fun c2 => ?_)
    · have hf := it_t c2 hf
      refine lv_iconst (v := (0 : Int32)) hx hb dX7_isWorld_14 (by decide) ?_
      rw [← Option.some.inj hf]
      exact rt_z (u := ()) hx hb hr zb_0 hlocks hP hD trivial hS dX7_isWorld_15
    · have hf := it_f c2 hf
      refine lv_iconst (v := (1 : Int32)) hx hb dX7_isWorld_10 (by decide) ?_
      refine lv_goto (tgt := 15) hx hb dX7_isWorld_11 (by decide) ?_
      rw [← Option.some.inj hf]
      exact rt_z (u := ()) hx hb hr zb_1 hlocks hP hD trivial hS dX7_isWorld_15
-- method X7_holds
def f_X7_holds (a0 : Int64) (a2 : Int32) : Option (Int32) :=
  if ((ushL a0 a2) &&& (1 : Int64)) = (0 : Int64) then some ((0 : Int32)) else some ((1 : Int32))
set_option maxHeartbeats 4000000 in
set_option maxRecDepth 100000 in
theorem c_X7_holds (l : Launch) (G : GG) (sz : Nat)  (a0 : Int64) (a2 : Int32) (o : Int32) (ho : f_X7_holds a0 a2 = some o)  : Met l yX7_holds wsX7_holds ({ frames := 0, cells := 0, slots := 0, locals := 0 } : Room) (pcA G [.long a0, .int a2] [] sz) (qcI Unit G o (fun _ => True) (fun _ => []) (va_A [] sz)) 0 0 (va_A [] sz) := by
  refine Met.ofW (cc := cX7_holds) (maxL := 3) (ret := (some .boolean)) (by decide) rfl ?_
  intro p e s m args below meth c s₁ B hml hv
  obtain ⟨rfl, hsz, hP, hg, hD0, hc⟩ := hv
  have hx := B.exec
  have hb := B.bytes
  have hr := B.returns
  have hts := atoms_spec (ws := wsX7_holds) B.pre
  have hown : s.vm.findClass RX7 = some m.cls := findClass_of_methodNamed B.named
  have hlocks := B.notSynchronized
  subst hsz
  have hD := hD0.self (sz := s.heap.size)
  generalize hAe : va_A [] s.heap.size = A at hD hc ⊢
  have hA : ∀ q : Nat, s.heap.size ≤ q → A q := fun q h => by rw [← hAe]; exact Or.inr h
  have hl := lv_entry ([.long a0, .int a2]) (n := 3) (Nat.le_of_ble_eq_true rfl)
  rw [lg_entry_eq]
  generalize (lg_sl ([.long a0, .int a2]) ++ List.replicate (3 - (lg_sl ([.long a0, .int a2])).length) Slot.unset).toArray = ls at hl ⊢
  have hl : lv_has ls 3 [(0, .long a0), (2, .int a2)] := hl
  have hf := ho
  unfold f_X7_holds at hf
  refine en (fun H locs hP hD hS => ?_) hP hD
  refine lv_lload_n hx hb dX7_holds_0 rfl (lv_at hl 0 rfl) ?_
  refine lv_iload_n hx hb dX7_holds_1 rfl (lv_at hl 1 rfl) ?_
  refine lv_lushr (v := (ushL a0 a2)) hx hb dX7_holds_2 rfl ?_
  refine lv_lconst (v := (1 : Int64)) hx hb dX7_holds_3 (by decide) ?_
  refine lv_land hx hb dX7_holds_4 ?_
  refine lv_lconst (v := (0 : Int64)) hx hb dX7_holds_5 (by decide) ?_
  refine W.lcmp hx hb dX7_holds_6 ?_
  refine lv_if_eq (tgt := 14) hx hb dX7_holds_7 (by decide) (fun c1 => ?_) (fun c1 => ?_)
  · have c1 := lgc0.mp c1
    have hf := it_t c1 hf
    refine lv_iconst (v := (0 : Int32)) hx hb dX7_holds_14 (by decide) ?_
    rw [← Option.some.inj hf]
    exact rt_z (u := ()) hx hb hr zb_0 hlocks hP hD trivial hS dX7_holds_15
  · have c1 := fun z => c1 (lgc0.mpr z)
    have hf := it_f c1 hf
    refine lv_iconst (v := (1 : Int32)) hx hb dX7_holds_10 (by decide) ?_
    refine lv_goto (tgt := 15) hx hb dX7_holds_11 (by decide) ?_
    rw [← Option.some.inj hf]
    exact rt_z (u := ()) hx hb hr zb_1 hlocks hP hD trivial hS dX7_holds_15
-- method X7_inSet
def f_X7_inSet (a0 : Int32) (a1 : Int32) : Option (Int32) :=
  if ((ushI a0 a1) &&& (1 : Int32)) = (0 : Int32) then some ((0 : Int32)) else some ((1 : Int32))
set_option maxHeartbeats 4000000 in
set_option maxRecDepth 100000 in
theorem c_X7_inSet (l : Launch) (G : GG) (sz : Nat)  (a0 : Int32) (a1 : Int32) (o : Int32) (ho : f_X7_inSet a0 a1 = some o)  : Met l yX7_inSet wsX7_inSet ({ frames := 0, cells := 0, slots := 0, locals := 0 } : Room) (pcA G [.int a0, .int a1] [] sz) (qcI Unit G o (fun _ => True) (fun _ => []) (va_A [] sz)) 0 0 (va_A [] sz) := by
  refine Met.ofW (cc := cX7_inSet) (maxL := 2) (ret := (some .boolean)) (by decide) rfl ?_
  intro p e s m args below meth c s₁ B hml hv
  obtain ⟨rfl, hsz, hP, hg, hD0, hc⟩ := hv
  have hx := B.exec
  have hb := B.bytes
  have hr := B.returns
  have hts := atoms_spec (ws := wsX7_inSet) B.pre
  have hown : s.vm.findClass RX7 = some m.cls := findClass_of_methodNamed B.named
  have hlocks := B.notSynchronized
  subst hsz
  have hD := hD0.self (sz := s.heap.size)
  generalize hAe : va_A [] s.heap.size = A at hD hc ⊢
  have hA : ∀ q : Nat, s.heap.size ≤ q → A q := fun q h => by rw [← hAe]; exact Or.inr h
  have hl := lv_entry ([.int a0, .int a1]) (n := 2) (Nat.le_of_ble_eq_true rfl)
  rw [lg_entry_eq]
  generalize (lg_sl ([.int a0, .int a1]) ++ List.replicate (2 - (lg_sl ([.int a0, .int a1])).length) Slot.unset).toArray = ls at hl ⊢
  have hl : lv_has ls 2 [(0, .int a0), (1, .int a1)] := hl
  have hf := ho
  unfold f_X7_inSet at hf
  refine en (fun H locs hP hD hS => ?_) hP hD
  refine lv_iload_n hx hb dX7_inSet_0 rfl (lv_at hl 0 rfl) ?_
  refine lv_iload_n hx hb dX7_inSet_1 rfl (lv_at hl 1 rfl) ?_
  refine lv_iushr (v := (ushI a0 a1)) hx hb dX7_inSet_2 rfl ?_
  refine lv_iconst (v := (1 : Int32)) hx hb dX7_inSet_3 (by decide) ?_
  refine lv_iand hx hb dX7_inSet_4 ?_
  refine lv_if_eq (tgt := 12) hx hb dX7_inSet_5 (by decide) (fun c1 => ?_) (fun c1 => ?_)
  · have hf := it_t c1 hf
    refine lv_iconst (v := (0 : Int32)) hx hb dX7_inSet_12 (by decide) ?_
    rw [← Option.some.inj hf]
    exact rt_z (u := ()) hx hb hr zb_0 hlocks hP hD trivial hS dX7_inSet_13
  · have hf := it_f c1 hf
    refine lv_iconst (v := (1 : Int32)) hx hb dX7_inSet_8 (by decide) ?_
    refine lv_goto (tgt := 13) hx hb dX7_inSet_9 (by decide) ?_
    rw [← Option.some.inj hf]
    exact rt_z (u := ()) hx hb hr zb_1 hlocks hP hD trivial hS dX7_inSet_13
-- method X7_allIn
def f_X7_allIn (a0 : Int64) (a2 : Int64) : Option (Int32) :=
  if (a0 &&& (a2 ^^^ (-1 : Int64))) = (0 : Int64) then some ((1 : Int32)) else some ((0 : Int32))
set_option maxHeartbeats 4000000 in
set_option maxRecDepth 100000 in
theorem c_X7_allIn (l : Launch) (G : GG) (sz : Nat)  (a0 : Int64) (a2 : Int64) (o : Int32) (ho : f_X7_allIn a0 a2 = some o)  : Met l yX7_allIn wsX7_allIn ({ frames := 0, cells := 0, slots := 0, locals := 0 } : Room) (pcA G [.long a0, .long a2] [] sz) (qcI Unit G o (fun _ => True) (fun _ => []) (va_A [] sz)) 0 0 (va_A [] sz) := by
  refine Met.ofW (cc := cX7_allIn) (maxL := 4) (ret := (some .boolean)) (by decide) rfl ?_
  intro p e s m args below meth c s₁ B hml hv
  obtain ⟨rfl, hsz, hP, hg, hD0, hc⟩ := hv
  have hx := B.exec
  have hb := B.bytes
  have hr := B.returns
  have hts := atoms_spec (ws := wsX7_allIn) B.pre
  have hown : s.vm.findClass RX7 = some m.cls := findClass_of_methodNamed B.named
  have hlocks := B.notSynchronized
  subst hsz
  have hD := hD0.self (sz := s.heap.size)
  generalize hAe : va_A [] s.heap.size = A at hD hc ⊢
  have hA : ∀ q : Nat, s.heap.size ≤ q → A q := fun q h => by rw [← hAe]; exact Or.inr h
  have hl := lv_entry ([.long a0, .long a2]) (n := 4) (Nat.le_of_ble_eq_true rfl)
  rw [lg_entry_eq]
  generalize (lg_sl ([.long a0, .long a2]) ++ List.replicate (4 - (lg_sl ([.long a0, .long a2])).length) Slot.unset).toArray = ls at hl ⊢
  have hl : lv_has ls 4 [(0, .long a0), (2, .long a2)] := hl
  have hf := ho
  unfold f_X7_allIn at hf
  refine en (fun H locs hP hD hS => ?_) hP hD
  refine lv_lload_n hx hb dX7_allIn_0 rfl (lv_at hl 0 rfl) ?_
  refine lv_lload_n hx hb dX7_allIn_1 rfl (lv_at hl 1 rfl) ?_
  refine lv_ldc2 (v := (-1 : Int64)) hx hb hown (hts (.constantLong RX7 56 (-1 : Int64)) (by decide +kernel)) dX7_allIn_2 ?_
  refine lv_lxor hx hb dX7_allIn_5 ?_
  refine lv_land hx hb dX7_allIn_6 ?_
  refine lv_lconst (v := (0 : Int64)) hx hb dX7_allIn_7 (by decide) ?_
  refine W.lcmp hx hb dX7_allIn_8 ?_
  refine lv_if_ne (tgt := 16) hx hb dX7_allIn_9 (by decide) (fun c1 => ?_) (fun c1 => ?_)
  · have c1 := fun z => c1 (lgc0.mpr z)
    have hf := it_f c1 hf
    refine lv_iconst (v := (0 : Int32)) hx hb dX7_allIn_16 (by decide) ?_
    rw [← Option.some.inj hf]
    exact rt_z (u := ()) hx hb hr zb_0 hlocks hP hD trivial hS dX7_allIn_17
  · have c1 := lgc0.mp c1
    have hf := it_t c1 hf
    refine lv_iconst (v := (1 : Int32)) hx hb dX7_allIn_12 (by decide) ?_
    refine lv_goto (tgt := 17) hx hb dX7_allIn_13 (by decide) ?_
    rw [← Option.some.inj hf]
    exact rt_z (u := ()) hx hb hr zb_1 hlocks hP hD trivial hS dX7_allIn_17
-- method X7_truth
def f_X7_truth (a0 : Int32) : Option (Int32) :=
  if a0 = (0 : Int32) then some ((0 : Int32)) else some ((1 : Int32))
set_option maxHeartbeats 4000000 in
set_option maxRecDepth 100000 in
theorem c_X7_truth (l : Launch) (G : GG) (sz : Nat)  (a0 : Int32) (o : Int32) (ho : f_X7_truth a0 = some o)  : Met l yX7_truth wsX7_truth ({ frames := 0, cells := 0, slots := 0, locals := 0 } : Room) (pcA G [.int a0] [] sz) (qcI Unit G o (fun _ => True) (fun _ => []) (va_A [] sz)) 0 0 (va_A [] sz) := by
  refine Met.ofW (cc := cX7_truth) (maxL := 1) (ret := (some .int)) (by decide) rfl ?_
  intro p e s m args below meth c s₁ B hml hv
  obtain ⟨rfl, hsz, hP, hg, hD0, hc⟩ := hv
  have hx := B.exec
  have hb := B.bytes
  have hr := B.returns
  have hts := atoms_spec (ws := wsX7_truth) B.pre
  have hown : s.vm.findClass RX7 = some m.cls := findClass_of_methodNamed B.named
  have hlocks := B.notSynchronized
  subst hsz
  have hD := hD0.self (sz := s.heap.size)
  generalize hAe : va_A [] s.heap.size = A at hD hc ⊢
  have hA : ∀ q : Nat, s.heap.size ≤ q → A q := fun q h => by rw [← hAe]; exact Or.inr h
  have hl := lv_entry ([.int a0]) (n := 1) (Nat.le_of_ble_eq_true rfl)
  rw [lg_entry_eq]
  generalize (lg_sl ([.int a0]) ++ List.replicate (1 - (lg_sl ([.int a0])).length) Slot.unset).toArray = ls at hl ⊢
  have hl : lv_has ls 1 [(0, .int a0)] := hl
  have hf := ho
  unfold f_X7_truth at hf
  refine en (fun H locs hP hD hS => ?_) hP hD
  refine lv_iload_n hx hb dX7_truth_0 rfl (lv_at hl 0 rfl) ?_
  refine lv_if_eq (tgt := 8) hx hb dX7_truth_1 (by decide) (fun c1 => ?_) (fun c1 => ?_)
  · have hf := it_t c1 hf
    refine lv_iconst (v := (0 : Int32)) hx hb dX7_truth_8 (by decide) ?_
    rw [← Option.some.inj hf]
    exact rt_i (u := ()) hx hb hr hlocks hP hD trivial hS dX7_truth_9
  · have hf := it_f c1 hf
    refine lv_iconst (v := (1 : Int32)) hx hb dX7_truth_4 (by decide) ?_
    refine lv_goto (tgt := 9) hx hb dX7_truth_5 (by decide) ?_
    rw [← Option.some.inj hf]
    exact rt_i (u := ()) hx hb hr hlocks hP hD trivial hS dX7_truth_9
-- method X5_size
def f_X5_size (t_size : Int32) : Option (Int32) :=
  some (t_size)
set_option maxHeartbeats 4000000 in
set_option maxRecDepth 100000 in
theorem c_X5_size (l : Launch) (G : GG) (h_t h_t_kept : Nat) (sz : Nat) (t_most : Int32) (t_size : Int32)  (o : Int32) (ho : f_X5_size t_size = some o)  : Met l yX5_size wsX5_size ({ frames := 0, cells := 0, slots := 0, locals := 0 } : Room) (pcA G [.ref h_t] [(h_t, .inr (5, [.ref h_t_kept, .int t_most, .int t_size]))] sz) (qcI Unit G o (fun _ => True) (fun _ => [(h_t, .inr (5, [.ref h_t_kept, .int t_most, .int t_size]))]) (va_A [(h_t, .inr (5, [.ref h_t_kept, .int t_most, .int t_size]))] sz)) 0 0 (va_A [(h_t, .inr (5, [.ref h_t_kept, .int t_most, .int t_size]))] sz) := by
  refine Met.ofW (cc := cX5_size) (maxL := 1) (ret := (some .int)) (by decide) rfl ?_
  intro p e s m args below meth c s₁ B hml hv
  obtain ⟨rfl, hsz, hP, hg, hD0, hc⟩ := hv
  have hx := B.exec
  have hb := B.bytes
  have hr := B.returns
  have hts := atoms_spec (ws := wsX5_size) B.pre
  have hown : s.vm.findClass RX5 = some m.cls := findClass_of_methodNamed B.named
  have hlocks := B.notSynchronized
  subst hsz
  have hD := hD0.self (sz := s.heap.size)
  generalize hAe : va_A [(h_t, .inr (5, [.ref h_t_kept, .int t_most, .int t_size]))] s.heap.size = A at hD hc ⊢
  have hA : ∀ q : Nat, s.heap.size ≤ q → A q := fun q h => by rw [← hAe]; exact Or.inr h
  have hiX5 : ∀ w ∈ wsX50, w ∈ wsX5_size := by decide +kernel
  have hl := lv_entry ([.ref h_t]) (n := 1) (Nat.le_of_ble_eq_true rfl)
  rw [lg_entry_eq]
  generalize (lg_sl ([.ref h_t]) ++ List.replicate (1 - (lg_sl ([.ref h_t])).length) Slot.unset).toArray = ls at hl ⊢
  have hl : lv_has ls 1 [(0, .ref h_t)] := hl
  have hf := ho
  unfold f_X5_size at hf
  refine en (fun H locs hP hD hS => ?_) hP hD
  refine lv_aload_n hx hb dX5_size_0 rfl (lv_at hl 0 rfl) ?_
  refine va_get (D := G.1) (ci := 5) (v := .int t_size) (C := RX5) (T := TX5) (N := 3) hx hb hts hiX5 hown hg.1 hP 0 rfl rfl 2 (by decide) (hts (.fieldLink RX5 15 "AsARule$Sayings" "size" "I") (by decide +kernel)) (fun _ h9 => h9) rfl dX5_size_1 ?_
  rw [← Option.some.inj hf]
  exact rt_i (u := ()) hx hb hr hlocks hP hD trivial hS dX5_size_4
-- method X5_isFull
def f_X5_isFull (t_most : Int32) (t_size : Int32) : Option (Int32) :=
  if t_size < t_most then some ((0 : Int32)) else some ((1 : Int32))
set_option maxHeartbeats 4000000 in
set_option maxRecDepth 100000 in
theorem c_X5_isFull (l : Launch) (G : GG) (h_t h_t_kept : Nat) (sz : Nat) (t_most : Int32) (t_size : Int32)  (o : Int32) (ho : f_X5_isFull t_most t_size = some o)  : Met l yX5_isFull wsX5_isFull ({ frames := 0, cells := 0, slots := 0, locals := 0 } : Room) (pcA G [.ref h_t] [(h_t, .inr (5, [.ref h_t_kept, .int t_most, .int t_size]))] sz) (qcI Unit G o (fun _ => True) (fun _ => [(h_t, .inr (5, [.ref h_t_kept, .int t_most, .int t_size]))]) (va_A [(h_t, .inr (5, [.ref h_t_kept, .int t_most, .int t_size]))] sz)) 0 0 (va_A [(h_t, .inr (5, [.ref h_t_kept, .int t_most, .int t_size]))] sz) := by
  refine Met.ofW (cc := cX5_isFull) (maxL := 1) (ret := (some .boolean)) (by decide) rfl ?_
  intro p e s m args below meth c s₁ B hml hv
  obtain ⟨rfl, hsz, hP, hg, hD0, hc⟩ := hv
  have hx := B.exec
  have hb := B.bytes
  have hr := B.returns
  have hts := atoms_spec (ws := wsX5_isFull) B.pre
  have hown : s.vm.findClass RX5 = some m.cls := findClass_of_methodNamed B.named
  have hlocks := B.notSynchronized
  subst hsz
  have hD := hD0.self (sz := s.heap.size)
  generalize hAe : va_A [(h_t, .inr (5, [.ref h_t_kept, .int t_most, .int t_size]))] s.heap.size = A at hD hc ⊢
  have hA : ∀ q : Nat, s.heap.size ≤ q → A q := fun q h => by rw [← hAe]; exact Or.inr h
  have hiX5 : ∀ w ∈ wsX50, w ∈ wsX5_isFull := by decide +kernel
  have hl := lv_entry ([.ref h_t]) (n := 1) (Nat.le_of_ble_eq_true rfl)
  rw [lg_entry_eq]
  generalize (lg_sl ([.ref h_t]) ++ List.replicate (1 - (lg_sl ([.ref h_t])).length) Slot.unset).toArray = ls at hl ⊢
  have hl : lv_has ls 1 [(0, .ref h_t)] := hl
  have hf := ho
  unfold f_X5_isFull at hf
  refine en (fun H locs hP hD hS => ?_) hP hD
  refine lv_aload_n hx hb dX5_isFull_0 rfl (lv_at hl 0 rfl) ?_
  refine va_get (D := G.1) (ci := 5) (v := .int t_size) (C := RX5) (T := TX5) (N := 3) hx hb hts hiX5 hown hg.1 hP 0 rfl rfl 2 (by decide) (hts (.fieldLink RX5 15 "AsARule$Sayings" "size" "I") (by decide +kernel)) (fun _ h9 => h9) rfl dX5_isFull_1 ?_
  refine lv_aload_n hx hb dX5_isFull_4 rfl (lv_at hl 0 rfl) ?_
  refine va_get (D := G.1) (ci := 5) (v := .int t_most) (C := RX5) (T := TX5) (N := 3) hx hb hts hiX5 hown hg.1 hP 0 rfl rfl 1 (by decide) (hts (.fieldLink RX5 25 "AsARule$Sayings" "most" "I") (by decide +kernel)) (fun _ h9 => h9) rfl dX5_isFull_5 ?_
  refine lv_icmp_lt (tgt := 15) hx hb dX5_isFull_8 (by decide) (fun c1 => ?_) (fun c1 => ?_)
  · have hf := it_t c1 hf
    refine lv_iconst (v := (0 : Int32)) hx hb dX5_isFull_15 (by decide) ?_
    rw [← Option.some.inj hf]
    exact rt_z (u := ()) hx hb hr zb_0 hlocks hP hD trivial hS dX5_isFull_16
  · have hf := it_f c1 hf
    refine lv_iconst (v := (1 : Int32)) hx hb dX5_isFull_11 (by decide) ?_
    refine lv_goto (tgt := 16) hx hb dX5_isFull_12 (by decide) ?_
    rw [← Option.some.inj hf]
    exact rt_z (u := ()) hx hb hr zb_1 hlocks hP hD trivial hS dX5_isFull_16
-- method X5_has
def f_X5_has (t_size : Int32) (a1 : Int32) : Option (Int32) :=
  if a1 < (0 : Int32) then some ((0 : Int32)) else if t_size ≤ a1 then some ((0 : Int32)) else some ((1 : Int32))
set_option maxHeartbeats 4000000 in
set_option maxRecDepth 100000 in
theorem c_X5_has (l : Launch) (G : GG) (h_t h_t_kept : Nat) (sz : Nat) (t_most : Int32) (t_size : Int32) (a1 : Int32) (o : Int32) (ho : f_X5_has t_size a1 = some o)  : Met l yX5_has wsX5_has ({ frames := 0, cells := 0, slots := 0, locals := 0 } : Room) (pcA G [.ref h_t, .int a1] [(h_t, .inr (5, [.ref h_t_kept, .int t_most, .int t_size]))] sz) (qcI Unit G o (fun _ => True) (fun _ => [(h_t, .inr (5, [.ref h_t_kept, .int t_most, .int t_size]))]) (va_A [(h_t, .inr (5, [.ref h_t_kept, .int t_most, .int t_size]))] sz)) 0 0 (va_A [(h_t, .inr (5, [.ref h_t_kept, .int t_most, .int t_size]))] sz) := by
  refine Met.ofW (cc := cX5_has) (maxL := 2) (ret := (some .boolean)) (by decide) rfl ?_
  intro p e s m args below meth c s₁ B hml hv
  obtain ⟨rfl, hsz, hP, hg, hD0, hc⟩ := hv
  have hx := B.exec
  have hb := B.bytes
  have hr := B.returns
  have hts := atoms_spec (ws := wsX5_has) B.pre
  have hown : s.vm.findClass RX5 = some m.cls := findClass_of_methodNamed B.named
  have hlocks := B.notSynchronized
  subst hsz
  have hD := hD0.self (sz := s.heap.size)
  generalize hAe : va_A [(h_t, .inr (5, [.ref h_t_kept, .int t_most, .int t_size]))] s.heap.size = A at hD hc ⊢
  have hA : ∀ q : Nat, s.heap.size ≤ q → A q := fun q h => by rw [← hAe]; exact Or.inr h
  have hiX5 : ∀ w ∈ wsX50, w ∈ wsX5_has := by decide +kernel
  have hl := lv_entry ([.ref h_t, .int a1]) (n := 2) (Nat.le_of_ble_eq_true rfl)
  rw [lg_entry_eq]
  generalize (lg_sl ([.ref h_t, .int a1]) ++ List.replicate (2 - (lg_sl ([.ref h_t, .int a1])).length) Slot.unset).toArray = ls at hl ⊢
  have hl : lv_has ls 2 [(0, .ref h_t), (1, .int a1)] := hl
  have hf := ho
  unfold f_X5_has at hf
  refine en (fun H locs hP hD hS => ?_) hP hD
  refine lv_iload_n hx hb dX5_has_0 rfl (lv_at hl 1 rfl) ?_
  refine lv_if_lt (tgt := 16) hx hb dX5_has_1 (by decide) (fun c1 => ?_) (fun c1 => ?_)
  · have hf := it_t c1 hf
    refine lv_iconst (v := (0 : Int32)) hx hb dX5_has_16 (by decide) ?_
    rw [← Option.some.inj hf]
    exact rt_z (u := ()) hx hb hr zb_0 hlocks hP hD trivial hS dX5_has_17
  · have hf := it_f c1 hf
    refine lv_iload_n hx hb dX5_has_4 rfl (lv_at hl 1 rfl) ?_
    refine lv_aload_n hx hb dX5_has_5 rfl (lv_at hl 0 rfl) ?_
    refine va_get (D := G.1) (ci := 5) (v := .int t_size) (C := RX5) (T := TX5) (N := 3) hx hb hts hiX5 hown hg.1 hP 0 rfl rfl 2 (by decide) (hts (.fieldLink RX5 15 "AsARule$Sayings" "size" "I") (by decide +kernel)) (fun _ h9 => h9) rfl dX5_has_6 ?_
    refine lv_icmp_ge (tgt := 16) hx hb dX5_has_9 (by decide) (fun c2 => ?_) (fun c2 => ?_)
    · have hf := it_t c2 hf
      refine lv_iconst (v := (0 : Int32)) hx hb dX5_has_16 (by decide) ?_
      rw [← Option.some.inj hf]
      exact rt_z (u := ()) hx hb hr zb_0 hlocks hP hD trivial hS dX5_has_17
    · have hf := it_f c2 hf
      refine lv_iconst (v := (1 : Int32)) hx hb dX5_has_12 (by decide) ?_
      refine lv_goto (tgt := 17) hx hb dX5_has_13 (by decide) ?_
      rw [← Option.some.inj hf]
      exact rt_z (u := ()) hx hb hr zb_1 hlocks hP hD trivial hS dX5_has_17
-- method X5_get
def f_X5_get (t_size : Int32) (t_kept : Nat → Int64) (a1 : Int32) : Option (Int64) :=
  if a1 < (0 : Int32) then some ((0 : Int64)) else if t_size ≤ a1 then some ((0 : Int64)) else if (9 : Int32) ≤ a1 then some ((0 : Int64)) else gd (ib a1 9) (some ((t_kept a1.toNatClampNeg)))
set_option maxHeartbeats 4000000 in
set_option maxRecDepth 100000 in
theorem c_X5_get (l : Launch) (G : GG) (h_t h_t_kept : Nat) (sz : Nat) (t_most : Int32) (t_size : Int32) (t_kept : Nat → Int64) (a1 : Int32) (o : Int64) (ho : f_X5_get t_size t_kept a1 = some o)  : Met l yX5_get wsX5_get ({ frames := 0, cells := 0, slots := 0, locals := 0 } : Room) (pcA G [.ref h_t, .int a1] [(h_t, .inr (5, [.ref h_t_kept, .int t_most, .int t_size])), (h_t_kept, .inl (G.2.1.2.2, 9, .inr (.inl t_kept)))] sz) (qcL Unit G o (fun _ => True) (fun _ => [(h_t, .inr (5, [.ref h_t_kept, .int t_most, .int t_size])), (h_t_kept, .inl (G.2.1.2.2, 9, .inr (.inl t_kept)))]) (va_A [(h_t, .inr (5, [.ref h_t_kept, .int t_most, .int t_size])), (h_t_kept, .inl (G.2.1.2.2, 9, .inr (.inl t_kept)))] sz)) 0 0 (va_A [(h_t, .inr (5, [.ref h_t_kept, .int t_most, .int t_size])), (h_t_kept, .inl (G.2.1.2.2, 9, .inr (.inl t_kept)))] sz) := by
  refine Met.ofW (cc := cX5_get) (maxL := 2) (ret := (some .long)) (by decide) rfl ?_
  intro p e s m args below meth c s₁ B hml hv
  obtain ⟨rfl, hsz, hP, hg, hD0, hc⟩ := hv
  have hx := B.exec
  have hb := B.bytes
  have hr := B.returns
  have hts := atoms_spec (ws := wsX5_get) B.pre
  have hown : s.vm.findClass RX5 = some m.cls := findClass_of_methodNamed B.named
  have hlocks := B.notSynchronized
  subst hsz
  have hD := hD0.self (sz := s.heap.size)
  generalize hAe : va_A [(h_t, .inr (5, [.ref h_t_kept, .int t_most, .int t_size])), (h_t_kept, .inl (G.2.1.2.2, 9, .inr (.inl t_kept)))] s.heap.size = A at hD hc ⊢
  have hA : ∀ q : Nat, s.heap.size ≤ q → A q := fun q h => by rw [← hAe]; exact Or.inr h
  have hiX5 : ∀ w ∈ wsX50, w ∈ wsX5_get := by decide +kernel
  have hl := lv_entry ([.ref h_t, .int a1]) (n := 2) (Nat.le_of_ble_eq_true rfl)
  rw [lg_entry_eq]
  generalize (lg_sl ([.ref h_t, .int a1]) ++ List.replicate (2 - (lg_sl ([.ref h_t, .int a1])).length) Slot.unset).toArray = ls at hl ⊢
  have hl : lv_has ls 2 [(0, .ref h_t), (1, .int a1)] := hl
  have hf := ho
  unfold f_X5_get at hf
  refine en (fun H locs hP hD hS => ?_) hP hD
  refine lv_iload_n hx hb dX5_get_0 rfl (lv_at hl 1 rfl) ?_
  refine lv_if_lt (tgt := 30) hx hb dX5_get_1 (by decide) (fun c1 => ?_) (fun c1 => ?_)
  · have hf := it_t c1 hf
    refine lv_lconst (v := (0 : Int64)) hx hb dX5_get_30 (by decide) ?_
    rw [← Option.some.inj hf]
    exact rt_l (u := ()) hx hb hr hlocks hP hD trivial hS dX5_get_31
  · have hf := it_f c1 hf
    refine lv_iload_n hx hb dX5_get_4 rfl (lv_at hl 1 rfl) ?_
    refine lv_aload_n hx hb dX5_get_5 rfl (lv_at hl 0 rfl) ?_
    refine va_get (D := G.1) (ci := 5) (v := .int t_size) (C := RX5) (T := TX5) (N := 3) hx hb hts hiX5 hown hg.1 hP 0 rfl rfl 2 (by decide) (hts (.fieldLink RX5 15 "AsARule$Sayings" "size" "I") (by decide +kernel)) (fun _ h9 => h9) rfl dX5_get_6 ?_
    refine lv_icmp_ge (tgt := 30) hx hb dX5_get_9 (by decide) (fun c2 => ?_) (fun c2 => ?_)
    · have hf := it_t c2 hf
      refine lv_lconst (v := (0 : Int64)) hx hb dX5_get_30 (by decide) ?_
      rw [← Option.some.inj hf]
      exact rt_l (u := ()) hx hb hr hlocks hP hD trivial hS dX5_get_31
    · have hf := it_f c2 hf
      refine lv_iload_n hx hb dX5_get_12 rfl (lv_at hl 1 rfl) ?_
      refine lv_aload_n hx hb dX5_get_13 rfl (lv_at hl 0 rfl) ?_
      refine va_get (D := G.1) (ci := 5) (v := .ref h_t_kept) (C := RX5) (T := TX5) (N := 3) hx hb hts hiX5 hown hg.1 hP 0 rfl rfl 0 (by decide) (hts (.fieldLink RX5 9 "AsARule$Sayings" "kept" "[J") (by decide +kernel)) (fun _ h9 => h9) rfl dX5_get_14 ?_
      refine va_alen (v := (9 : Int32)) hx hb hg.1 hP 1 2 rfl rfl rfl dX5_get_17 ?_
      refine lv_icmp_ge (tgt := 30) hx hb dX5_get_18 (by decide) (fun c3 => ?_) (fun c3 => ?_)
      · have hf := it_t c3 hf
        refine lv_lconst (v := (0 : Int64)) hx hb dX5_get_30 (by decide) ?_
        rw [← Option.some.inj hf]
        exact rt_l (u := ()) hx hb hr hlocks hP hD trivial hS dX5_get_31
      · have hf := it_f c3 hf
        refine lv_aload_n hx hb dX5_get_21 rfl (lv_at hl 0 rfl) ?_
        refine va_get (D := G.1) (ci := 5) (v := .ref h_t_kept) (C := RX5) (T := TX5) (N := 3) hx hb hts hiX5 hown hg.1 hP 0 rfl rfl 0 (by decide) (hts (.fieldLink RX5 9 "AsARule$Sayings" "kept" "[J") (by decide +kernel)) (fun _ h9 => h9) rfl dX5_get_22 ?_
        refine lv_iload_n hx hb dX5_get_25 rfl (lv_at hl 1 rfl) ?_
        refine va_lald hx hb hg.1 hP 1 2 rfl rfl (ib_in (gd_t hf)) dX5_get_26 ?_
        have hf := gd_x hf
        refine lv_goto (tgt := 31) hx hb dX5_get_27 (by decide) ?_
        rw [← Option.some.inj hf]
        exact rt_l (u := ()) hx hb hr hlocks hP hD trivial hS dX5_get_31
-- method X5_add
def f_X5_add (t_most : Int32) (t_size : Int32) (t_kept : Nat → Int64) (a1 : Int64) : Option (Int32 × (Nat → Int64)) :=
  if t_most ≤ t_size then some (t_size, t_kept) else if (9 : Int32) ≤ t_size then some (t_size, t_kept) else gd (ib t_size 9) (lt (t_size + (1 : Int32)) (fun x3 => some (x3, (vp_updL t_kept t_size.toNatClampNeg a1))))
set_option maxHeartbeats 4000000 in
set_option maxRecDepth 100000 in
theorem c_X5_add (l : Launch) (G : GG) (h_t h_t_kept : Nat) (sz : Nat) (t_most : Int32) (t_size : Int32) (t_kept : Nat → Int64) (a1 : Int64) (o : Int32 × (Nat → Int64)) (ho : f_X5_add t_most t_size t_kept a1 = some o)  : Met l yX5_add wsX5_add ({ frames := 0, cells := 0, slots := 0, locals := 0 } : Room) (pcA G [.ref h_t, .long a1] [(h_t, .inr (5, [.ref h_t_kept, .int t_most, .int t_size])), (h_t_kept, .inl (G.2.1.2.2, 9, .inr (.inl t_kept)))] sz) (qcV Unit G (fun _ => True) (fun _ => [(h_t, .inr (5, [.ref h_t_kept, .int t_most, .int o.1])), (h_t_kept, .inl (G.2.1.2.2, 9, .inr (.inl o.2)))]) (va_A [(h_t, .inr (5, [.ref h_t_kept, .int t_most, .int t_size])), (h_t_kept, .inl (G.2.1.2.2, 9, .inr (.inl t_kept)))] sz)) 0 0 (va_A [(h_t, .inr (5, [.ref h_t_kept, .int t_most, .int t_size])), (h_t_kept, .inl (G.2.1.2.2, 9, .inr (.inl t_kept)))] sz) := by
  refine Met.ofW (cc := cX5_add) (maxL := 3) (ret := none) (by decide) rfl ?_
  intro p e s m args below meth c s₁ B hml hv
  obtain ⟨rfl, hsz, hP, hg, hD0, hc⟩ := hv
  have hx := B.exec
  have hb := B.bytes
  have hr := B.returns
  have hts := atoms_spec (ws := wsX5_add) B.pre
  have hown : s.vm.findClass RX5 = some m.cls := findClass_of_methodNamed B.named
  have hlocks := B.notSynchronized
  subst hsz
  have hD := hD0.self (sz := s.heap.size)
  generalize hAe : va_A [(h_t, .inr (5, [.ref h_t_kept, .int t_most, .int t_size])), (h_t_kept, .inl (G.2.1.2.2, 9, .inr (.inl t_kept)))] s.heap.size = A at hD hc ⊢
  have hA : ∀ q : Nat, s.heap.size ≤ q → A q := fun q h => by rw [← hAe]; exact Or.inr h
  have hiX5 : ∀ w ∈ wsX50, w ∈ wsX5_add := by decide +kernel
  have hl := lv_entry ([.ref h_t, .long a1]) (n := 3) (Nat.le_of_ble_eq_true rfl)
  rw [lg_entry_eq]
  generalize (lg_sl ([.ref h_t, .long a1]) ++ List.replicate (3 - (lg_sl ([.ref h_t, .long a1])).length) Slot.unset).toArray = ls at hl ⊢
  have hl : lv_has ls 3 [(0, .ref h_t), (1, .long a1)] := hl
  have hf := ho
  unfold f_X5_add at hf
  refine en (fun H locs hP hD hS => ?_) hP hD
  refine lv_aload_n hx hb dX5_add_0 rfl (lv_at hl 0 rfl) ?_
  refine va_get (D := G.1) (ci := 5) (v := .int t_size) (C := RX5) (T := TX5) (N := 3) hx hb hts hiX5 hown hg.1 hP 0 rfl rfl 2 (by decide) (hts (.fieldLink RX5 15 "AsARule$Sayings" "size" "I") (by decide +kernel)) (fun _ h9 => h9) rfl dX5_add_1 ?_
  refine lv_aload_n hx hb dX5_add_4 rfl (lv_at hl 0 rfl) ?_
  refine va_get (D := G.1) (ci := 5) (v := .int t_most) (C := RX5) (T := TX5) (N := 3) hx hb hts hiX5 hown hg.1 hP 0 rfl rfl 1 (by decide) (hts (.fieldLink RX5 25 "AsARule$Sayings" "most" "I") (by decide +kernel)) (fun _ h9 => h9) rfl dX5_add_5 ?_
  refine lv_icmp_ge (tgt := 43) hx hb dX5_add_8 (by decide) (fun c1 => ?_) (fun c1 => ?_)
  · have hf := it_t c1 hf
    rw [← Option.some.inj hf]
    exact rt_v (u := ()) hx hb hr hlocks hP hD trivial hS dX5_add_43
  · have hf := it_f c1 hf
    refine lv_aload_n hx hb dX5_add_11 rfl (lv_at hl 0 rfl) ?_
    refine va_get (D := G.1) (ci := 5) (v := .int t_size) (C := RX5) (T := TX5) (N := 3) hx hb hts hiX5 hown hg.1 hP 0 rfl rfl 2 (by decide) (hts (.fieldLink RX5 15 "AsARule$Sayings" "size" "I") (by decide +kernel)) (fun _ h9 => h9) rfl dX5_add_12 ?_
    refine lv_aload_n hx hb dX5_add_15 rfl (lv_at hl 0 rfl) ?_
    refine va_get (D := G.1) (ci := 5) (v := .ref h_t_kept) (C := RX5) (T := TX5) (N := 3) hx hb hts hiX5 hown hg.1 hP 0 rfl rfl 0 (by decide) (hts (.fieldLink RX5 9 "AsARule$Sayings" "kept" "[J") (by decide +kernel)) (fun _ h9 => h9) rfl dX5_add_16 ?_
    refine va_alen (v := (9 : Int32)) hx hb hg.1 hP 1 2 rfl rfl rfl dX5_add_19 ?_
    refine lv_icmp_ge (tgt := 43) hx hb dX5_add_20 (by decide) (fun c2 => ?_) (fun c2 => ?_)
    · have hf := it_t c2 hf
      rw [← Option.some.inj hf]
      exact rt_v (u := ()) hx hb hr hlocks hP hD trivial hS dX5_add_43
    · have hf := it_f c2 hf
      refine lv_aload_n hx hb dX5_add_23 rfl (lv_at hl 0 rfl) ?_
      refine va_get (D := G.1) (ci := 5) (v := .ref h_t_kept) (C := RX5) (T := TX5) (N := 3) hx hb hts hiX5 hown hg.1 hP 0 rfl rfl 0 (by decide) (hts (.fieldLink RX5 9 "AsARule$Sayings" "kept" "[J") (by decide +kernel)) (fun _ h9 => h9) rfl dX5_add_24 ?_
      refine lv_aload_n hx hb dX5_add_27 rfl (lv_at hl 0 rfl) ?_
      refine va_get (D := G.1) (ci := 5) (v := .int t_size) (C := RX5) (T := TX5) (N := 3) hx hb hts hiX5 hown hg.1 hP 0 rfl rfl 2 (by decide) (hts (.fieldLink RX5 15 "AsARule$Sayings" "size" "I") (by decide +kernel)) (fun _ h9 => h9) rfl dX5_add_28 ?_
      refine lv_lload_n hx hb dX5_add_31 rfl (lv_at hl 1 rfl) ?_
      refine va_last hx hb hg.1 hP hD hS 1 2 rfl rfl (ib_in (gd_t hf)) dX5_add_32 (fun H locs hP hD hS => ?_)
      have hf := gd_x hf
      have hP : va_P G.1 vwCl [(h_t, .inr (5, [.ref h_t_kept, .int t_most, .int t_size])), (h_t_kept, .inl (G.2.1.2.2, 9, .inr (.inl (vp_updL t_kept t_size.toNatClampNeg a1))))] H := hP
      have hD : va_D A [(h_t, .inr (5, [.ref h_t_kept, .int t_most, .int t_size])), (h_t_kept, .inl (G.2.1.2.2, 9, .inr (.inl (vp_updL t_kept t_size.toNatClampNeg a1))))] := hD
      refine lv_aload_n hx hb dX5_add_33 rfl (lv_at hl 0 rfl) ?_
      refine lv_dup hx hb dX5_add_34 rfl ?_
      refine va_get (D := G.1) (ci := 5) (v := .int t_size) (C := RX5) (T := TX5) (N := 3) hx hb hts hiX5 hown hg.1 hP 0 rfl rfl 2 (by decide) (hts (.fieldLink RX5 15 "AsARule$Sayings" "size" "I") (by decide +kernel)) (fun _ h9 => h9) rfl dX5_add_35 ?_
      refine lv_iconst (v := (1 : Int32)) hx hb dX5_add_38 (by decide) ?_
      refine lv_iadd hx hb dX5_add_39 ?_
      refine lv_topi (fun x3 ex3 => ?_)
      have hf := lt_n hf x3 ex3
      refine va_put (D := G.1) (ci := 5) (v := .int x3) (ty := .int) (C := RX5) (T := TX5) (N := 3) hx hb hts hiX5 tyX5 tyX5_ok nmX5 hown hg.1 hP hD hS 0 rfl rfl 2 (by decide) (hts (.fieldLink RX5 15 "AsARule$Sayings" "size" "I") (by decide +kernel)) (fun _ h9 => h9) rfl (by decide +kernel) rfl rfl (Nat.le_of_ble_eq_true rfl) dX5_add_40 (fun H locs hP hD hS => ?_)
      have hP : va_P G.1 vwCl [(h_t, .inr (5, [.ref h_t_kept, .int t_most, .int x3])), (h_t_kept, .inl (G.2.1.2.2, 9, .inr (.inl (vp_updL t_kept t_size.toNatClampNeg a1))))] H := hP
      have hD : va_D A [(h_t, .inr (5, [.ref h_t_kept, .int t_most, .int x3])), (h_t_kept, .inl (G.2.1.2.2, 9, .inr (.inl (vp_updL t_kept t_size.toNatClampNeg a1))))] := hD
      rw [← Option.some.inj hf]
      exact rt_v (u := ()) hx hb hr hlocks hP hD trivial hS dX5_add_43
-- method X5_empty
def f_X5_empty (t_size : Int32) : Option (Int32) :=
  some ((0 : Int32))
set_option maxHeartbeats 4000000 in
set_option maxRecDepth 100000 in
theorem c_X5_empty (l : Launch) (G : GG) (h_t h_t_kept : Nat) (sz : Nat) (t_most : Int32) (t_size : Int32)  (o : Int32) (ho : f_X5_empty t_size = some o)  : Met l yX5_empty wsX5_empty ({ frames := 0, cells := 0, slots := 0, locals := 0 } : Room) (pcA G [.ref h_t] [(h_t, .inr (5, [.ref h_t_kept, .int t_most, .int t_size]))] sz) (qcV Unit G (fun _ => True) (fun _ => [(h_t, .inr (5, [.ref h_t_kept, .int t_most, .int o]))]) (va_A [(h_t, .inr (5, [.ref h_t_kept, .int t_most, .int t_size]))] sz)) 0 0 (va_A [(h_t, .inr (5, [.ref h_t_kept, .int t_most, .int t_size]))] sz) := by
  refine Met.ofW (cc := cX5_empty) (maxL := 1) (ret := none) (by decide) rfl ?_
  intro p e s m args below meth c s₁ B hml hv
  obtain ⟨rfl, hsz, hP, hg, hD0, hc⟩ := hv
  have hx := B.exec
  have hb := B.bytes
  have hr := B.returns
  have hts := atoms_spec (ws := wsX5_empty) B.pre
  have hown : s.vm.findClass RX5 = some m.cls := findClass_of_methodNamed B.named
  have hlocks := B.notSynchronized
  subst hsz
  have hD := hD0.self (sz := s.heap.size)
  generalize hAe : va_A [(h_t, .inr (5, [.ref h_t_kept, .int t_most, .int t_size]))] s.heap.size = A at hD hc ⊢
  have hA : ∀ q : Nat, s.heap.size ≤ q → A q := fun q h => by rw [← hAe]; exact Or.inr h
  have hiX5 : ∀ w ∈ wsX50, w ∈ wsX5_empty := by decide +kernel
  have hl := lv_entry ([.ref h_t]) (n := 1) (Nat.le_of_ble_eq_true rfl)
  rw [lg_entry_eq]
  generalize (lg_sl ([.ref h_t]) ++ List.replicate (1 - (lg_sl ([.ref h_t])).length) Slot.unset).toArray = ls at hl ⊢
  have hl : lv_has ls 1 [(0, .ref h_t)] := hl
  have hf := ho
  unfold f_X5_empty at hf
  refine en (fun H locs hP hD hS => ?_) hP hD
  refine lv_aload_n hx hb dX5_empty_0 rfl (lv_at hl 0 rfl) ?_
  refine lv_iconst (v := (0 : Int32)) hx hb dX5_empty_1 (by decide) ?_
  refine va_put (D := G.1) (ci := 5) (v := .int (0 : Int32)) (ty := .int) (C := RX5) (T := TX5) (N := 3) hx hb hts hiX5 tyX5 tyX5_ok nmX5 hown hg.1 hP hD hS 0 rfl rfl 2 (by decide) (hts (.fieldLink RX5 15 "AsARule$Sayings" "size" "I") (by decide +kernel)) (fun _ h9 => h9) rfl (by decide +kernel) rfl rfl (Nat.le_of_ble_eq_true rfl) dX5_empty_2 (fun H locs hP hD hS => ?_)
  have hP : va_P G.1 vwCl [(h_t, .inr (5, [.ref h_t_kept, .int t_most, .int (0 : Int32)]))] H := hP
  have hD : va_D A [(h_t, .inr (5, [.ref h_t_kept, .int t_most, .int (0 : Int32)]))] := hD
  rw [← Option.some.inj hf]
  exact rt_v (u := ()) hx hb hr hlocks hP hD trivial hS dX5_empty_5
-- method X5_meet
def lp_X5_meet_6 (t_size : Int32) (t_kept : Nat → Int64) : Nat → Int64 → Int32 → Option (Int64)
  | 0, _, _ => none
  | n + 1, v1, v3 => if t_size ≤ v3 then some (v1) else bd (f_X5_get t_size t_kept v3) (fun o2 => lt (v1 &&& o2) (fun x3 => lt (v3 + (1 : Int32)) (fun x4 => lp_X5_meet_6 t_size t_kept n x3 x4)))
def f_X5_meet (t_size : Int32) (t_kept : Nat → Int64) : Option (Int64) :=
  lp_X5_meet_6 t_size t_kept fu (-1 : Int64) (0 : Int32)
set_option maxHeartbeats 4000000 in
set_option maxRecDepth 100000 in
theorem c_X5_meet (l : Launch) (G : GG) (h_t h_t_kept : Nat) (sz : Nat) (t_most : Int32) (t_size : Int32) (t_kept : Nat → Int64)  (o : Int64) (ho : f_X5_meet t_size t_kept = some o)  : Met l yX5_meet wsX5_meet ({ frames := 1, cells := 0, slots := 0, locals := 21 } : Room) (pcA G [.ref h_t] [(h_t, .inr (5, [.ref h_t_kept, .int t_most, .int t_size])), (h_t_kept, .inl (G.2.1.2.2, 9, .inr (.inl t_kept)))] sz) (qcL Unit G o (fun _ => True) (fun _ => [(h_t, .inr (5, [.ref h_t_kept, .int t_most, .int t_size])), (h_t_kept, .inl (G.2.1.2.2, 9, .inr (.inl t_kept)))]) (va_A [(h_t, .inr (5, [.ref h_t_kept, .int t_most, .int t_size])), (h_t_kept, .inl (G.2.1.2.2, 9, .inr (.inl t_kept)))] sz)) 0 0 (va_A [(h_t, .inr (5, [.ref h_t_kept, .int t_most, .int t_size])), (h_t_kept, .inl (G.2.1.2.2, 9, .inr (.inl t_kept)))] sz) := by
  refine Met.ofW (cc := cX5_meet) (maxL := 4) (ret := (some .long)) (by decide) rfl ?_
  intro p e s m args below meth c s₁ B hml hv
  obtain ⟨rfl, hsz, hP, hg, hD0, hc⟩ := hv
  have hx := B.exec
  have hb := B.bytes
  have hr := B.returns
  have hts := atoms_spec (ws := wsX5_meet) B.pre
  have hown : s.vm.findClass RX5 = some m.cls := findClass_of_methodNamed B.named
  have hlocks := B.notSynchronized
  subst hsz
  have hD := hD0.self (sz := s.heap.size)
  generalize hAe : va_A [(h_t, .inr (5, [.ref h_t_kept, .int t_most, .int t_size])), (h_t_kept, .inl (G.2.1.2.2, 9, .inr (.inl t_kept)))] s.heap.size = A at hD hc ⊢
  have hA : ∀ q : Nat, s.heap.size ≤ q → A q := fun q h => by rw [← hAe]; exact Or.inr h
  have hiX5 : ∀ w ∈ wsX50, w ∈ wsX5_meet := by decide +kernel
  have hl := lv_entry ([.ref h_t]) (n := 4) (Nat.le_of_ble_eq_true rfl)
  rw [lg_entry_eq]
  generalize (lg_sl ([.ref h_t]) ++ List.replicate (4 - (lg_sl ([.ref h_t])).length) Slot.unset).toArray = ls at hl ⊢
  have hl : lv_has ls 4 [(0, .ref h_t)] := hl
  have hf := ho
  have hw_6 : ∀  (n : Nat) (v1 : Int64) (v3 : Int32), lp_X5_meet_6 t_size t_kept n v1 v3 = some o → ∀ (H : Heap) (locs : List Loc), va_P G.1 vwCl [(h_t, .inr (5, [.ref h_t_kept, .int t_most, .int t_size])), (h_t_kept, .inl (G.2.1.2.2, 9, .inr (.inl t_kept)))] H → va_D A [(h_t, .inr (5, [.ref h_t_kept, .int t_most, .int t_size])), (h_t_kept, .inl (G.2.1.2.2, 9, .inr (.inl t_kept)))] → va_S A s.heap H locs → ∀ (ls : Array Slot), lv_has ls 4 [(0, .ref h_t), (1, .long v1), (3, .int v3)] → W p l e (headSpec wsX5_meet ({ frames := 1, cells := 0, slots := 0, locals := 21 } : Room)).room s m ([.ref h_t] : List Value).toArray below meth c H locs 0 0 (MQ below (qcL Unit G o (fun _ => True) (fun _ => [(h_t, .inr (5, [.ref h_t_kept, .int t_most, .int t_size])), (h_t_kept, .inl (G.2.1.2.2, 9, .inr (.inl t_kept)))]) A) ([.ref h_t] : List Value).toArray s 0 0 A) (F0 m 6 ls []) := by
    intro n
    induction n with
    | zero =>
      intro v1 v3 hf
      exact absurd hf (by rw [lp_X5_meet_6]; intro h; cases h)
    | succ n ih =>
      intro v1 v3 hf H locs hP hD hS ls hl
      rw [lp_X5_meet_6] at hf
      refine lv_iload_n hx hb dX5_meet_6 rfl (lv_at hl 2 rfl) ?_
      refine lv_aload_n hx hb dX5_meet_7 rfl (lv_at hl 0 rfl) ?_
      refine va_get (D := G.1) (ci := 5) (v := .int t_size) (C := RX5) (T := TX5) (N := 3) hx hb hts hiX5 hown hg.1 hP 0 rfl rfl 2 (by decide) (hts (.fieldLink RX5 15 "AsARule$Sayings" "size" "I") (by decide +kernel)) (fun _ h9 => h9) rfl dX5_meet_8 ?_
      refine lv_icmp_ge (tgt := 28) hx hb dX5_meet_11 (by decide) (fun c1 => ?_) (fun c1 => ?_)
      · have hf := it_t c1 hf
        refine lv_lload_n hx hb dX5_meet_28 rfl (lv_at hl 1 rfl) ?_
        rw [← Option.some.inj hf]
        exact rt_l (u := ()) hx hb hr hlocks hP hD trivial hS dX5_meet_29
      · have hf := it_f c1 hf
        refine lv_lload_n hx hb dX5_meet_14 rfl (lv_at hl 1 rfl) ?_
        refine lv_aload_n hx hb dX5_meet_15 rfl (lv_at hl 0 rfl) ?_
        refine lv_iload_n hx hb dX5_meet_16 rfl (lv_at hl 2 rfl) ?_
        obtain ⟨o2, ho2, hf⟩ := bd_e hf
        refine af_l (wr := []) (va_runV (As := [.int v3]) (rest := [.long v1]) ⟨hx, hb, hml, hown, hts⟩ (c_X5_get l G h_t h_t_kept H.size t_most t_size t_kept v3 o2 ho2) (cwV 1 hts gX5_meet_X5_get rfl rfl rfl (by decide +kernel) ⟨Nat.le_of_ble_eq_true rfl, Nat.le_of_ble_eq_true rfl⟩) (pcA_preV hg hc hP hD hS hA [0, 1] rfl (by decide) (q0 := 0) (ci := 5) rfl rfl rfl) rfl rfl hl.1 rfl (lv_room (Nat.le_of_ble_eq_true rfl)) dX5_meet_17 ⟨Nat.zero_le _, Nat.zero_le _⟩) hP hD hS hA [0, 1] [] rfl rfl (by decide) (by decide) (fun _ H locs _ hP hD hS => ?_)
        have hP : va_P G.1 vwCl [(h_t, .inr (5, [.ref h_t_kept, .int t_most, .int t_size])), (h_t_kept, .inl (G.2.1.2.2, 9, .inr (.inl t_kept)))] H := hP
        have hD : va_D A [(h_t, .inr (5, [.ref h_t_kept, .int t_most, .int t_size])), (h_t_kept, .inl (G.2.1.2.2, 9, .inr (.inl t_kept)))] := hD
        refine lv_land hx hb dX5_meet_20 ?_
        refine lv_topl (fun x3 ex3 => ?_)
        have hf := lt_n hf x3 ex3
        refine lv_lstore_n (lv' := [(1, .long x3), (0, .ref h_t), (3, .int v3)]) hx hb dX5_meet_21 rfl hl (by decide) rfl (fun ls hl => ?_)
        obtain ⟨x4, ex4⟩ : ∃ y : Int32, y = (v3 + (1 : Int32)) := ⟨_, rfl⟩
        have hf := lt_n hf x4 ex4
        refine lv_iinc (v := x4) (lv' := [(3, .int x4), (1, .long x3), (0, .ref h_t)]) hx hb dX5_meet_22 hl (k := 2) rfl (by rw [ex4]; rfl) (by decide) rfl (fun ls hl => ?_)
        refine lv_goto (tgt := 6) hx hb dX5_meet_25 (by decide) ?_
        exact ih x3 x4 hf _ _ hP hD hS _ (lv_sub hl [2, 1, 0] rfl)
  unfold f_X5_meet at hf
  refine en (fun H locs hP hD hS => ?_) hP hD
  refine lv_ldc2 (v := (-1 : Int64)) hx hb hown (hts (.constantLong RX5 28 (-1 : Int64)) (by decide +kernel)) dX5_meet_0 ?_
  refine lv_lstore_n (lv' := [(1, .long (-1 : Int64)), (0, .ref h_t)]) hx hb dX5_meet_3 rfl hl (by decide) rfl (fun ls hl => ?_)
  refine lv_iconst (v := (0 : Int32)) hx hb dX5_meet_4 (by decide) ?_
  refine lv_istore_n (lv' := [(3, .int (0 : Int32)), (1, .long (-1 : Int64)), (0, .ref h_t)]) hx hb dX5_meet_5 rfl hl (by decide) rfl (fun ls hl => ?_)
  exact hw_6 fu (-1 : Int64) (0 : Int32) hf _ _ hP hD hS _ (lv_sub hl [2, 1, 0] rfl)
-- method X6_size
def f_X6_size (t_size : Int32) : Option (Int32) :=
  some (t_size)
set_option maxHeartbeats 4000000 in
set_option maxRecDepth 100000 in
theorem c_X6_size (l : Launch) (G : GG) (h_t h_t_bytes : Nat) (sz : Nat) (t_size : Int32)  (o : Int32) (ho : f_X6_size t_size = some o)  : Met l yX6_size wsX6_size ({ frames := 0, cells := 0, slots := 0, locals := 0 } : Room) (pcA G [.ref h_t] [(h_t, .inr (6, [.ref h_t_bytes, .int t_size]))] sz) (qcI Unit G o (fun _ => True) (fun _ => [(h_t, .inr (6, [.ref h_t_bytes, .int t_size]))]) (va_A [(h_t, .inr (6, [.ref h_t_bytes, .int t_size]))] sz)) 0 0 (va_A [(h_t, .inr (6, [.ref h_t_bytes, .int t_size]))] sz) := by
  refine Met.ofW (cc := cX6_size) (maxL := 1) (ret := (some .int)) (by decide) rfl ?_
  intro p e s m args below meth c s₁ B hml hv
  obtain ⟨rfl, hsz, hP, hg, hD0, hc⟩ := hv
  have hx := B.exec
  have hb := B.bytes
  have hr := B.returns
  have hts := atoms_spec (ws := wsX6_size) B.pre
  have hown : s.vm.findClass RX6 = some m.cls := findClass_of_methodNamed B.named
  have hlocks := B.notSynchronized
  subst hsz
  have hD := hD0.self (sz := s.heap.size)
  generalize hAe : va_A [(h_t, .inr (6, [.ref h_t_bytes, .int t_size]))] s.heap.size = A at hD hc ⊢
  have hA : ∀ q : Nat, s.heap.size ≤ q → A q := fun q h => by rw [← hAe]; exact Or.inr h
  have hiX6 : ∀ w ∈ wsX60, w ∈ wsX6_size := by decide +kernel
  have hl := lv_entry ([.ref h_t]) (n := 1) (Nat.le_of_ble_eq_true rfl)
  rw [lg_entry_eq]
  generalize (lg_sl ([.ref h_t]) ++ List.replicate (1 - (lg_sl ([.ref h_t])).length) Slot.unset).toArray = ls at hl ⊢
  have hl : lv_has ls 1 [(0, .ref h_t)] := hl
  have hf := ho
  unfold f_X6_size at hf
  refine en (fun H locs hP hD hS => ?_) hP hD
  refine lv_aload_n hx hb dX6_size_0 rfl (lv_at hl 0 rfl) ?_
  refine va_get (D := G.1) (ci := 6) (v := .int t_size) (C := RX6) (T := TX6) (N := 2) hx hb hts hiX6 hown hg.1 hP 0 rfl rfl 1 (by decide) (hts (.fieldLink RX6 15 "AsARule$Text" "size" "I") (by decide +kernel)) (fun _ h9 => h9) rfl dX6_size_1 ?_
  rw [← Option.some.inj hf]
  exact rt_i (u := ()) hx hb hr hlocks hP hD trivial hS dX6_size_4
-- method X6_put
def lp_X6_put_19 (a1 : Int64) (a3 : Int32) : Nat → Int32 → (Nat → Int32) → Int32 → Option (Int32 × Int32 × (Nat → Int32))
  | 0, _, _, _ => none
  | n + 1, t_size, t_bytes, v4 => if v4 < (0 : Int32) then some ((1 : Int32), t_size, t_bytes) else if (400 : Int32) ≤ t_size then some ((1 : Int32), t_size, t_bytes) else gd (ib t_size 400) (lt (t_size + (1 : Int32)) (fun x3 => lt (v4 + (-1 : Int32)) (fun x4 => lp_X6_put_19 a1 a3 n x3 (upd t_bytes t_size.toNatClampNeg (vp_nar .byte (((((ushL a1 ((8 : Int32) * v4))).toInt32)).toInt8.toInt32))) x4)))
def f_X6_put (t_size : Int32) (t_bytes : Nat → Int32) (a1 : Int64) (a3 : Int32) : Option (Int32 × Int32 × (Nat → Int32)) :=
  if a3 ≤ ((400 : Int32) - t_size) then lt (a3 - (1 : Int32)) (fun x6 => lp_X6_put_19 a1 a3 fu t_size t_bytes x6) else some ((0 : Int32), t_size, t_bytes)
set_option maxHeartbeats 4000000 in
set_option maxRecDepth 100000 in
theorem c_X6_put (l : Launch) (G : GG) (h_t h_t_bytes : Nat) (sz : Nat) (t_size : Int32) (t_bytes : Nat → Int32) (a1 : Int64) (a3 : Int32) (o : Int32 × Int32 × (Nat → Int32)) (ho : f_X6_put t_size t_bytes a1 a3 = some o)  : Met l yX6_put wsX6_put ({ frames := 0, cells := 0, slots := 0, locals := 0 } : Room) (pcA G [.ref h_t, .long a1, .int a3] [(h_t, .inr (6, [.ref h_t_bytes, .int t_size])), (h_t_bytes, .inl (G.2.1.1, 400, .inl t_bytes))] sz) (qcI Unit G o.1 (fun _ => True) (fun _ => [(h_t, .inr (6, [.ref h_t_bytes, .int o.2.1])), (h_t_bytes, .inl (G.2.1.1, 400, .inl o.2.2))]) (va_A [(h_t, .inr (6, [.ref h_t_bytes, .int t_size])), (h_t_bytes, .inl (G.2.1.1, 400, .inl t_bytes))] sz)) 0 0 (va_A [(h_t, .inr (6, [.ref h_t_bytes, .int t_size])), (h_t_bytes, .inl (G.2.1.1, 400, .inl t_bytes))] sz) := by
  refine Met.ofW (cc := cX6_put) (maxL := 5) (ret := (some .boolean)) (by decide) rfl ?_
  intro p e s m args below meth c s₁ B hml hv
  obtain ⟨rfl, hsz, hP, hg, hD0, hc⟩ := hv
  have hx := B.exec
  have hb := B.bytes
  have hr := B.returns
  have hts := atoms_spec (ws := wsX6_put) B.pre
  have hown : s.vm.findClass RX6 = some m.cls := findClass_of_methodNamed B.named
  have hlocks := B.notSynchronized
  subst hsz
  have hD := hD0.self (sz := s.heap.size)
  generalize hAe : va_A [(h_t, .inr (6, [.ref h_t_bytes, .int t_size])), (h_t_bytes, .inl (G.2.1.1, 400, .inl t_bytes))] s.heap.size = A at hD hc ⊢
  have hA : ∀ q : Nat, s.heap.size ≤ q → A q := fun q h => by rw [← hAe]; exact Or.inr h
  have hiX6 : ∀ w ∈ wsX60, w ∈ wsX6_put := by decide +kernel
  have hl := lv_entry ([.ref h_t, .long a1, .int a3]) (n := 5) (Nat.le_of_ble_eq_true rfl)
  rw [lg_entry_eq]
  generalize (lg_sl ([.ref h_t, .long a1, .int a3]) ++ List.replicate (5 - (lg_sl ([.ref h_t, .long a1, .int a3])).length) Slot.unset).toArray = ls at hl ⊢
  have hl : lv_has ls 5 [(0, .ref h_t), (1, .long a1), (3, .int a3)] := hl
  have hf := ho
  have hw_19 : ∀  (n : Nat) (t_size : Int32) (t_bytes : Nat → Int32) (v4 : Int32), lp_X6_put_19 a1 a3 n t_size t_bytes v4 = some o → ∀ (H : Heap) (locs : List Loc), va_P G.1 vwCl [(h_t, .inr (6, [.ref h_t_bytes, .int t_size])), (h_t_bytes, .inl (G.2.1.1, 400, .inl t_bytes))] H → va_D A [(h_t, .inr (6, [.ref h_t_bytes, .int t_size])), (h_t_bytes, .inl (G.2.1.1, 400, .inl t_bytes))] → va_S A s.heap H locs → ∀ (ls : Array Slot), lv_has ls 5 [(0, .ref h_t), (1, .long a1), (4, .int v4)] → W p l e (headSpec wsX6_put ({ frames := 0, cells := 0, slots := 0, locals := 0 } : Room)).room s m ([.ref h_t, .long a1, .int a3] : List Value).toArray below meth c H locs 0 0 (MQ below (qcI Unit G o.1 (fun _ => True) (fun _ => [(h_t, .inr (6, [.ref h_t_bytes, .int o.2.1])), (h_t_bytes, .inl (G.2.1.1, 400, .inl o.2.2))]) A) ([.ref h_t, .long a1, .int a3] : List Value).toArray s 0 0 A) (F0 m 19 ls []) := by
    intro n
    induction n with
    | zero =>
      intro t_size t_bytes v4 hf
      exact absurd hf (by rw [lp_X6_put_19]; intro h; cases h)
    | succ n ih =>
      intro t_size t_bytes v4 hf H locs hP hD hS ls hl
      rw [lp_X6_put_19] at hf
      refine lv_iload hx hb dX6_put_19 (lv_at hl 2 rfl) ?_
      refine lv_if_lt (tgt := 70) hx hb dX6_put_21 (by decide) (fun c1 => ?_) (fun c1 => ?_)
      · have hf := it_t c1 hf
        refine lv_iconst (v := (1 : Int32)) hx hb dX6_put_70 (by decide) ?_
        rw [← Option.some.inj hf]
        exact rt_z (u := ()) hx hb hr zb_1 hlocks hP hD trivial hS dX6_put_71
      · have hf := it_f c1 hf
        refine lv_aload_n hx hb dX6_put_24 rfl (lv_at hl 0 rfl) ?_
        refine va_get (D := G.1) (ci := 6) (v := .int t_size) (C := RX6) (T := TX6) (N := 2) hx hb hts hiX6 hown hg.1 hP 0 rfl rfl 1 (by decide) (hts (.fieldLink RX6 15 "AsARule$Text" "size" "I") (by decide +kernel)) (fun _ h9 => h9) rfl dX6_put_25 ?_
        refine lv_aload_n hx hb dX6_put_28 rfl (lv_at hl 0 rfl) ?_
        refine va_get (D := G.1) (ci := 6) (v := .ref h_t_bytes) (C := RX6) (T := TX6) (N := 2) hx hb hts hiX6 hown hg.1 hP 0 rfl rfl 0 (by decide) (hts (.fieldLink RX6 9 "AsARule$Text" "bytes" "[B") (by decide +kernel)) (fun _ h9 => h9) rfl dX6_put_29 ?_
        refine va_alen (v := (400 : Int32)) hx hb hg.1 hP 1 0 rfl rfl rfl dX6_put_32 ?_
        refine lv_icmp_ge (tgt := 70) hx hb dX6_put_33 (by decide) (fun c2 => ?_) (fun c2 => ?_)
        · have hf := it_t c2 hf
          refine lv_iconst (v := (1 : Int32)) hx hb dX6_put_70 (by decide) ?_
          rw [← Option.some.inj hf]
          exact rt_z (u := ()) hx hb hr zb_1 hlocks hP hD trivial hS dX6_put_71
        · have hf := it_f c2 hf
          refine lv_aload_n hx hb dX6_put_36 rfl (lv_at hl 0 rfl) ?_
          refine va_get (D := G.1) (ci := 6) (v := .ref h_t_bytes) (C := RX6) (T := TX6) (N := 2) hx hb hts hiX6 hown hg.1 hP 0 rfl rfl 0 (by decide) (hts (.fieldLink RX6 9 "AsARule$Text" "bytes" "[B") (by decide +kernel)) (fun _ h9 => h9) rfl dX6_put_37 ?_
          refine lv_aload_n hx hb dX6_put_40 rfl (lv_at hl 0 rfl) ?_
          refine va_get (D := G.1) (ci := 6) (v := .int t_size) (C := RX6) (T := TX6) (N := 2) hx hb hts hiX6 hown hg.1 hP 0 rfl rfl 1 (by decide) (hts (.fieldLink RX6 15 "AsARule$Text" "size" "I") (by decide +kernel)) (fun _ h9 => h9) rfl dX6_put_41 ?_
          refine lv_lload_n hx hb dX6_put_44 rfl (lv_at hl 1 rfl) ?_
          refine lv_bipush (v := (8 : Int32)) hx hb dX6_put_45 (by decide) ?_
          refine lv_iload hx hb dX6_put_47 (lv_at hl 2 rfl) ?_
          refine lv_imul hx hb dX6_put_49 ?_
          refine lv_lushr (v := (ushL a1 ((8 : Int32) * v4))) hx hb dX6_put_50 rfl ?_
          refine lv_l2i (v := ((ushL a1 ((8 : Int32) * v4))).toInt32) hx hb dX6_put_51 rfl ?_
          refine lv_i2b (v := ((((ushL a1 ((8 : Int32) * v4))).toInt32)).toInt8.toInt32) hx hb dX6_put_52 rfl ?_
          refine va_bast hx hb hg.1 hP hD hS 1 0 rfl rfl (ib_in (gd_t hf)) dX6_put_53 (fun H locs hP hD hS => ?_)
          have hf := gd_x hf
          have hP : va_P G.1 vwCl [(h_t, .inr (6, [.ref h_t_bytes, .int t_size])), (h_t_bytes, .inl (G.2.1.1, 400, .inl (upd t_bytes t_size.toNatClampNeg (vp_nar .byte (((((ushL a1 ((8 : Int32) * v4))).toInt32)).toInt8.toInt32)))))] H := hP
          have hD : va_D A [(h_t, .inr (6, [.ref h_t_bytes, .int t_size])), (h_t_bytes, .inl (G.2.1.1, 400, .inl (upd t_bytes t_size.toNatClampNeg (vp_nar .byte (((((ushL a1 ((8 : Int32) * v4))).toInt32)).toInt8.toInt32)))))] := hD
          refine lv_aload_n hx hb dX6_put_54 rfl (lv_at hl 0 rfl) ?_
          refine lv_dup hx hb dX6_put_55 rfl ?_
          refine va_get (D := G.1) (ci := 6) (v := .int t_size) (C := RX6) (T := TX6) (N := 2) hx hb hts hiX6 hown hg.1 hP 0 rfl rfl 1 (by decide) (hts (.fieldLink RX6 15 "AsARule$Text" "size" "I") (by decide +kernel)) (fun _ h9 => h9) rfl dX6_put_56 ?_
          refine lv_iconst (v := (1 : Int32)) hx hb dX6_put_59 (by decide) ?_
          refine lv_iadd hx hb dX6_put_60 ?_
          refine lv_topi (fun x3 ex3 => ?_)
          have hf := lt_n hf x3 ex3
          refine va_put (D := G.1) (ci := 6) (v := .int x3) (ty := .int) (C := RX6) (T := TX6) (N := 2) hx hb hts hiX6 tyX6 tyX6_ok nmX6 hown hg.1 hP hD hS 0 rfl rfl 1 (by decide) (hts (.fieldLink RX6 15 "AsARule$Text" "size" "I") (by decide +kernel)) (fun _ h9 => h9) rfl (by decide +kernel) rfl rfl (Nat.le_of_ble_eq_true rfl) dX6_put_61 (fun H locs hP hD hS => ?_)
          have hP : va_P G.1 vwCl [(h_t, .inr (6, [.ref h_t_bytes, .int x3])), (h_t_bytes, .inl (G.2.1.1, 400, .inl (upd t_bytes t_size.toNatClampNeg (vp_nar .byte (((((ushL a1 ((8 : Int32) * v4))).toInt32)).toInt8.toInt32)))))] H := hP
          have hD : va_D A [(h_t, .inr (6, [.ref h_t_bytes, .int x3])), (h_t_bytes, .inl (G.2.1.1, 400, .inl (upd t_bytes t_size.toNatClampNeg (vp_nar .byte (((((ushL a1 ((8 : Int32) * v4))).toInt32)).toInt8.toInt32)))))] := hD
          obtain ⟨x4, ex4⟩ : ∃ y : Int32, y = (v4 + (-1 : Int32)) := ⟨_, rfl⟩
          have hf := lt_n hf x4 ex4
          refine lv_iinc (v := x4) (lv' := [(4, .int x4), (0, .ref h_t), (1, .long a1)]) hx hb dX6_put_64 hl (k := 2) rfl (by rw [ex4]; rfl) (by decide) rfl (fun ls hl => ?_)
          refine lv_goto (tgt := 19) hx hb dX6_put_67 (by decide) ?_
          exact ih x3 (upd t_bytes t_size.toNatClampNeg (vp_nar .byte (((((ushL a1 ((8 : Int32) * v4))).toInt32)).toInt8.toInt32))) x4 hf _ _ hP hD hS _ (lv_sub hl [1, 2, 0] rfl)
  unfold f_X6_put at hf
  refine en (fun H locs hP hD hS => ?_) hP hD
  refine lv_iload_n hx hb dX6_put_0 rfl (lv_at hl 2 rfl) ?_
  refine lv_sipush (v := (400 : Int32)) hx hb dX6_put_1 (by decide) ?_
  refine lv_aload_n hx hb dX6_put_4 rfl (lv_at hl 0 rfl) ?_
  refine va_get (D := G.1) (ci := 6) (v := .int t_size) (C := RX6) (T := TX6) (N := 2) hx hb hts hiX6 hown hg.1 hP 0 rfl rfl 1 (by decide) (hts (.fieldLink RX6 15 "AsARule$Text" "size" "I") (by decide +kernel)) (fun _ h9 => h9) rfl dX6_put_5 ?_
  refine lv_isub hx hb dX6_put_8 ?_
  refine lv_icmp_le (tgt := 14) hx hb dX6_put_9 (by decide) (fun c5 => ?_) (fun c5 => ?_)
  · have hf := it_t c5 hf
    refine lv_iload_n hx hb dX6_put_14 rfl (lv_at hl 2 rfl) ?_
    refine lv_iconst (v := (1 : Int32)) hx hb dX6_put_15 (by decide) ?_
    refine lv_isub hx hb dX6_put_16 ?_
    refine lv_topi (fun x6 ex6 => ?_)
    have hf := lt_n hf x6 ex6
    refine lv_istore (lv' := [(4, .int x6), (0, .ref h_t), (1, .long a1), (3, .int a3)]) hx hb dX6_put_17 hl (by decide) rfl (fun ls hl => ?_)
    exact hw_19 fu t_size t_bytes x6 hf _ _ hP hD hS _ (lv_sub hl [1, 2, 0] rfl)
  · have hf := it_f c5 hf
    refine lv_iconst (v := (0 : Int32)) hx hb dX6_put_12 (by decide) ?_
    rw [← Option.some.inj hf]
    exact rt_z (u := ()) hx hb hr zb_0 hlocks hP hD trivial hS dX6_put_13
-- method X6_wipe
def f_X6_wipe (t_size : Int32) : Option (Int32 × Int32) :=
  some (t_size, (0 : Int32))
set_option maxHeartbeats 4000000 in
set_option maxRecDepth 100000 in
theorem c_X6_wipe (l : Launch) (G : GG) (h_t h_t_bytes : Nat) (sz : Nat) (t_size : Int32)  (o : Int32 × Int32) (ho : f_X6_wipe t_size = some o)  : Met l yX6_wipe wsX6_wipe ({ frames := 0, cells := 0, slots := 0, locals := 0 } : Room) (pcA G [.ref h_t] [(h_t, .inr (6, [.ref h_t_bytes, .int t_size]))] sz) (qcI Unit G o.1 (fun _ => True) (fun _ => [(h_t, .inr (6, [.ref h_t_bytes, .int o.2]))]) (va_A [(h_t, .inr (6, [.ref h_t_bytes, .int t_size]))] sz)) 0 0 (va_A [(h_t, .inr (6, [.ref h_t_bytes, .int t_size]))] sz) := by
  refine Met.ofW (cc := cX6_wipe) (maxL := 2) (ret := (some .int)) (by decide) rfl ?_
  intro p e s m args below meth c s₁ B hml hv
  obtain ⟨rfl, hsz, hP, hg, hD0, hc⟩ := hv
  have hx := B.exec
  have hb := B.bytes
  have hr := B.returns
  have hts := atoms_spec (ws := wsX6_wipe) B.pre
  have hown : s.vm.findClass RX6 = some m.cls := findClass_of_methodNamed B.named
  have hlocks := B.notSynchronized
  subst hsz
  have hD := hD0.self (sz := s.heap.size)
  generalize hAe : va_A [(h_t, .inr (6, [.ref h_t_bytes, .int t_size]))] s.heap.size = A at hD hc ⊢
  have hA : ∀ q : Nat, s.heap.size ≤ q → A q := fun q h => by rw [← hAe]; exact Or.inr h
  have hiX6 : ∀ w ∈ wsX60, w ∈ wsX6_wipe := by decide +kernel
  have hl := lv_entry ([.ref h_t]) (n := 2) (Nat.le_of_ble_eq_true rfl)
  rw [lg_entry_eq]
  generalize (lg_sl ([.ref h_t]) ++ List.replicate (2 - (lg_sl ([.ref h_t])).length) Slot.unset).toArray = ls at hl ⊢
  have hl : lv_has ls 2 [(0, .ref h_t)] := hl
  have hf := ho
  unfold f_X6_wipe at hf
  refine en (fun H locs hP hD hS => ?_) hP hD
  refine lv_aload_n hx hb dX6_wipe_0 rfl (lv_at hl 0 rfl) ?_
  refine va_get (D := G.1) (ci := 6) (v := .int t_size) (C := RX6) (T := TX6) (N := 2) hx hb hts hiX6 hown hg.1 hP 0 rfl rfl 1 (by decide) (hts (.fieldLink RX6 15 "AsARule$Text" "size" "I") (by decide +kernel)) (fun _ h9 => h9) rfl dX6_wipe_1 ?_
  refine lv_istore_n (lv' := [(1, .int t_size), (0, .ref h_t)]) hx hb dX6_wipe_4 rfl hl (by decide) rfl (fun ls hl => ?_)
  refine lv_aload_n hx hb dX6_wipe_5 rfl (lv_at hl 1 rfl) ?_
  refine lv_iconst (v := (0 : Int32)) hx hb dX6_wipe_6 (by decide) ?_
  refine va_put (D := G.1) (ci := 6) (v := .int (0 : Int32)) (ty := .int) (C := RX6) (T := TX6) (N := 2) hx hb hts hiX6 tyX6 tyX6_ok nmX6 hown hg.1 hP hD hS 0 rfl rfl 1 (by decide) (hts (.fieldLink RX6 15 "AsARule$Text" "size" "I") (by decide +kernel)) (fun _ h9 => h9) rfl (by decide +kernel) rfl rfl (Nat.le_of_ble_eq_true rfl) dX6_wipe_7 (fun H locs hP hD hS => ?_)
  have hP : va_P G.1 vwCl [(h_t, .inr (6, [.ref h_t_bytes, .int (0 : Int32)]))] H := hP
  have hD : va_D A [(h_t, .inr (6, [.ref h_t_bytes, .int (0 : Int32)]))] := hD
  refine lv_iload_n hx hb dX6_wipe_10 rfl (lv_at hl 0 rfl) ?_
  rw [← Option.some.inj hf]
  exact rt_i (u := ()) hx hb hr hlocks hP hD trivial hS dX6_wipe_11
-- method X6_at
def f_X6_at (t_size : Int32) (t_bytes : Nat → Int32) (a1 : Int32) : Option (Int32) :=
  if a1 < (0 : Int32) then some ((-1 : Int32)) else if t_size ≤ a1 then some ((-1 : Int32)) else if (400 : Int32) ≤ a1 then some ((-1 : Int32)) else gd (ib a1 400) (some (((t_bytes a1.toNatClampNeg) &&& (255 : Int32))))
set_option maxHeartbeats 4000000 in
set_option maxRecDepth 100000 in
theorem c_X6_at (l : Launch) (G : GG) (h_t h_t_bytes : Nat) (sz : Nat) (t_size : Int32) (t_bytes : Nat → Int32) (a1 : Int32) (o : Int32) (ho : f_X6_at t_size t_bytes a1 = some o)  : Met l yX6_at wsX6_at ({ frames := 0, cells := 0, slots := 0, locals := 0 } : Room) (pcA G [.ref h_t, .int a1] [(h_t, .inr (6, [.ref h_t_bytes, .int t_size])), (h_t_bytes, .inl (G.2.1.1, 400, .inl t_bytes))] sz) (qcI Unit G o (fun _ => True) (fun _ => [(h_t, .inr (6, [.ref h_t_bytes, .int t_size])), (h_t_bytes, .inl (G.2.1.1, 400, .inl t_bytes))]) (va_A [(h_t, .inr (6, [.ref h_t_bytes, .int t_size])), (h_t_bytes, .inl (G.2.1.1, 400, .inl t_bytes))] sz)) 0 0 (va_A [(h_t, .inr (6, [.ref h_t_bytes, .int t_size])), (h_t_bytes, .inl (G.2.1.1, 400, .inl t_bytes))] sz) := by
  refine Met.ofW (cc := cX6_at) (maxL := 2) (ret := (some .int)) (by decide) rfl ?_
  intro p e s m args below meth c s₁ B hml hv
  obtain ⟨rfl, hsz, hP, hg, hD0, hc⟩ := hv
  have hx := B.exec
  have hb := B.bytes
  have hr := B.returns
  have hts := atoms_spec (ws := wsX6_at) B.pre
  have hown : s.vm.findClass RX6 = some m.cls := findClass_of_methodNamed B.named
  have hlocks := B.notSynchronized
  subst hsz
  have hD := hD0.self (sz := s.heap.size)
  generalize hAe : va_A [(h_t, .inr (6, [.ref h_t_bytes, .int t_size])), (h_t_bytes, .inl (G.2.1.1, 400, .inl t_bytes))] s.heap.size = A at hD hc ⊢
  have hA : ∀ q : Nat, s.heap.size ≤ q → A q := fun q h => by rw [← hAe]; exact Or.inr h
  have hiX6 : ∀ w ∈ wsX60, w ∈ wsX6_at := by decide +kernel
  have hl := lv_entry ([.ref h_t, .int a1]) (n := 2) (Nat.le_of_ble_eq_true rfl)
  rw [lg_entry_eq]
  generalize (lg_sl ([.ref h_t, .int a1]) ++ List.replicate (2 - (lg_sl ([.ref h_t, .int a1])).length) Slot.unset).toArray = ls at hl ⊢
  have hl : lv_has ls 2 [(0, .ref h_t), (1, .int a1)] := hl
  have hf := ho
  unfold f_X6_at at hf
  refine en (fun H locs hP hD hS => ?_) hP hD
  refine lv_iload_n hx hb dX6_at_0 rfl (lv_at hl 1 rfl) ?_
  refine lv_if_lt (tgt := 34) hx hb dX6_at_1 (by decide) (fun c1 => ?_) (fun c1 => ?_)
  · have hf := it_t c1 hf
    refine lv_iconst (v := (-1 : Int32)) hx hb dX6_at_34 (by decide) ?_
    rw [← Option.some.inj hf]
    exact rt_i (u := ()) hx hb hr hlocks hP hD trivial hS dX6_at_35
  · have hf := it_f c1 hf
    refine lv_iload_n hx hb dX6_at_4 rfl (lv_at hl 1 rfl) ?_
    refine lv_aload_n hx hb dX6_at_5 rfl (lv_at hl 0 rfl) ?_
    refine va_get (D := G.1) (ci := 6) (v := .int t_size) (C := RX6) (T := TX6) (N := 2) hx hb hts hiX6 hown hg.1 hP 0 rfl rfl 1 (by decide) (hts (.fieldLink RX6 15 "AsARule$Text" "size" "I") (by decide +kernel)) (fun _ h9 => h9) rfl dX6_at_6 ?_
    refine lv_icmp_ge (tgt := 34) hx hb dX6_at_9 (by decide) (fun c2 => ?_) (fun c2 => ?_)
    · have hf := it_t c2 hf
      refine lv_iconst (v := (-1 : Int32)) hx hb dX6_at_34 (by decide) ?_
      rw [← Option.some.inj hf]
      exact rt_i (u := ()) hx hb hr hlocks hP hD trivial hS dX6_at_35
    · have hf := it_f c2 hf
      refine lv_iload_n hx hb dX6_at_12 rfl (lv_at hl 1 rfl) ?_
      refine lv_aload_n hx hb dX6_at_13 rfl (lv_at hl 0 rfl) ?_
      refine va_get (D := G.1) (ci := 6) (v := .ref h_t_bytes) (C := RX6) (T := TX6) (N := 2) hx hb hts hiX6 hown hg.1 hP 0 rfl rfl 0 (by decide) (hts (.fieldLink RX6 9 "AsARule$Text" "bytes" "[B") (by decide +kernel)) (fun _ h9 => h9) rfl dX6_at_14 ?_
      refine va_alen (v := (400 : Int32)) hx hb hg.1 hP 1 0 rfl rfl rfl dX6_at_17 ?_
      refine lv_icmp_ge (tgt := 34) hx hb dX6_at_18 (by decide) (fun c3 => ?_) (fun c3 => ?_)
      · have hf := it_t c3 hf
        refine lv_iconst (v := (-1 : Int32)) hx hb dX6_at_34 (by decide) ?_
        rw [← Option.some.inj hf]
        exact rt_i (u := ()) hx hb hr hlocks hP hD trivial hS dX6_at_35
      · have hf := it_f c3 hf
        refine lv_aload_n hx hb dX6_at_21 rfl (lv_at hl 0 rfl) ?_
        refine va_get (D := G.1) (ci := 6) (v := .ref h_t_bytes) (C := RX6) (T := TX6) (N := 2) hx hb hts hiX6 hown hg.1 hP 0 rfl rfl 0 (by decide) (hts (.fieldLink RX6 9 "AsARule$Text" "bytes" "[B") (by decide +kernel)) (fun _ h9 => h9) rfl dX6_at_22 ?_
        refine lv_iload_n hx hb dX6_at_25 rfl (lv_at hl 1 rfl) ?_
        refine va_bald hx hb hg.1 hP 1 0 rfl rfl (ib_in (gd_t hf)) dX6_at_26 ?_
        have hf := gd_x hf
        refine lv_sipush (v := (255 : Int32)) hx hb dX6_at_27 (by decide) ?_
        refine lv_iand hx hb dX6_at_30 ?_
        refine lv_goto (tgt := 35) hx hb dX6_at_31 (by decide) ?_
        rw [← Option.some.inj hf]
        exact rt_i (u := ()) hx hb hr hlocks hP hD trivial hS dX6_at_35
-- method X8_in
def f_X8_in (a0 : Int64) (a2 : Int64) (a4 : Int64) : Option (Int32) :=
  if a0 < a2 then some ((0 : Int32)) else if a4 < a0 then some ((0 : Int32)) else some ((1 : Int32))
set_option maxHeartbeats 4000000 in
set_option maxRecDepth 100000 in
theorem c_X8_in (l : Launch) (G : GG) (sz : Nat)  (a0 : Int64) (a2 : Int64) (a4 : Int64) (o : Int32) (ho : f_X8_in a0 a2 a4 = some o)  : Met l yX8_in wsX8_in ({ frames := 0, cells := 0, slots := 0, locals := 0 } : Room) (pcA G [.long a0, .long a2, .long a4] [] sz) (qcI Unit G o (fun _ => True) (fun _ => []) (va_A [] sz)) 0 0 (va_A [] sz) := by
  refine Met.ofW (cc := cX8_in) (maxL := 6) (ret := (some .boolean)) (by decide) rfl ?_
  intro p e s m args below meth c s₁ B hml hv
  obtain ⟨rfl, hsz, hP, hg, hD0, hc⟩ := hv
  have hx := B.exec
  have hb := B.bytes
  have hr := B.returns
  have hts := atoms_spec (ws := wsX8_in) B.pre
  have hown : s.vm.findClass RX8 = some m.cls := findClass_of_methodNamed B.named
  have hlocks := B.notSynchronized
  subst hsz
  have hD := hD0.self (sz := s.heap.size)
  generalize hAe : va_A [] s.heap.size = A at hD hc ⊢
  have hA : ∀ q : Nat, s.heap.size ≤ q → A q := fun q h => by rw [← hAe]; exact Or.inr h
  have hl := lv_entry ([.long a0, .long a2, .long a4]) (n := 6) (Nat.le_of_ble_eq_true rfl)
  rw [lg_entry_eq]
  generalize (lg_sl ([.long a0, .long a2, .long a4]) ++ List.replicate (6 - (lg_sl ([.long a0, .long a2, .long a4])).length) Slot.unset).toArray = ls at hl ⊢
  have hl : lv_has ls 6 [(0, .long a0), (2, .long a2), (4, .long a4)] := hl
  have hf := ho
  unfold f_X8_in at hf
  refine en (fun H locs hP hD hS => ?_) hP hD
  refine lv_lload_n hx hb dX8_in_0 rfl (lv_at hl 0 rfl) ?_
  refine lv_lload_n hx hb dX8_in_1 rfl (lv_at hl 1 rfl) ?_
  refine W.lcmp hx hb dX8_in_2 ?_
  refine lv_if_lt (tgt := 17) hx hb dX8_in_3 (by decide) (fun c1 => ?_) (fun c1 => ?_)
  · have c1 := lgcL.mp c1
    have hf := it_t c1 hf
    refine lv_iconst (v := (0 : Int32)) hx hb dX8_in_17 (by decide) ?_
    rw [← Option.some.inj hf]
    exact rt_z (u := ()) hx hb hr zb_0 hlocks hP hD trivial hS dX8_in_18
  · have c1 := fun z => c1 (lgcL.mpr z)
    have hf := it_f c1 hf
    refine lv_lload_n hx hb dX8_in_6 rfl (lv_at hl 0 rfl) ?_
    refine lv_lload hx hb dX8_in_7 (lv_at hl 2 rfl) ?_
    refine W.lcmp hx hb dX8_in_9 ?_
    refine lv_if_gt (tgt := 17) hx hb dX8_in_10 (by decide) (fun c2 => ?_) (fun c2 => ?_)
    · have c2 := lgcG.mp c2
      have hf := it_t c2 hf
      refine lv_iconst (v := (0 : Int32)) hx hb dX8_in_17 (by decide) ?_
      rw [← Option.some.inj hf]
      exact rt_z (u := ()) hx hb hr zb_0 hlocks hP hD trivial hS dX8_in_18
    · have c2 := fun z => c2 (lgcG.mpr z)
      have hf := it_f c2 hf
      refine lv_iconst (v := (1 : Int32)) hx hb dX8_in_13 (by decide) ?_
      refine lv_goto (tgt := 18) hx hb dX8_in_14 (by decide) ?_
      rw [← Option.some.inj hf]
      exact rt_z (u := ()) hx hb hr zb_1 hlocks hP hD trivial hS dX8_in_18
-- method X8_isLetter
def f_X8_isLetter (a0 : Int32) : Option (Int32) :=
  bd (f_X8_in ((a0).toInt64) (97 : Int64) (122 : Int64)) (fun o1 => gd (zb o1) (some (o1)))
set_option maxHeartbeats 4000000 in
set_option maxRecDepth 100000 in
theorem c_X8_isLetter (l : Launch) (G : GG) (sz : Nat)  (a0 : Int32) (o : Int32) (ho : f_X8_isLetter a0 = some o)  : Met l yX8_isLetter wsX8_isLetter ({ frames := 1, cells := 0, slots := 0, locals := 25 } : Room) (pcA G [.int a0] [] sz) (qcI Unit G o (fun _ => True) (fun _ => []) (va_A [] sz)) 0 0 (va_A [] sz) := by
  refine Met.ofW (cc := cX8_isLetter) (maxL := 1) (ret := (some .boolean)) (by decide) rfl ?_
  intro p e s m args below meth c s₁ B hml hv
  obtain ⟨rfl, hsz, hP, hg, hD0, hc⟩ := hv
  have hx := B.exec
  have hb := B.bytes
  have hr := B.returns
  have hts := atoms_spec (ws := wsX8_isLetter) B.pre
  have hown : s.vm.findClass RX8 = some m.cls := findClass_of_methodNamed B.named
  have hlocks := B.notSynchronized
  subst hsz
  have hD := hD0.self (sz := s.heap.size)
  generalize hAe : va_A [] s.heap.size = A at hD hc ⊢
  have hA : ∀ q : Nat, s.heap.size ≤ q → A q := fun q h => by rw [← hAe]; exact Or.inr h
  have hl := lv_entry ([.int a0]) (n := 1) (Nat.le_of_ble_eq_true rfl)
  rw [lg_entry_eq]
  generalize (lg_sl ([.int a0]) ++ List.replicate (1 - (lg_sl ([.int a0])).length) Slot.unset).toArray = ls at hl ⊢
  have hl : lv_has ls 1 [(0, .int a0)] := hl
  have hf := ho
  unfold f_X8_isLetter at hf
  refine en (fun H locs hP hD hS => ?_) hP hD
  refine lv_iload_n hx hb dX8_isLetter_0 rfl (lv_at hl 0 rfl) ?_
  refine lv_i2l (v := (a0).toInt64) hx hb dX8_isLetter_1 rfl ?_
  refine lv_ldc2 (v := (97 : Int64)) hx hb hown (hts (.constantLong RX8 65 (97 : Int64)) (by decide +kernel)) dX8_isLetter_2 ?_
  refine lv_ldc2 (v := (122 : Int64)) hx hb hown (hts (.constantLong RX8 67 (122 : Int64)) (by decide +kernel)) dX8_isLetter_5 ?_
  obtain ⟨o1, ho1, hf⟩ := bd_e hf
  refine af0_i (va_runS (As := [.long ((a0).toInt64), .long (97 : Int64), .long (122 : Int64)]) (rest := []) ⟨hx, hb, hml, hown, hts⟩ (c_X8_in l G H.size ((a0).toInt64) (97 : Int64) (122 : Int64) o1 ho1) (va_cwS 3 hts gX8_isLetter_X8_in rfl rfl rfl (by decide +kernel) ⟨Nat.le_of_ble_eq_true rfl, Nat.le_of_ble_eq_true rfl⟩) (pcA_pre hg hc hP hD hS hA [] rfl rfl [.long ((a0).toInt64), .long (97 : Int64), .long (122 : Int64)]) rfl rfl hl.1 rfl (lv_room (Nat.le_of_ble_eq_true rfl)) dX8_isLetter_8 ⟨Nat.zero_le _, Nat.zero_le _⟩) hP hD hS hA (fun H locs hP hD hS => ?_)
  have z2 := gd_t hf
  have hf := gd_x hf
  rw [← Option.some.inj hf]
  exact rt_z (u := ()) hx hb hr z2 hlocks hP hD trivial hS dX8_isLetter_11
-- method X8_signOf
def f_X8_signOf (a0 : Int32) : Option (Int32) :=
  if a0 = (33 : Int32) then some ((22 : Int32)) else if a0 = (38 : Int32) then some ((21 : Int32)) else if a0 = (40 : Int32) then some ((23 : Int32)) else if a0 = (41 : Int32) then some ((24 : Int32)) else if a0 = (48 : Int32) then some ((17 : Int32)) else if a0 = (49 : Int32) then some ((18 : Int32)) else if a0 = (59 : Int32) then some ((19 : Int32)) else if a0 = (124 : Int32) then some ((20 : Int32)) else some ((1 : Int32))
set_option maxHeartbeats 4000000 in
set_option maxRecDepth 100000 in
theorem c_X8_signOf (l : Launch) (G : GG) (sz : Nat)  (a0 : Int32) (o : Int32) (ho : f_X8_signOf a0 = some o)  : Met l yX8_signOf wsX8_signOf ({ frames := 0, cells := 0, slots := 0, locals := 0 } : Room) (pcA G [.int a0] [] sz) (qcI Unit G o (fun _ => True) (fun _ => []) (va_A [] sz)) 0 0 (va_A [] sz) := by
  refine Met.ofW (cc := cX8_signOf) (maxL := 1) (ret := (some .int)) (by decide) rfl ?_
  intro p e s m args below meth c s₁ B hml hv
  obtain ⟨rfl, hsz, hP, hg, hD0, hc⟩ := hv
  have hx := B.exec
  have hb := B.bytes
  have hr := B.returns
  have hts := atoms_spec (ws := wsX8_signOf) B.pre
  have hown : s.vm.findClass RX8 = some m.cls := findClass_of_methodNamed B.named
  have hlocks := B.notSynchronized
  subst hsz
  have hD := hD0.self (sz := s.heap.size)
  generalize hAe : va_A [] s.heap.size = A at hD hc ⊢
  have hA : ∀ q : Nat, s.heap.size ≤ q → A q := fun q h => by rw [← hAe]; exact Or.inr h
  have hl := lv_entry ([.int a0]) (n := 1) (Nat.le_of_ble_eq_true rfl)
  rw [lg_entry_eq]
  generalize (lg_sl ([.int a0]) ++ List.replicate (1 - (lg_sl ([.int a0])).length) Slot.unset).toArray = ls at hl ⊢
  have hl : lv_has ls 1 [(0, .int a0)] := hl
  have hf := ho
  unfold f_X8_signOf at hf
  refine en (fun H locs hP hD hS => ?_) hP hD
  refine lv_iload_n hx hb dX8_signOf_0 rfl (lv_at hl 0 rfl) ?_
  by_cases c1 : a0 = (33 : Int32)
  · have hf := it_t c1 hf
    refine lv_lookup (off := 90) (tgt := 91) hx hb dX8_signOf_1 (by decide) (by rw [c1]; rfl) (by decide) ?_
    refine lv_bipush (v := (22 : Int32)) hx hb dX8_signOf_91 (by decide) ?_
    rw [← Option.some.inj hf]
    exact rt_i (u := ()) hx hb hr hlocks hP hD trivial hS dX8_signOf_93
  · have hf := it_f c1 hf
    by_cases c2 : a0 = (38 : Int32)
    · have hf := it_t c2 hf
      refine lv_lookup (off := 87) (tgt := 88) hx hb dX8_signOf_1 (by decide) (by rw [c2]; rfl) (by decide) ?_
      refine lv_bipush (v := (21 : Int32)) hx hb dX8_signOf_88 (by decide) ?_
      rw [← Option.some.inj hf]
      exact rt_i (u := ()) hx hb hr hlocks hP hD trivial hS dX8_signOf_90
    · have hf := it_f c2 hf
      by_cases c3 : a0 = (40 : Int32)
      · have hf := it_t c3 hf
        refine lv_lookup (off := 93) (tgt := 94) hx hb dX8_signOf_1 (by decide) (by rw [c3]; rfl) (by decide) ?_
        refine lv_bipush (v := (23 : Int32)) hx hb dX8_signOf_94 (by decide) ?_
        rw [← Option.some.inj hf]
        exact rt_i (u := ()) hx hb hr hlocks hP hD trivial hS dX8_signOf_96
      · have hf := it_f c3 hf
        by_cases c4 : a0 = (41 : Int32)
        · have hf := it_t c4 hf
          refine lv_lookup (off := 96) (tgt := 97) hx hb dX8_signOf_1 (by decide) (by rw [c4]; rfl) (by decide) ?_
          refine lv_bipush (v := (24 : Int32)) hx hb dX8_signOf_97 (by decide) ?_
          rw [← Option.some.inj hf]
          exact rt_i (u := ()) hx hb hr hlocks hP hD trivial hS dX8_signOf_99
        · have hf := it_f c4 hf
          by_cases c5 : a0 = (48 : Int32)
          · have hf := it_t c5 hf
            refine lv_lookup (off := 75) (tgt := 76) hx hb dX8_signOf_1 (by decide) (by rw [c5]; rfl) (by decide) ?_
            refine lv_bipush (v := (17 : Int32)) hx hb dX8_signOf_76 (by decide) ?_
            rw [← Option.some.inj hf]
            exact rt_i (u := ()) hx hb hr hlocks hP hD trivial hS dX8_signOf_78
          · have hf := it_f c5 hf
            by_cases c6 : a0 = (49 : Int32)
            · have hf := it_t c6 hf
              refine lv_lookup (off := 78) (tgt := 79) hx hb dX8_signOf_1 (by decide) (by rw [c6]; rfl) (by decide) ?_
              refine lv_bipush (v := (18 : Int32)) hx hb dX8_signOf_79 (by decide) ?_
              rw [← Option.some.inj hf]
              exact rt_i (u := ()) hx hb hr hlocks hP hD trivial hS dX8_signOf_81
            · have hf := it_f c6 hf
              by_cases c7 : a0 = (59 : Int32)
              · have hf := it_t c7 hf
                refine lv_lookup (off := 81) (tgt := 82) hx hb dX8_signOf_1 (by decide) (by rw [c7]; rfl) (by decide) ?_
                refine lv_bipush (v := (19 : Int32)) hx hb dX8_signOf_82 (by decide) ?_
                rw [← Option.some.inj hf]
                exact rt_i (u := ()) hx hb hr hlocks hP hD trivial hS dX8_signOf_84
              · have hf := it_f c7 hf
                by_cases c8 : a0 = (124 : Int32)
                · have hf := it_t c8 hf
                  refine lv_lookup (off := 84) (tgt := 85) hx hb dX8_signOf_1 (by decide) (by rw [c8]; rfl) (by decide) ?_
                  refine lv_bipush (v := (20 : Int32)) hx hb dX8_signOf_85 (by decide) ?_
                  rw [← Option.some.inj hf]
                  exact rt_i (u := ()) hx hb hr hlocks hP hD trivial hS dX8_signOf_87
                · have hf := it_f c8 hf
                  refine lv_lookup (off := 99) (tgt := 100) hx hb dX8_signOf_1 (by decide) ((lv_osw c1 rfl).trans ((lv_osw c2 rfl).trans ((lv_osw c3 rfl).trans ((lv_osw c4 rfl).trans ((lv_osw c5 rfl).trans ((lv_osw c6 rfl).trans ((lv_osw c7 rfl).trans ((lv_osw c8 rfl).trans (rfl))))))))) (by decide) ?_
                  refine lv_iconst (v := (1 : Int32)) hx hb dX8_signOf_100 (by decide) ?_
                  rw [← Option.some.inj hf]
                  exact rt_i (u := ()) hx hb hr hlocks hP hD trivial hS dX8_signOf_101
-- method X8_letter
def lp_X8_letter_4 (a0 : Int32) : Nat → Int64 → Int32 → Option (Int64)
  | 0, _, _ => none
  | n + 1, v1, v3 => if (64 : Int32) ≤ v3 then some (v1) else if ((v3 >>> (a0 &&& 31)) &&& (1 : Int32)) = (1 : Int32) then lt (v1 ||| (shlL (1 : Int64) v3)) (fun x5 => lt (v3 + (1 : Int32)) (fun x6 => lp_X8_letter_4 a0 n x5 x6)) else lt (v1 ||| (0 : Int64)) (fun x3 => lt (v3 + (1 : Int32)) (fun x4 => lp_X8_letter_4 a0 n x3 x4))
def f_X8_letter (a0 : Int32) : Option (Int64) :=
  lp_X8_letter_4 a0 fu (0 : Int64) (0 : Int32)
set_option maxHeartbeats 4000000 in
set_option maxRecDepth 100000 in
theorem c_X8_letter (l : Launch) (G : GG) (sz : Nat)  (a0 : Int32) (o : Int64) (ho : f_X8_letter a0 = some o)  : Met l yX8_letter wsX8_letter ({ frames := 0, cells := 0, slots := 0, locals := 0 } : Room) (pcA G [.int a0] [] sz) (qcL Unit G o (fun _ => True) (fun _ => []) (va_A [] sz)) 0 0 (va_A [] sz) := by
  refine Met.ofW (cc := cX8_letter) (maxL := 4) (ret := (some .long)) (by decide) rfl ?_
  intro p e s m args below meth c s₁ B hml hv
  obtain ⟨rfl, hsz, hP, hg, hD0, hc⟩ := hv
  have hx := B.exec
  have hb := B.bytes
  have hr := B.returns
  have hts := atoms_spec (ws := wsX8_letter) B.pre
  have hown : s.vm.findClass RX8 = some m.cls := findClass_of_methodNamed B.named
  have hlocks := B.notSynchronized
  subst hsz
  have hD := hD0.self (sz := s.heap.size)
  generalize hAe : va_A [] s.heap.size = A at hD hc ⊢
  have hA : ∀ q : Nat, s.heap.size ≤ q → A q := fun q h => by rw [← hAe]; exact Or.inr h
  have hl := lv_entry ([.int a0]) (n := 4) (Nat.le_of_ble_eq_true rfl)
  rw [lg_entry_eq]
  generalize (lg_sl ([.int a0]) ++ List.replicate (4 - (lg_sl ([.int a0])).length) Slot.unset).toArray = ls at hl ⊢
  have hl : lv_has ls 4 [(0, .int a0)] := hl
  have hf := ho
  have hw_4 : ∀  (n : Nat) (v1 : Int64) (v3 : Int32), lp_X8_letter_4 a0 n v1 v3 = some o → ∀ (H : Heap) (locs : List Loc), va_P G.1 vwCl [] H → va_D A [] → va_S A s.heap H locs → ∀ (ls : Array Slot), lv_has ls 4 [(0, .int a0), (1, .long v1), (3, .int v3)] → W p l e (headSpec wsX8_letter ({ frames := 0, cells := 0, slots := 0, locals := 0 } : Room)).room s m ([.int a0] : List Value).toArray below meth c H locs 0 0 (MQ below (qcL Unit G o (fun _ => True) (fun _ => []) A) ([.int a0] : List Value).toArray s 0 0 A) (F0 m 4 ls []) := by
    intro n
    induction n with
    | zero =>
      intro v1 v3 hf
      exact absurd hf (by rw [lp_X8_letter_4]; intro h; cases h)
    | succ n ih =>
      intro v1 v3 hf H locs hP hD hS ls hl
      rw [lp_X8_letter_4] at hf
      refine lv_iload_n hx hb dX8_letter_4 rfl (lv_at hl 2 rfl) ?_
      refine lv_bipush (v := (64 : Int32)) hx hb dX8_letter_5 (by decide) ?_
      refine lv_icmp_ge (tgt := 35) hx hb dX8_letter_7 (by decide) (fun c1 => ?_) (fun c1 => ?_)
      · have hf := it_t c1 hf
        refine lv_lload_n hx hb dX8_letter_35 rfl (lv_at hl 1 rfl) ?_
        rw [← Option.some.inj hf]
        exact rt_l (u := ()) hx hb hr hlocks hP hD trivial hS dX8_letter_36
      · have hf := it_f c1 hf
        refine lv_lload_n hx hb dX8_letter_10 rfl (lv_at hl 1 rfl) ?_
        refine lv_iload_n hx hb dX8_letter_11 rfl (lv_at hl 2 rfl) ?_
        refine lv_iload_n hx hb dX8_letter_12 rfl (lv_at hl 0 rfl) ?_
        refine lv_ishr hx hb dX8_letter_13 ?_
        refine lv_iconst (v := (1 : Int32)) hx hb dX8_letter_14 (by decide) ?_
        refine lv_iand hx hb dX8_letter_15 ?_
        refine lv_iconst (v := (1 : Int32)) hx hb dX8_letter_16 (by decide) ?_
        refine lv_icmp_ne (tgt := 26) hx hb dX8_letter_17 (by decide) (fun c2 => ?_) (fun c2 => ?_)
        · have hf := it_f c2 hf
          refine lv_lconst (v := (0 : Int64)) hx hb dX8_letter_26 (by decide) ?_
          refine lv_lor hx hb dX8_letter_27 ?_
          refine lv_topl (fun x3 ex3 => ?_)
          have hf := lt_n hf x3 ex3
          refine lv_lstore_n (lv' := [(1, .long x3), (0, .int a0), (3, .int v3)]) hx hb dX8_letter_28 rfl hl (by decide) rfl (fun ls hl => ?_)
          obtain ⟨x4, ex4⟩ : ∃ y : Int32, y = (v3 + (1 : Int32)) := ⟨_, rfl⟩
          have hf := lt_n hf x4 ex4
          refine lv_iinc (v := x4) (lv' := [(3, .int x4), (1, .long x3), (0, .int a0)]) hx hb dX8_letter_29 hl (k := 2) rfl (by rw [ex4]; rfl) (by decide) rfl (fun ls hl => ?_)
          refine lv_goto (tgt := 4) hx hb dX8_letter_32 (by decide) ?_
          exact ih x3 x4 hf _ _ hP hD hS _ (lv_sub hl [2, 1, 0] rfl)
        · have hf := it_t c2 hf
          refine lv_lconst (v := (1 : Int64)) hx hb dX8_letter_20 (by decide) ?_
          refine lv_iload_n hx hb dX8_letter_21 rfl (lv_at hl 2 rfl) ?_
          refine lv_lshl (v := (shlL (1 : Int64) v3)) hx hb dX8_letter_22 rfl ?_
          refine lv_goto (tgt := 27) hx hb dX8_letter_23 (by decide) ?_
          refine lv_lor hx hb dX8_letter_27 ?_
          refine lv_topl (fun x5 ex5 => ?_)
          have hf := lt_n hf x5 ex5
          refine lv_lstore_n (lv' := [(1, .long x5), (0, .int a0), (3, .int v3)]) hx hb dX8_letter_28 rfl hl (by decide) rfl (fun ls hl => ?_)
          obtain ⟨x6, ex6⟩ : ∃ y : Int32, y = (v3 + (1 : Int32)) := ⟨_, rfl⟩
          have hf := lt_n hf x6 ex6
          refine lv_iinc (v := x6) (lv' := [(3, .int x6), (1, .long x5), (0, .int a0)]) hx hb dX8_letter_29 hl (k := 2) rfl (by rw [ex6]; rfl) (by decide) rfl (fun ls hl => ?_)
          refine lv_goto (tgt := 4) hx hb dX8_letter_32 (by decide) ?_
          exact ih x5 x6 hf _ _ hP hD hS _ (lv_sub hl [2, 1, 0] rfl)
  unfold f_X8_letter at hf
  refine en (fun H locs hP hD hS => ?_) hP hD
  refine lv_lconst (v := (0 : Int64)) hx hb dX8_letter_0 (by decide) ?_
  refine lv_lstore_n (lv' := [(1, .long (0 : Int64)), (0, .int a0)]) hx hb dX8_letter_1 rfl hl (by decide) rfl (fun ls hl => ?_)
  refine lv_iconst (v := (0 : Int32)) hx hb dX8_letter_2 (by decide) ?_
  refine lv_istore_n (lv' := [(3, .int (0 : Int32)), (1, .long (0 : Int64)), (0, .int a0)]) hx hb dX8_letter_3 rfl hl (by decide) rfl (fun ls hl => ?_)
  exact hw_4 fu (0 : Int64) (0 : Int32) hf _ _ hP hD hS _ (lv_sub hl [2, 1, 0] rfl)
-- method X8_sortOf
def f_X8_sortOf (a0 : Int32) : Option (Int32) :=
  if a0 = (2 : Int32) then some ((0 : Int32)) else if a0 = (3 : Int32) then some ((1 : Int32)) else if a0 = (5 : Int32) then some ((3 : Int32)) else if a0 = (6 : Int32) then some ((4 : Int32)) else some ((-9 : Int32))
set_option maxHeartbeats 4000000 in
set_option maxRecDepth 100000 in
theorem c_X8_sortOf (l : Launch) (G : GG) (sz : Nat)  (a0 : Int32) (o : Int32) (ho : f_X8_sortOf a0 = some o)  : Met l yX8_sortOf wsX8_sortOf ({ frames := 0, cells := 0, slots := 0, locals := 0 } : Room) (pcA G [.int a0] [] sz) (qcI Unit G o (fun _ => True) (fun _ => []) (va_A [] sz)) 0 0 (va_A [] sz) := by
  refine Met.ofW (cc := cX8_sortOf) (maxL := 1) (ret := (some .int)) (by decide) rfl ?_
  intro p e s m args below meth c s₁ B hml hv
  obtain ⟨rfl, hsz, hP, hg, hD0, hc⟩ := hv
  have hx := B.exec
  have hb := B.bytes
  have hr := B.returns
  have hts := atoms_spec (ws := wsX8_sortOf) B.pre
  have hown : s.vm.findClass RX8 = some m.cls := findClass_of_methodNamed B.named
  have hlocks := B.notSynchronized
  subst hsz
  have hD := hD0.self (sz := s.heap.size)
  generalize hAe : va_A [] s.heap.size = A at hD hc ⊢
  have hA : ∀ q : Nat, s.heap.size ≤ q → A q := fun q h => by rw [← hAe]; exact Or.inr h
  have hl := lv_entry ([.int a0]) (n := 1) (Nat.le_of_ble_eq_true rfl)
  rw [lg_entry_eq]
  generalize (lg_sl ([.int a0]) ++ List.replicate (1 - (lg_sl ([.int a0])).length) Slot.unset).toArray = ls at hl ⊢
  have hl : lv_has ls 1 [(0, .int a0)] := hl
  have hf := ho
  unfold f_X8_sortOf at hf
  refine en (fun H locs hP hD hS => ?_) hP hD
  refine lv_iload_n hx hb dX8_sortOf_0 rfl (lv_at hl 0 rfl) ?_
  refine lv_iconst (v := (2 : Int32)) hx hb dX8_sortOf_1 (by decide) ?_
  refine lv_icmp_ne (tgt := 9) hx hb dX8_sortOf_2 (by decide) (fun c1 => ?_) (fun c1 => ?_)
  · have hf := it_f c1 hf
    refine lv_iload_n hx hb dX8_sortOf_9 rfl (lv_at hl 0 rfl) ?_
    refine lv_iconst (v := (3 : Int32)) hx hb dX8_sortOf_10 (by decide) ?_
    refine lv_icmp_ne (tgt := 18) hx hb dX8_sortOf_11 (by decide) (fun c2 => ?_) (fun c2 => ?_)
    · have hf := it_f c2 hf
      refine lv_iload_n hx hb dX8_sortOf_18 rfl (lv_at hl 0 rfl) ?_
      refine lv_iconst (v := (5 : Int32)) hx hb dX8_sortOf_19 (by decide) ?_
      refine lv_icmp_ne (tgt := 27) hx hb dX8_sortOf_20 (by decide) (fun c3 => ?_) (fun c3 => ?_)
      · have hf := it_f c3 hf
        refine lv_iload_n hx hb dX8_sortOf_27 rfl (lv_at hl 0 rfl) ?_
        refine lv_bipush (v := (6 : Int32)) hx hb dX8_sortOf_28 (by decide) ?_
        refine lv_icmp_ne (tgt := 37) hx hb dX8_sortOf_30 (by decide) (fun c4 => ?_) (fun c4 => ?_)
        · have hf := it_f c4 hf
          refine lv_bipush (v := (-9 : Int32)) hx hb dX8_sortOf_37 (by decide) ?_
          rw [← Option.some.inj hf]
          exact rt_i (u := ()) hx hb hr hlocks hP hD trivial hS dX8_sortOf_39
        · have hf := it_t c4 hf
          refine lv_iconst (v := (4 : Int32)) hx hb dX8_sortOf_33 (by decide) ?_
          refine lv_goto (tgt := 39) hx hb dX8_sortOf_34 (by decide) ?_
          rw [← Option.some.inj hf]
          exact rt_i (u := ()) hx hb hr hlocks hP hD trivial hS dX8_sortOf_39
      · have hf := it_t c3 hf
        refine lv_iconst (v := (3 : Int32)) hx hb dX8_sortOf_23 (by decide) ?_
        refine lv_goto (tgt := 39) hx hb dX8_sortOf_24 (by decide) ?_
        rw [← Option.some.inj hf]
        exact rt_i (u := ()) hx hb hr hlocks hP hD trivial hS dX8_sortOf_39
    · have hf := it_t c2 hf
      refine lv_iconst (v := (1 : Int32)) hx hb dX8_sortOf_14 (by decide) ?_
      refine lv_goto (tgt := 39) hx hb dX8_sortOf_15 (by decide) ?_
      rw [← Option.some.inj hf]
      exact rt_i (u := ()) hx hb hr hlocks hP hD trivial hS dX8_sortOf_39
  · have hf := it_t c1 hf
    refine lv_iconst (v := (0 : Int32)) hx hb dX8_sortOf_5 (by decide) ?_
    refine lv_goto (tgt := 39) hx hb dX8_sortOf_6 (by decide) ?_
    rw [← Option.some.inj hf]
    exact rt_i (u := ()) hx hb hr hlocks hP hD trivial hS dX8_sortOf_39
-- method X8_mostOf
def f_X8_mostOf (a0 : Int32) : Option (Int32) :=
  if a0 = (1 : Int32) then some ((8 : Int32)) else if a0 = (4 : Int32) then some ((6 : Int32)) else some ((4 : Int32))
set_option maxHeartbeats 4000000 in
set_option maxRecDepth 100000 in
theorem c_X8_mostOf (l : Launch) (G : GG) (sz : Nat)  (a0 : Int32) (o : Int32) (ho : f_X8_mostOf a0 = some o)  : Met l yX8_mostOf wsX8_mostOf ({ frames := 0, cells := 0, slots := 0, locals := 0 } : Room) (pcA G [.int a0] [] sz) (qcI Unit G o (fun _ => True) (fun _ => []) (va_A [] sz)) 0 0 (va_A [] sz) := by
  refine Met.ofW (cc := cX8_mostOf) (maxL := 1) (ret := (some .int)) (by decide) rfl ?_
  intro p e s m args below meth c s₁ B hml hv
  obtain ⟨rfl, hsz, hP, hg, hD0, hc⟩ := hv
  have hx := B.exec
  have hb := B.bytes
  have hr := B.returns
  have hts := atoms_spec (ws := wsX8_mostOf) B.pre
  have hown : s.vm.findClass RX8 = some m.cls := findClass_of_methodNamed B.named
  have hlocks := B.notSynchronized
  subst hsz
  have hD := hD0.self (sz := s.heap.size)
  generalize hAe : va_A [] s.heap.size = A at hD hc ⊢
  have hA : ∀ q : Nat, s.heap.size ≤ q → A q := fun q h => by rw [← hAe]; exact Or.inr h
  have hl := lv_entry ([.int a0]) (n := 1) (Nat.le_of_ble_eq_true rfl)
  rw [lg_entry_eq]
  generalize (lg_sl ([.int a0]) ++ List.replicate (1 - (lg_sl ([.int a0])).length) Slot.unset).toArray = ls at hl ⊢
  have hl : lv_has ls 1 [(0, .int a0)] := hl
  have hf := ho
  unfold f_X8_mostOf at hf
  refine en (fun H locs hP hD hS => ?_) hP hD
  refine lv_iload_n hx hb dX8_mostOf_0 rfl (lv_at hl 0 rfl) ?_
  refine lv_iconst (v := (1 : Int32)) hx hb dX8_mostOf_1 (by decide) ?_
  refine lv_icmp_ne (tgt := 10) hx hb dX8_mostOf_2 (by decide) (fun c1 => ?_) (fun c1 => ?_)
  · have hf := it_f c1 hf
    refine lv_iload_n hx hb dX8_mostOf_10 rfl (lv_at hl 0 rfl) ?_
    refine lv_iconst (v := (4 : Int32)) hx hb dX8_mostOf_11 (by decide) ?_
    refine lv_icmp_ne (tgt := 20) hx hb dX8_mostOf_12 (by decide) (fun c2 => ?_) (fun c2 => ?_)
    · have hf := it_f c2 hf
      refine lv_iconst (v := (4 : Int32)) hx hb dX8_mostOf_20 (by decide) ?_
      rw [← Option.some.inj hf]
      exact rt_i (u := ()) hx hb hr hlocks hP hD trivial hS dX8_mostOf_21
    · have hf := it_t c2 hf
      refine lv_bipush (v := (6 : Int32)) hx hb dX8_mostOf_15 (by decide) ?_
      refine lv_goto (tgt := 21) hx hb dX8_mostOf_17 (by decide) ?_
      rw [← Option.some.inj hf]
      exact rt_i (u := ()) hx hb hr hlocks hP hD trivial hS dX8_mostOf_21
  · have hf := it_t c1 hf
    refine lv_bipush (v := (8 : Int32)) hx hb dX8_mostOf_5 (by decide) ?_
    refine lv_goto (tgt := 21) hx hb dX8_mostOf_7 (by decide) ?_
    rw [← Option.some.inj hf]
    exact rt_i (u := ()) hx hb hr hlocks hP hD trivial hS dX8_mostOf_21
-- method X8_has
def f_X8_has (a0 : Int64) (a2 : Int32) : Option (Int32) :=
  if ((shrL a0 a2) &&& (1 : Int64)) = (1 : Int64) then some ((1 : Int32)) else some ((0 : Int32))
set_option maxHeartbeats 4000000 in
set_option maxRecDepth 100000 in
theorem c_X8_has (l : Launch) (G : GG) (sz : Nat)  (a0 : Int64) (a2 : Int32) (o : Int32) (ho : f_X8_has a0 a2 = some o)  : Met l yX8_has wsX8_has ({ frames := 0, cells := 0, slots := 0, locals := 0 } : Room) (pcA G [.long a0, .int a2] [] sz) (qcI Unit G o (fun _ => True) (fun _ => []) (va_A [] sz)) 0 0 (va_A [] sz) := by
  refine Met.ofW (cc := cX8_has) (maxL := 3) (ret := (some .boolean)) (by decide) rfl ?_
  intro p e s m args below meth c s₁ B hml hv
  obtain ⟨rfl, hsz, hP, hg, hD0, hc⟩ := hv
  have hx := B.exec
  have hb := B.bytes
  have hr := B.returns
  have hts := atoms_spec (ws := wsX8_has) B.pre
  have hown : s.vm.findClass RX8 = some m.cls := findClass_of_methodNamed B.named
  have hlocks := B.notSynchronized
  subst hsz
  have hD := hD0.self (sz := s.heap.size)
  generalize hAe : va_A [] s.heap.size = A at hD hc ⊢
  have hA : ∀ q : Nat, s.heap.size ≤ q → A q := fun q h => by rw [← hAe]; exact Or.inr h
  have hl := lv_entry ([.long a0, .int a2]) (n := 3) (Nat.le_of_ble_eq_true rfl)
  rw [lg_entry_eq]
  generalize (lg_sl ([.long a0, .int a2]) ++ List.replicate (3 - (lg_sl ([.long a0, .int a2])).length) Slot.unset).toArray = ls at hl ⊢
  have hl : lv_has ls 3 [(0, .long a0), (2, .int a2)] := hl
  have hf := ho
  unfold f_X8_has at hf
  refine en (fun H locs hP hD hS => ?_) hP hD
  refine lv_lload_n hx hb dX8_has_0 rfl (lv_at hl 0 rfl) ?_
  refine lv_iload_n hx hb dX8_has_1 rfl (lv_at hl 1 rfl) ?_
  refine lv_lshr (v := (shrL a0 a2)) hx hb dX8_has_2 rfl ?_
  refine lv_lconst (v := (1 : Int64)) hx hb dX8_has_3 (by decide) ?_
  refine lv_land hx hb dX8_has_4 ?_
  refine lv_lconst (v := (1 : Int64)) hx hb dX8_has_5 (by decide) ?_
  refine W.lcmp hx hb dX8_has_6 ?_
  refine lv_if_ne (tgt := 14) hx hb dX8_has_7 (by decide) (fun c1 => ?_) (fun c1 => ?_)
  · have c1 := fun z => c1 (lgc0.mpr z)
    have hf := it_f c1 hf
    refine lv_iconst (v := (0 : Int32)) hx hb dX8_has_14 (by decide) ?_
    rw [← Option.some.inj hf]
    exact rt_z (u := ()) hx hb hr zb_0 hlocks hP hD trivial hS dX8_has_15
  · have c1 := lgc0.mp c1
    have hf := it_t c1 hf
    refine lv_iconst (v := (1 : Int32)) hx hb dX8_has_10 (by decide) ?_
    refine lv_goto (tgt := 15) hx hb dX8_has_11 (by decide) ?_
    rw [← Option.some.inj hf]
    exact rt_z (u := ()) hx hb hr zb_1 hlocks hP hD trivial hS dX8_has_15
-- method X8_isWorld
def f_X8_isWorld (a0 : Int32) : Option (Int32) :=
  bd (f_X8_in ((a0).toInt64) (0 : Int64) (63 : Int64)) (fun o1 => gd (zb o1) (some (o1)))
set_option maxHeartbeats 4000000 in
set_option maxRecDepth 100000 in
theorem c_X8_isWorld (l : Launch) (G : GG) (sz : Nat)  (a0 : Int32) (o : Int32) (ho : f_X8_isWorld a0 = some o)  : Met l yX8_isWorld wsX8_isWorld ({ frames := 1, cells := 0, slots := 0, locals := 25 } : Room) (pcA G [.int a0] [] sz) (qcI Unit G o (fun _ => True) (fun _ => []) (va_A [] sz)) 0 0 (va_A [] sz) := by
  refine Met.ofW (cc := cX8_isWorld) (maxL := 1) (ret := (some .boolean)) (by decide) rfl ?_
  intro p e s m args below meth c s₁ B hml hv
  obtain ⟨rfl, hsz, hP, hg, hD0, hc⟩ := hv
  have hx := B.exec
  have hb := B.bytes
  have hr := B.returns
  have hts := atoms_spec (ws := wsX8_isWorld) B.pre
  have hown : s.vm.findClass RX8 = some m.cls := findClass_of_methodNamed B.named
  have hlocks := B.notSynchronized
  subst hsz
  have hD := hD0.self (sz := s.heap.size)
  generalize hAe : va_A [] s.heap.size = A at hD hc ⊢
  have hA : ∀ q : Nat, s.heap.size ≤ q → A q := fun q h => by rw [← hAe]; exact Or.inr h
  have hl := lv_entry ([.int a0]) (n := 1) (Nat.le_of_ble_eq_true rfl)
  rw [lg_entry_eq]
  generalize (lg_sl ([.int a0]) ++ List.replicate (1 - (lg_sl ([.int a0])).length) Slot.unset).toArray = ls at hl ⊢
  have hl : lv_has ls 1 [(0, .int a0)] := hl
  have hf := ho
  unfold f_X8_isWorld at hf
  refine en (fun H locs hP hD hS => ?_) hP hD
  refine lv_iload_n hx hb dX8_isWorld_0 rfl (lv_at hl 0 rfl) ?_
  refine lv_i2l (v := (a0).toInt64) hx hb dX8_isWorld_1 rfl ?_
  refine lv_lconst (v := (0 : Int64)) hx hb dX8_isWorld_2 (by decide) ?_
  refine lv_ldc2 (v := (63 : Int64)) hx hb hown (hts (.constantLong RX8 186 (63 : Int64)) (by decide +kernel)) dX8_isWorld_3 ?_
  obtain ⟨o1, ho1, hf⟩ := bd_e hf
  refine af0_i (va_runS (As := [.long ((a0).toInt64), .long (0 : Int64), .long (63 : Int64)]) (rest := []) ⟨hx, hb, hml, hown, hts⟩ (c_X8_in l G H.size ((a0).toInt64) (0 : Int64) (63 : Int64) o1 ho1) (va_cwS 3 hts gX8_isWorld_X8_in rfl rfl rfl (by decide +kernel) ⟨Nat.le_of_ble_eq_true rfl, Nat.le_of_ble_eq_true rfl⟩) (pcA_pre hg hc hP hD hS hA [] rfl rfl [.long ((a0).toInt64), .long (0 : Int64), .long (63 : Int64)]) rfl rfl hl.1 rfl (lv_room (Nat.le_of_ble_eq_true rfl)) dX8_isWorld_6 ⟨Nat.zero_le _, Nat.zero_le _⟩) hP hD hS hA (fun H locs hP hD hS => ?_)
  have z2 := gd_t hf
  have hf := gd_x hf
  rw [← Option.some.inj hf]
  exact rt_z (u := ()) hx hb hr z2 hlocks hP hD trivial hS dX8_isWorld_9
-- method X8_sizeOf
def lp_X8_sizeOf_4 (a0 : Int64) : Nat → Int32 → Int32 → Option (Int32)
  | 0, _, _ => none
  | n + 1, v2, v3 => if (64 : Int32) ≤ v3 then some (v2) else bd (f_X8_has a0 v3) (fun o2 => if o2 = (0 : Int32) then lt (v2 + (0 : Int32)) (fun x4 => lt (v3 + (1 : Int32)) (fun x5 => lp_X8_sizeOf_4 a0 n x4 x5)) else lt (v2 + (1 : Int32)) (fun x6 => lt (v3 + (1 : Int32)) (fun x7 => lp_X8_sizeOf_4 a0 n x6 x7)))
def f_X8_sizeOf (a0 : Int64) : Option (Int32) :=
  lp_X8_sizeOf_4 a0 fu (0 : Int32) (0 : Int32)
set_option maxHeartbeats 4000000 in
set_option maxRecDepth 100000 in
theorem c_X8_sizeOf (l : Launch) (G : GG) (sz : Nat)  (a0 : Int64) (o : Int32) (ho : f_X8_sizeOf a0 = some o)  : Met l yX8_sizeOf wsX8_sizeOf ({ frames := 1, cells := 0, slots := 0, locals := 22 } : Room) (pcA G [.long a0] [] sz) (qcI Unit G o (fun _ => True) (fun _ => []) (va_A [] sz)) 0 0 (va_A [] sz) := by
  refine Met.ofW (cc := cX8_sizeOf) (maxL := 4) (ret := (some .int)) (by decide) rfl ?_
  intro p e s m args below meth c s₁ B hml hv
  obtain ⟨rfl, hsz, hP, hg, hD0, hc⟩ := hv
  have hx := B.exec
  have hb := B.bytes
  have hr := B.returns
  have hts := atoms_spec (ws := wsX8_sizeOf) B.pre
  have hown : s.vm.findClass RX8 = some m.cls := findClass_of_methodNamed B.named
  have hlocks := B.notSynchronized
  subst hsz
  have hD := hD0.self (sz := s.heap.size)
  generalize hAe : va_A [] s.heap.size = A at hD hc ⊢
  have hA : ∀ q : Nat, s.heap.size ≤ q → A q := fun q h => by rw [← hAe]; exact Or.inr h
  have hl := lv_entry ([.long a0]) (n := 4) (Nat.le_of_ble_eq_true rfl)
  rw [lg_entry_eq]
  generalize (lg_sl ([.long a0]) ++ List.replicate (4 - (lg_sl ([.long a0])).length) Slot.unset).toArray = ls at hl ⊢
  have hl : lv_has ls 4 [(0, .long a0)] := hl
  have hf := ho
  have hw_4 : ∀  (n : Nat) (v2 : Int32) (v3 : Int32), lp_X8_sizeOf_4 a0 n v2 v3 = some o → ∀ (H : Heap) (locs : List Loc), va_P G.1 vwCl [] H → va_D A [] → va_S A s.heap H locs → ∀ (ls : Array Slot), lv_has ls 4 [(0, .long a0), (2, .int v2), (3, .int v3)] → W p l e (headSpec wsX8_sizeOf ({ frames := 1, cells := 0, slots := 0, locals := 22 } : Room)).room s m ([.long a0] : List Value).toArray below meth c H locs 0 0 (MQ below (qcI Unit G o (fun _ => True) (fun _ => []) A) ([.long a0] : List Value).toArray s 0 0 A) (F0 m 4 ls []) := by
    intro n
    induction n with
    | zero =>
      intro v2 v3 hf
      exact absurd hf (by rw [lp_X8_sizeOf_4]; intro h; cases h)
    | succ n ih =>
      intro v2 v3 hf H locs hP hD hS ls hl
      rw [lp_X8_sizeOf_4] at hf
      refine lv_iload_n hx hb dX8_sizeOf_4 rfl (lv_at hl 2 rfl) ?_
      refine lv_bipush (v := (64 : Int32)) hx hb dX8_sizeOf_5 (by decide) ?_
      refine lv_icmp_ge (tgt := 32) hx hb dX8_sizeOf_7 (by decide) (fun c1 => ?_) (fun c1 => ?_)
      · have hf := it_t c1 hf
        refine lv_iload_n hx hb dX8_sizeOf_32 rfl (lv_at hl 1 rfl) ?_
        rw [← Option.some.inj hf]
        exact rt_i (u := ()) hx hb hr hlocks hP hD trivial hS dX8_sizeOf_33
      · have hf := it_f c1 hf
        refine lv_iload_n hx hb dX8_sizeOf_10 rfl (lv_at hl 1 rfl) ?_
        refine lv_lload_n hx hb dX8_sizeOf_11 rfl (lv_at hl 0 rfl) ?_
        refine lv_iload_n hx hb dX8_sizeOf_12 rfl (lv_at hl 2 rfl) ?_
        obtain ⟨o2, ho2, hf⟩ := bd_e hf
        refine af0_i (va_runS (As := [.long a0, .int v3]) (rest := [.int v2]) ⟨hx, hb, hml, hown, hts⟩ (c_X8_has l G H.size a0 v3 o2 ho2) (va_cwS 2 hts gX8_sizeOf_X8_has rfl rfl rfl (by decide +kernel) ⟨Nat.le_of_ble_eq_true rfl, Nat.le_of_ble_eq_true rfl⟩) (pcA_pre hg hc hP hD hS hA [] rfl rfl [.long a0, .int v3]) rfl rfl hl.1 rfl (lv_room (Nat.le_of_ble_eq_true rfl)) dX8_sizeOf_13 ⟨Nat.zero_le _, Nat.zero_le _⟩) hP hD hS hA (fun H locs hP hD hS => ?_)
        refine lv_if_eq (tgt := 23) hx hb dX8_sizeOf_16 (by decide) (fun c3 => ?_) (fun c3 => ?_)
        · have hf := it_t c3 hf
          refine lv_iconst (v := (0 : Int32)) hx hb dX8_sizeOf_23 (by decide) ?_
          refine lv_iadd hx hb dX8_sizeOf_24 ?_
          refine lv_topi (fun x4 ex4 => ?_)
          have hf := lt_n hf x4 ex4
          refine lv_istore_n (lv' := [(2, .int x4), (0, .long a0), (3, .int v3)]) hx hb dX8_sizeOf_25 rfl hl (by decide) rfl (fun ls hl => ?_)
          obtain ⟨x5, ex5⟩ : ∃ y : Int32, y = (v3 + (1 : Int32)) := ⟨_, rfl⟩
          have hf := lt_n hf x5 ex5
          refine lv_iinc (v := x5) (lv' := [(3, .int x5), (2, .int x4), (0, .long a0)]) hx hb dX8_sizeOf_26 hl (k := 2) rfl (by rw [ex5]; rfl) (by decide) rfl (fun ls hl => ?_)
          refine lv_goto (tgt := 4) hx hb dX8_sizeOf_29 (by decide) ?_
          exact ih x4 x5 hf _ _ hP hD hS _ (lv_sub hl [2, 1, 0] rfl)
        · have hf := it_f c3 hf
          refine lv_iconst (v := (1 : Int32)) hx hb dX8_sizeOf_19 (by decide) ?_
          refine lv_goto (tgt := 24) hx hb dX8_sizeOf_20 (by decide) ?_
          refine lv_iadd hx hb dX8_sizeOf_24 ?_
          refine lv_topi (fun x6 ex6 => ?_)
          have hf := lt_n hf x6 ex6
          refine lv_istore_n (lv' := [(2, .int x6), (0, .long a0), (3, .int v3)]) hx hb dX8_sizeOf_25 rfl hl (by decide) rfl (fun ls hl => ?_)
          obtain ⟨x7, ex7⟩ : ∃ y : Int32, y = (v3 + (1 : Int32)) := ⟨_, rfl⟩
          have hf := lt_n hf x7 ex7
          refine lv_iinc (v := x7) (lv' := [(3, .int x7), (2, .int x6), (0, .long a0)]) hx hb dX8_sizeOf_26 hl (k := 2) rfl (by rw [ex7]; rfl) (by decide) rfl (fun ls hl => ?_)
          refine lv_goto (tgt := 4) hx hb dX8_sizeOf_29 (by decide) ?_
          exact ih x6 x7 hf _ _ hP hD hS _ (lv_sub hl [2, 1, 0] rfl)
  unfold f_X8_sizeOf at hf
  refine en (fun H locs hP hD hS => ?_) hP hD
  refine lv_iconst (v := (0 : Int32)) hx hb dX8_sizeOf_0 (by decide) ?_
  refine lv_istore_n (lv' := [(2, .int (0 : Int32)), (0, .long a0)]) hx hb dX8_sizeOf_1 rfl hl (by decide) rfl (fun ls hl => ?_)
  refine lv_iconst (v := (0 : Int32)) hx hb dX8_sizeOf_2 (by decide) ?_
  refine lv_istore_n (lv' := [(3, .int (0 : Int32)), (2, .int (0 : Int32)), (0, .long a0)]) hx hb dX8_sizeOf_3 rfl hl (by decide) rfl (fun ls hl => ?_)
  exact hw_4 fu (0 : Int32) (0 : Int32) hf _ _ hP hD hS _ (lv_sub hl [2, 1, 0] rfl)
