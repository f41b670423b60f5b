-- method X3_take
def f_X3_take (t_size : Int32) (t_next : Int32) (t_token : Int32) (t_tokens : Nat → Int32) : Option (Int32 × Int32) :=
  lt (t_next + (1 : Int32)) (fun x1 => if x1 < (0 : Int32) then some (x1, (256 : Int32)) else if t_size ≤ x1 then some (x1, (256 : Int32)) else if (401 : Int32) ≤ x1 then some (x1, (256 : Int32)) else gd (ib x1 401) (lt (t_tokens x1.toNatClampNeg) (fun x5 => some (x1, x5))))
set_option maxHeartbeats 4000000 in
set_option maxRecDepth 100000 in
theorem c_X3_take (l : Launch) (G : GG) (h_t h_t_tokens h_t_places : Nat) (sz : Nat) (t_size : Int32) (t_next : Int32) (t_token : Int32) (t_when : Int64) (t_then : Int64) (t_tokens : Nat → Int32)  (o : Int32 × Int32) (ho : f_X3_take t_size t_next t_token t_tokens = some o)  : Met l yX3_take wsX3_take ({ frames := 0, cells := 0, slots := 0, locals := 0 } : Room) (pcA G [.ref h_t] [(h_t, .inr (3, [.ref h_t_tokens, .ref h_t_places, .int t_size, .int t_next, .int t_token, .long t_when, .long t_then])), (h_t_tokens, .inl (G.2.1.2.1, 401, .inl t_tokens))] sz) (qcV Unit G (fun _ => True) (fun _ => [(h_t, .inr (3, [.ref h_t_tokens, .ref h_t_places, .int t_size, .int o.1, .int o.2, .long t_when, .long t_then])), (h_t_tokens, .inl (G.2.1.2.1, 401, .inl t_tokens))]) (va_A [(h_t, .inr (3, [.ref h_t_tokens, .ref h_t_places, .int t_size, .int t_next, .int t_token, .long t_when, .long t_then])), (h_t_tokens, .inl (G.2.1.2.1, 401, .inl t_tokens))] sz)) 0 0 (va_A [(h_t, .inr (3, [.ref h_t_tokens, .ref h_t_places, .int t_size, .int t_next, .int t_token, .long t_when, .long t_then])), (h_t_tokens, .inl (G.2.1.2.1, 401, .inl t_tokens))] sz) := by
  refine Met.ofW (cc := cX3_take) (maxL := 1) (ret := none) (by decide) rfl ?_
  intro p e s m args below meth c s₁ B hml hv
  obtain ⟨rfl, hsz, hP, hg, hD0, hc⟩ := hv
  have hx := B.exec
  have hb := B.bytes
  have hr := B.returns
  have hts := atoms_spec (ws := wsX3_take) B.pre
  have hown : s.vm.findClass RX3 = some m.cls := findClass_of_methodNamed B.named
  have hlocks := B.notSynchronized
  subst hsz
  have hD := hD0.self (sz := s.heap.size)
  generalize hAe : va_A [(h_t, .inr (3, [.ref h_t_tokens, .ref h_t_places, .int t_size, .int t_next, .int t_token, .long t_when, .long t_then])), (h_t_tokens, .inl (G.2.1.2.1, 401, .inl t_tokens))] s.heap.size = A at hD hc ⊢
  have hA : ∀ q : Nat, s.heap.size ≤ q → A q := fun q h => by rw [← hAe]; exact Or.inr h
  have hiX3 : ∀ w ∈ wsX30, w ∈ wsX3_take := by decide +kernel
  have hl := lv_entry ([.ref h_t]) (n := 1) (Nat.le_of_ble_eq_true rfl)
  rw [lg_entry_eq]
  generalize (lg_sl ([.ref h_t]) ++ List.replicate (1 - (lg_sl ([.ref h_t])).length) Slot.unset).toArray = ls at hl ⊢
  have hl : lv_has ls 1 [(0, .ref h_t)] := hl
  have hf := ho
  unfold f_X3_take at hf
  refine en (fun H locs hP hD hS => ?_) hP hD
  refine lv_aload_n hx hb dX3_take_0 rfl (lv_at hl 0 rfl) ?_
  refine lv_dup hx hb dX3_take_1 rfl ?_
  refine va_get (D := G.1) (ci := 3) (v := .int t_next) (C := RX3) (T := TX3) (N := 7) hx hb hts hiX3 hown hg.1 hP 0 rfl rfl 3 (by decide) (hts (.fieldLink RX3 22 "AsARule$Reader" "next" "I") (by decide +kernel)) (fun _ h9 => h9) rfl dX3_take_2 ?_
  refine lv_iconst (v := (1 : Int32)) hx hb dX3_take_5 (by decide) ?_
  refine lv_iadd hx hb dX3_take_6 ?_
  refine lv_topi (fun x1 ex1 => ?_)
  have hf := lt_n hf x1 ex1
  refine va_put (D := G.1) (ci := 3) (v := .int x1) (ty := .int) (C := RX3) (T := TX3) (N := 7) hx hb hts hiX3 tyX3 tyX3_ok nmX3 hown hg.1 hP hD hS 0 rfl rfl 3 (by decide) (hts (.fieldLink RX3 22 "AsARule$Reader" "next" "I") (by decide +kernel)) (fun _ h9 => h9) rfl (by decide +kernel) rfl rfl (Nat.le_of_ble_eq_true rfl) dX3_take_7 (fun H locs hP hD hS => ?_)
  have hP : va_P G.1 vwCl [(h_t, .inr (3, [.ref h_t_tokens, .ref h_t_places, .int t_size, .int x1, .int t_token, .long t_when, .long t_then])), (h_t_tokens, .inl (G.2.1.2.1, 401, .inl t_tokens))] H := hP
  have hD : va_D A [(h_t, .inr (3, [.ref h_t_tokens, .ref h_t_places, .int t_size, .int x1, .int t_token, .long t_when, .long t_then])), (h_t_tokens, .inl (G.2.1.2.1, 401, .inl t_tokens))] := hD
  refine lv_aload_n hx hb dX3_take_10 rfl (lv_at hl 0 rfl) ?_
  refine lv_aload_n hx hb dX3_take_11 rfl (lv_at hl 0 rfl) ?_
  refine va_get (D := G.1) (ci := 3) (v := .int x1) (C := RX3) (T := TX3) (N := 7) hx hb hts hiX3 hown hg.1 hP 0 rfl rfl 3 (by decide) (hts (.fieldLink RX3 22 "AsARule$Reader" "next" "I") (by decide +kernel)) (fun _ h9 => h9) rfl dX3_take_12 ?_
  refine lv_if_lt (tgt := 53) hx hb dX3_take_15 (by decide) (fun c2 => ?_) (fun c2 => ?_)
  · have hf := it_t c2 hf
    refine lv_sipush (v := (256 : Int32)) hx hb dX3_take_53 (by decide) ?_
    refine va_put (D := G.1) (ci := 3) (v := .int (256 : Int32)) (ty := .int) (C := RX3) (T := TX3) (N := 7) hx hb hts hiX3 tyX3 tyX3_ok nmX3 hown hg.1 hP hD hS 0 rfl rfl 4 (by decide) (hts (.fieldLink RX3 25 "AsARule$Reader" "token" "I") (by decide +kernel)) (fun _ h9 => h9) rfl (by decide +kernel) rfl rfl (Nat.le_of_ble_eq_true rfl) dX3_take_56 (fun H locs hP hD hS => ?_)
    have hP : va_P G.1 vwCl [(h_t, .inr (3, [.ref h_t_tokens, .ref h_t_places, .int t_size, .int x1, .int (256 : Int32), .long t_when, .long t_then])), (h_t_tokens, .inl (G.2.1.2.1, 401, .inl t_tokens))] H := hP
    have hD : va_D A [(h_t, .inr (3, [.ref h_t_tokens, .ref h_t_places, .int t_size, .int x1, .int (256 : Int32), .long t_when, .long t_then])), (h_t_tokens, .inl (G.2.1.2.1, 401, .inl t_tokens))] := hD
    rw [← Option.some.inj hf]
    exact rt_v (u := ()) hx hb hr hlocks hP hD trivial hS dX3_take_59
  · have hf := it_f c2 hf
    refine lv_aload_n hx hb dX3_take_18 rfl (lv_at hl 0 rfl) ?_
    refine va_get (D := G.1) (ci := 3) (v := .int x1) (C := RX3) (T := TX3) (N := 7) hx hb hts hiX3 hown hg.1 hP 0 rfl rfl 3 (by decide) (hts (.fieldLink RX3 22 "AsARule$Reader" "next" "I") (by decide +kernel)) (fun _ h9 => h9) rfl dX3_take_19 ?_
    refine lv_aload_n hx hb dX3_take_22 rfl (lv_at hl 0 rfl) ?_
    refine va_get (D := G.1) (ci := 3) (v := .int t_size) (C := RX3) (T := TX3) (N := 7) hx hb hts hiX3 hown hg.1 hP 0 rfl rfl 2 (by decide) (hts (.fieldLink RX3 18 "AsARule$Reader" "size" "I") (by decide +kernel)) (fun _ h9 => h9) rfl dX3_take_23 ?_
    refine lv_icmp_ge (tgt := 53) hx hb dX3_take_26 (by decide) (fun c3 => ?_) (fun c3 => ?_)
    · have hf := it_t c3 hf
      refine lv_sipush (v := (256 : Int32)) hx hb dX3_take_53 (by decide) ?_
      refine va_put (D := G.1) (ci := 3) (v := .int (256 : Int32)) (ty := .int) (C := RX3) (T := TX3) (N := 7) hx hb hts hiX3 tyX3 tyX3_ok nmX3 hown hg.1 hP hD hS 0 rfl rfl 4 (by decide) (hts (.fieldLink RX3 25 "AsARule$Reader" "token" "I") (by decide +kernel)) (fun _ h9 => h9) rfl (by decide +kernel) rfl rfl (Nat.le_of_ble_eq_true rfl) dX3_take_56 (fun H locs hP hD hS => ?_)
      have hP : va_P G.1 vwCl [(h_t, .inr (3, [.ref h_t_tokens, .ref h_t_places, .int t_size, .int x1, .int (256 : Int32), .long t_when, .long t_then])), (h_t_tokens, .inl (G.2.1.2.1, 401, .inl t_tokens))] H := hP
      have hD : va_D A [(h_t, .inr (3, [.ref h_t_tokens, .ref h_t_places, .int t_size, .int x1, .int (256 : Int32), .long t_when, .long t_then])), (h_t_tokens, .inl (G.2.1.2.1, 401, .inl t_tokens))] := hD
      rw [← Option.some.inj hf]
      exact rt_v (u := ()) hx hb hr hlocks hP hD trivial hS dX3_take_59
    · have hf := it_f c3 hf
      refine lv_aload_n hx hb dX3_take_29 rfl (lv_at hl 0 rfl) ?_
      refine va_get (D := G.1) (ci := 3) (v := .int x1) (C := RX3) (T := TX3) (N := 7) hx hb hts hiX3 hown hg.1 hP 0 rfl rfl 3 (by decide) (hts (.fieldLink RX3 22 "AsARule$Reader" "next" "I") (by decide +kernel)) (fun _ h9 => h9) rfl dX3_take_30 ?_
      refine lv_aload_n hx hb dX3_take_33 rfl (lv_at hl 0 rfl) ?_
      refine va_get (D := G.1) (ci := 3) (v := .ref h_t_tokens) (C := RX3) (T := TX3) (N := 7) hx hb hts hiX3 hown hg.1 hP 0 rfl rfl 0 (by decide) (hts (.fieldLink RX3 9 "AsARule$Reader" "tokens" "[I") (by decide +kernel)) (fun _ h9 => h9) rfl dX3_take_34 ?_
      refine va_alen (v := (401 : Int32)) hx hb hg.1 hP 1 1 rfl rfl rfl dX3_take_37 ?_
      refine lv_icmp_ge (tgt := 53) hx hb dX3_take_38 (by decide) (fun c4 => ?_) (fun c4 => ?_)
      · have hf := it_t c4 hf
        refine lv_sipush (v := (256 : Int32)) hx hb dX3_take_53 (by decide) ?_
        refine va_put (D := G.1) (ci := 3) (v := .int (256 : Int32)) (ty := .int) (C := RX3) (T := TX3) (N := 7) hx hb hts hiX3 tyX3 tyX3_ok nmX3 hown hg.1 hP hD hS 0 rfl rfl 4 (by decide) (hts (.fieldLink RX3 25 "AsARule$Reader" "token" "I") (by decide +kernel)) (fun _ h9 => h9) rfl (by decide +kernel) rfl rfl (Nat.le_of_ble_eq_true rfl) dX3_take_56 (fun H locs hP hD hS => ?_)
        have hP : va_P G.1 vwCl [(h_t, .inr (3, [.ref h_t_tokens, .ref h_t_places, .int t_size, .int x1, .int (256 : Int32), .long t_when, .long t_then])), (h_t_tokens, .inl (G.2.1.2.1, 401, .inl t_tokens))] H := hP
        have hD : va_D A [(h_t, .inr (3, [.ref h_t_tokens, .ref h_t_places, .int t_size, .int x1, .int (256 : Int32), .long t_when, .long t_then])), (h_t_tokens, .inl (G.2.1.2.1, 401, .inl t_tokens))] := hD
        rw [← Option.some.inj hf]
        exact rt_v (u := ()) hx hb hr hlocks hP hD trivial hS dX3_take_59
      · have hf := it_f c4 hf
        refine lv_aload_n hx hb dX3_take_41 rfl (lv_at hl 0 rfl) ?_
        refine va_get (D := G.1) (ci := 3) (v := .ref h_t_tokens) (C := RX3) (T := TX3) (N := 7) hx hb hts hiX3 hown hg.1 hP 0 rfl rfl 0 (by decide) (hts (.fieldLink RX3 9 "AsARule$Reader" "tokens" "[I") (by decide +kernel)) (fun _ h9 => h9) rfl dX3_take_42 ?_
        refine lv_aload_n hx hb dX3_take_45 rfl (lv_at hl 0 rfl) ?_
        refine va_get (D := G.1) (ci := 3) (v := .int x1) (C := RX3) (T := TX3) (N := 7) hx hb hts hiX3 hown hg.1 hP 0 rfl rfl 3 (by decide) (hts (.fieldLink RX3 22 "AsARule$Reader" "next" "I") (by decide +kernel)) (fun _ h9 => h9) rfl dX3_take_46 ?_
        refine va_iald hx hb hg.1 hP 1 1 rfl rfl (ib_in (gd_t hf)) dX3_take_49 ?_
        have hf := gd_x hf
        refine lv_goto (tgt := 56) hx hb dX3_take_50 (by decide) ?_
        refine lv_topi (fun x5 ex5 => ?_)
        have hf := lt_n hf x5 ex5
        refine va_put (D := G.1) (ci := 3) (v := .int x5) (ty := .int) (C := RX3) (T := TX3) (N := 7) hx hb hts hiX3 tyX3 tyX3_ok nmX3 hown hg.1 hP hD hS 0 rfl rfl 4 (by decide) (hts (.fieldLink RX3 25 "AsARule$Reader" "token" "I") (by decide +kernel)) (fun _ h9 => h9) rfl (by decide +kernel) rfl rfl (Nat.le_of_ble_eq_true rfl) dX3_take_56 (fun H locs hP hD hS => ?_)
        have hP : va_P G.1 vwCl [(h_t, .inr (3, [.ref h_t_tokens, .ref h_t_places, .int t_size, .int x1, .int x5, .long t_when, .long t_then])), (h_t_tokens, .inl (G.2.1.2.1, 401, .inl t_tokens))] H := hP
        have hD : va_D A [(h_t, .inr (3, [.ref h_t_tokens, .ref h_t_places, .int t_size, .int x1, .int x5, .long t_when, .long t_then])), (h_t_tokens, .inl (G.2.1.2.1, 401, .inl t_tokens))] := hD
        rw [← Option.some.inj hf]
        exact rt_v (u := ()) hx hb hr hlocks hP hD trivial hS dX3_take_59
-- method X3_refuse
def f_X3_refuse (t_token : Int32) : Option (Int32) :=
  some ((257 : Int32))
set_option maxHeartbeats 4000000 in
set_option maxRecDepth 100000 in
theorem c_X3_refuse (l : Launch) (G : GG) (h_t h_t_tokens h_t_places : Nat) (sz : Nat) (t_size : Int32) (t_next : Int32) (t_token : Int32) (t_when : Int64) (t_then : Int64)  (o : Int32) (ho : f_X3_refuse t_token = some o)  : Met l yX3_refuse wsX3_refuse ({ frames := 0, cells := 0, slots := 0, locals := 0 } : Room) (pcA G [.ref h_t] [(h_t, .inr (3, [.ref h_t_tokens, .ref h_t_places, .int t_size, .int t_next, .int t_token, .long t_when, .long t_then]))] sz) (qcV Unit G (fun _ => True) (fun _ => [(h_t, .inr (3, [.ref h_t_tokens, .ref h_t_places, .int t_size, .int t_next, .int o, .long t_when, .long t_then]))]) (va_A [(h_t, .inr (3, [.ref h_t_tokens, .ref h_t_places, .int t_size, .int t_next, .int t_token, .long t_when, .long t_then]))] sz)) 0 0 (va_A [(h_t, .inr (3, [.ref h_t_tokens, .ref h_t_places, .int t_size, .int t_next, .int t_token, .long t_when, .long t_then]))] sz) := by
  refine Met.ofW (cc := cX3_refuse) (maxL := 1) (ret := none) (by decide) rfl ?_
  intro p e s m args below meth c s₁ B hml hv
  obtain ⟨rfl, hsz, hP, hg, hD0, hc⟩ := hv
  have hx := B.exec
  have hb := B.bytes
  have hr := B.returns
  have hts := atoms_spec (ws := wsX3_refuse) B.pre
  have hown : s.vm.findClass RX3 = some m.cls := findClass_of_methodNamed B.named
  have hlocks := B.notSynchronized
  subst hsz
  have hD := hD0.self (sz := s.heap.size)
  generalize hAe : va_A [(h_t, .inr (3, [.ref h_t_tokens, .ref h_t_places, .int t_size, .int t_next, .int t_token, .long t_when, .long t_then]))] s.heap.size = A at hD hc ⊢
  have hA : ∀ q : Nat, s.heap.size ≤ q → A q := fun q h => by rw [← hAe]; exact Or.inr h
  have hiX3 : ∀ w ∈ wsX30, w ∈ wsX3_refuse := by decide +kernel
  have hl := lv_entry ([.ref h_t]) (n := 1) (Nat.le_of_ble_eq_true rfl)
  rw [lg_entry_eq]
  generalize (lg_sl ([.ref h_t]) ++ List.replicate (1 - (lg_sl ([.ref h_t])).length) Slot.unset).toArray = ls at hl ⊢
  have hl : lv_has ls 1 [(0, .ref h_t)] := hl
  have hf := ho
  unfold f_X3_refuse at hf
  refine en (fun H locs hP hD hS => ?_) hP hD
  refine lv_aload_n hx hb dX3_refuse_0 rfl (lv_at hl 0 rfl) ?_
  refine lv_sipush (v := (257 : Int32)) hx hb dX3_refuse_1 (by decide) ?_
  refine va_put (D := G.1) (ci := 3) (v := .int (257 : Int32)) (ty := .int) (C := RX3) (T := TX3) (N := 7) hx hb hts hiX3 tyX3 tyX3_ok nmX3 hown hg.1 hP hD hS 0 rfl rfl 4 (by decide) (hts (.fieldLink RX3 25 "AsARule$Reader" "token" "I") (by decide +kernel)) (fun _ h9 => h9) rfl (by decide +kernel) rfl rfl (Nat.le_of_ble_eq_true rfl) dX3_refuse_4 (fun H locs hP hD hS => ?_)
  have hP : va_P G.1 vwCl [(h_t, .inr (3, [.ref h_t_tokens, .ref h_t_places, .int t_size, .int t_next, .int (257 : Int32), .long t_when, .long t_then]))] H := hP
  have hD : va_D A [(h_t, .inr (3, [.ref h_t_tokens, .ref h_t_places, .int t_size, .int t_next, .int (257 : Int32), .long t_when, .long t_then]))] := hD
  rw [← Option.some.inj hf]
  exact rt_v (u := ()) hx hb hr hlocks hP hD trivial hS dX3_refuse_7
-- method X3_expect
def f_X3_expect (t_size : Int32) (t_next : Int32) (t_token : Int32) (t_tokens : Nat → Int32) (a1 : Int32) : Option (Int32 × Int32) :=
  if t_token = a1 then bd (f_X3_take t_size t_next t_token t_tokens) (fun o3 => some (o3.1, o3.2)) else bd (f_X3_refuse t_token) (fun o2 => some (t_next, o2))
set_option maxHeartbeats 4000000 in
set_option maxRecDepth 100000 in
theorem c_X3_expect (l : Launch) (G : GG) (h_t h_t_tokens h_t_places : Nat) (sz : Nat) (t_size : Int32) (t_next : Int32) (t_token : Int32) (t_when : Int64) (t_then : Int64) (t_tokens : Nat → Int32) (a1 : Int32) (o : Int32 × Int32) (ho : f_X3_expect t_size t_next t_token t_tokens a1 = some o)  : Met l yX3_expect wsX3_expect ({ frames := 1, cells := 0, slots := 0, locals := 20 } : Room) (pcA G [.ref h_t, .int a1] [(h_t, .inr (3, [.ref h_t_tokens, .ref h_t_places, .int t_size, .int t_next, .int t_token, .long t_when, .long t_then])), (h_t_tokens, .inl (G.2.1.2.1, 401, .inl t_tokens))] sz) (qcV Unit G (fun _ => True) (fun _ => [(h_t, .inr (3, [.ref h_t_tokens, .ref h_t_places, .int t_size, .int o.1, .int o.2, .long t_when, .long t_then])), (h_t_tokens, .inl (G.2.1.2.1, 401, .inl t_tokens))]) (va_A [(h_t, .inr (3, [.ref h_t_tokens, .ref h_t_places, .int t_size, .int t_next, .int t_token, .long t_when, .long t_then])), (h_t_tokens, .inl (G.2.1.2.1, 401, .inl t_tokens))] sz)) 0 0 (va_A [(h_t, .inr (3, [.ref h_t_tokens, .ref h_t_places, .int t_size, .int t_next, .int t_token, .long t_when, .long t_then])), (h_t_tokens, .inl (G.2.1.2.1, 401, .inl t_tokens))] sz) := by
  refine Met.ofW (cc := cX3_expect) (maxL := 2) (ret := none) (by decide) rfl ?_
  intro p e s m args below meth c s₁ B hml hv
  obtain ⟨rfl, hsz, hP, hg, hD0, hc⟩ := hv
  have hx := B.exec
  have hb := B.bytes
  have hr := B.returns
  have hts := atoms_spec (ws := wsX3_expect) B.pre
  have hown : s.vm.findClass RX3 = some m.cls := findClass_of_methodNamed B.named
  have hlocks := B.notSynchronized
  subst hsz
  have hD := hD0.self (sz := s.heap.size)
  generalize hAe : va_A [(h_t, .inr (3, [.ref h_t_tokens, .ref h_t_places, .int t_size, .int t_next, .int t_token, .long t_when, .long t_then])), (h_t_tokens, .inl (G.2.1.2.1, 401, .inl t_tokens))] s.heap.size = A at hD hc ⊢
  have hA : ∀ q : Nat, s.heap.size ≤ q → A q := fun q h => by rw [← hAe]; exact Or.inr h
  have hiX3 : ∀ w ∈ wsX30, w ∈ wsX3_expect := by decide +kernel
  have hl := lv_entry ([.ref h_t, .int a1]) (n := 2) (Nat.le_of_ble_eq_true rfl)
  rw [lg_entry_eq]
  generalize (lg_sl ([.ref h_t, .int a1]) ++ List.replicate (2 - (lg_sl ([.ref h_t, .int a1])).length) Slot.unset).toArray = ls at hl ⊢
  have hl : lv_has ls 2 [(0, .ref h_t), (1, .int a1)] := hl
  have hf := ho
  unfold f_X3_expect at hf
  refine en (fun H locs hP hD hS => ?_) hP hD
  refine lv_aload_n hx hb dX3_expect_0 rfl (lv_at hl 0 rfl) ?_
  refine va_get (D := G.1) (ci := 3) (v := .int t_token) (C := RX3) (T := TX3) (N := 7) hx hb hts hiX3 hown hg.1 hP 0 rfl rfl 4 (by decide) (hts (.fieldLink RX3 25 "AsARule$Reader" "token" "I") (by decide +kernel)) (fun _ h9 => h9) rfl dX3_expect_1 ?_
  refine lv_iload_n hx hb dX3_expect_4 rfl (lv_at hl 1 rfl) ?_
  refine lv_icmp_ne (tgt := 15) hx hb dX3_expect_5 (by decide) (fun c1 => ?_) (fun c1 => ?_)
  · have hf := it_f c1 hf
    refine lv_aload_n hx hb dX3_expect_15 rfl (lv_at hl 0 rfl) ?_
    obtain ⟨o2, ho2, hf⟩ := bd_e hf
    refine af_v (wr := [(h_t_tokens, .inl (G.2.1.2.1, 401, .inl t_tokens))]) (va_runV (As := []) (rest := []) ⟨hx, hb, hml, hown, hts⟩ (c_X3_refuse l G h_t h_t_tokens h_t_places H.size t_size t_next t_token t_when t_then o2 ho2) (cwV 0 hts gX3_expect_X3_refuse rfl rfl rfl (by decide +kernel) ⟨Nat.le_of_ble_eq_true rfl, Nat.le_of_ble_eq_true rfl⟩) (pcA_preV hg hc hP hD hS hA [0] rfl (by decide) (q0 := 0) (ci := 3) rfl rfl rfl) rfl rfl hl.1 rfl (lv_room (Nat.le_of_ble_eq_true rfl)) dX3_expect_16 ⟨Nat.zero_le _, Nat.zero_le _⟩) hP hD hS hA [0] [1] rfl rfl (by decide) (by decide) (fun _ H locs _ hP hD hS => ?_)
    have hP : va_P G.1 vwCl [(h_t, .inr (3, [.ref h_t_tokens, .ref h_t_places, .int t_size, .int t_next, .int o2, .long t_when, .long t_then])), (h_t_tokens, .inl (G.2.1.2.1, 401, .inl t_tokens))] H := hP.sub [1, 0] rfl
    have hD : va_D A [(h_t, .inr (3, [.ref h_t_tokens, .ref h_t_places, .int t_size, .int t_next, .int o2, .long t_when, .long t_then])), (h_t_tokens, .inl (G.2.1.2.1, 401, .inl t_tokens))] := hD.sub [1, 0] (by decide) rfl
    rw [← Option.some.inj hf]
    exact rt_v (u := ()) hx hb hr hlocks hP hD trivial hS dX3_expect_19
  · have hf := it_t c1 hf
    refine lv_aload_n hx hb dX3_expect_8 rfl (lv_at hl 0 rfl) ?_
    obtain ⟨o3, ho3, hf⟩ := bd_e hf
    refine af_v (wr := []) (va_runV (As := []) (rest := []) ⟨hx, hb, hml, hown, hts⟩ (c_X3_take l G h_t h_t_tokens h_t_places H.size t_size t_next t_token t_when t_then t_tokens o3 ho3) (cwV 0 hts gX3_expect_X3_take rfl rfl rfl (by decide +kernel) ⟨Nat.le_of_ble_eq_true rfl, Nat.le_of_ble_eq_true rfl⟩) (pcA_preV hg hc hP hD hS hA [0, 1] rfl (by decide) (q0 := 0) (ci := 3) rfl rfl rfl) rfl rfl hl.1 rfl (lv_room (Nat.le_of_ble_eq_true rfl)) dX3_expect_9 ⟨Nat.zero_le _, Nat.zero_le _⟩) hP hD hS hA [0, 1] [] rfl rfl (by decide) (by decide) (fun _ H locs _ hP hD hS => ?_)
    have hP : va_P G.1 vwCl [(h_t, .inr (3, [.ref h_t_tokens, .ref h_t_places, .int t_size, .int o3.1, .int o3.2, .long t_when, .long t_then])), (h_t_tokens, .inl (G.2.1.2.1, 401, .inl t_tokens))] H := hP
    have hD : va_D A [(h_t, .inr (3, [.ref h_t_tokens, .ref h_t_places, .int t_size, .int o3.1, .int o3.2, .long t_when, .long t_then])), (h_t_tokens, .inl (G.2.1.2.1, 401, .inl t_tokens))] := hD
    refine lv_goto (tgt := 19) hx hb dX3_expect_12 (by decide) ?_
    rw [← Option.some.inj hf]
    exact rt_v (u := ()) hx hb hr hlocks hP hD trivial hS dX3_expect_19
-- method X3_both
def lp_X3_both_9 (one : Int32 → Int32 → Int32 → (Nat → Int32) → Int32 → Option (Int64 × Int32 × Int32)) (t_size : Int32) (t_tokens : Nat → Int32) (a1 : Int32) : Nat → Int32 → Int32 → Int64 → Int32 → Option (Int64 × Int32 × Int32)
  | 0, _, _, _, _ => none
  | n + 1, t_next, t_token, v2, v4 => if (400 : Int32) ≤ v4 then some (v2, t_next, t_token) else if t_token = (38 : Int32) then bd (f_X3_take t_size t_next t_token t_tokens) (fun o3 => bd (one t_size o3.1 o3.2 t_tokens a1) (fun o4 => lt (v2 &&& o4.1) (fun x5 => lt (v4 + (1 : Int32)) (fun x6 => lp_X3_both_9 one t_size t_tokens a1 n o4.2.1 o4.2.2 x5 x6)))) else some (v2, t_next, t_token)
def f_X3_both (one : Int32 → Int32 → Int32 → (Nat → Int32) → Int32 → Option (Int64 × Int32 × Int32)) (t_size : Int32) (t_next : Int32) (t_token : Int32) (t_tokens : Nat → Int32) (a1 : Int32) : Option (Int64 × Int32 × Int32) :=
  bd (one t_size t_next t_token t_tokens a1) (fun o7 => lp_X3_both_9 one t_size t_tokens a1 fu o7.2.1 o7.2.2 o7.1 (0 : Int32))
set_option maxHeartbeats 4000000 in
set_option maxRecDepth 100000 in
theorem c_X3_both (l : Launch) (G : GG) (d : Nat) (one : Int32 → Int32 → Int32 → (Nat → Int32) → Int32 → Option (Int64 × Int32 × Int32)) (hone : ∀ (h_t h_t_tokens h_t_places : Nat) (sz : Nat) (t_size : Int32) (t_next : Int32) (t_token : Int32) (t_when : Int64) (t_then : Int64) (t_tokens : Nat → Int32) (a1 : Int32) (o : Int64 × Int32 × Int32), one t_size t_next t_token t_tokens a1 = some o → Met l yX3_one wsX3_one ({ frames := 3 * d + 2, cells := 0, slots := 0, locals := 72 * d + 41 } : Room) (pcA G [.ref h_t, .int a1] [(h_t, .inr (3, [.ref h_t_tokens, .ref h_t_places, .int t_size, .int t_next, .int t_token, .long t_when, .long t_then])), (h_t_tokens, .inl (G.2.1.2.1, 401, .inl t_tokens))] sz) (qcL Unit G o.1 (fun _ => True) (fun _ => [(h_t, .inr (3, [.ref h_t_tokens, .ref h_t_places, .int t_size, .int o.2.1, .int o.2.2, .long t_when, .long t_then])), (h_t_tokens, .inl (G.2.1.2.1, 401, .inl t_tokens))]) (va_A [(h_t, .inr (3, [.ref h_t_tokens, .ref h_t_places, .int t_size, .int t_next, .int t_token, .long t_when, .long t_then])), (h_t_tokens, .inl (G.2.1.2.1, 401, .inl t_tokens))] sz)) 0 0 (va_A [(h_t, .inr (3, [.ref h_t_tokens, .ref h_t_places, .int t_size, .int t_next, .int t_token, .long t_when, .long t_then])), (h_t_tokens, .inl (G.2.1.2.1, 401, .inl t_tokens))] sz)) (h_t h_t_tokens h_t_places : Nat) (sz : Nat) (t_size : Int32) (t_next : Int32) (t_token : Int32) (t_when : Int64) (t_then : Int64) (t_tokens : Nat → Int32) (a1 : Int32) (o : Int64 × Int32 × Int32) (ho : f_X3_both one t_size t_next t_token t_tokens a1 = some o)  : Met l yX3_both wsX3_both ({ frames := 3 * d + 3, cells := 0, slots := 0, locals := 72 * d + 65 } : Room) (pcA G [.ref h_t, .int a1] [(h_t, .inr (3, [.ref h_t_tokens, .ref h_t_places, .int t_size, .int t_next, .int t_token, .long t_when, .long t_then])), (h_t_tokens, .inl (G.2.1.2.1, 401, .inl t_tokens))] sz) (qcL Unit G o.1 (fun _ => True) (fun _ => [(h_t, .inr (3, [.ref h_t_tokens, .ref h_t_places, .int t_size, .int o.2.1, .int o.2.2, .long t_when, .long t_then])), (h_t_tokens, .inl (G.2.1.2.1, 401, .inl t_tokens))]) (va_A [(h_t, .inr (3, [.ref h_t_tokens, .ref h_t_places, .int t_size, .int t_next, .int t_token, .long t_when, .long t_then])), (h_t_tokens, .inl (G.2.1.2.1, 401, .inl t_tokens))] sz)) 0 0 (va_A [(h_t, .inr (3, [.ref h_t_tokens, .ref h_t_places, .int t_size, .int t_next, .int t_token, .long t_when, .long t_then])), (h_t_tokens, .inl (G.2.1.2.1, 401, .inl t_tokens))] sz) := by
  refine Met.ofW (cc := cX3_both) (maxL := 5) (ret := (some .long)) (by decide) rfl ?_
  intro p e s m args below meth c s₁ B hml hv
  obtain ⟨rfl, hsz, hP, hg, hD0, hc⟩ := hv
  have hx := B.exec
  have hb := B.bytes
  have hr := B.returns
  have hts := atoms_spec (ws := wsX3_both) B.pre
  have hown : s.vm.findClass RX3 = some m.cls := findClass_of_methodNamed B.named
  have hlocks := B.notSynchronized
  subst hsz
  have hD := hD0.self (sz := s.heap.size)
  generalize hAe : va_A [(h_t, .inr (3, [.ref h_t_tokens, .ref h_t_places, .int t_size, .int t_next, .int t_token, .long t_when, .long t_then])), (h_t_tokens, .inl (G.2.1.2.1, 401, .inl t_tokens))] s.heap.size = A at hD hc ⊢
  have hA : ∀ q : Nat, s.heap.size ≤ q → A q := fun q h => by rw [← hAe]; exact Or.inr h
  have hiX3 : ∀ w ∈ wsX30, w ∈ wsX3_both := by decide +kernel
  have hl := lv_entry ([.ref h_t, .int a1]) (n := 5) (Nat.le_of_ble_eq_true rfl)
  rw [lg_entry_eq]
  generalize (lg_sl ([.ref h_t, .int a1]) ++ List.replicate (5 - (lg_sl ([.ref h_t, .int a1])).length) Slot.unset).toArray = ls at hl ⊢
  have hl : lv_has ls 5 [(0, .ref h_t), (1, .int a1)] := hl
  have hf := ho
  have hw_9 : ∀  (n : Nat) (t_next : Int32) (t_token : Int32) (v2 : Int64) (v4 : Int32), lp_X3_both_9 one t_size t_tokens a1 n t_next t_token v2 v4 = some o → ∀ (H : Heap) (locs : List Loc), va_P G.1 vwCl [(h_t, .inr (3, [.ref h_t_tokens, .ref h_t_places, .int t_size, .int t_next, .int t_token, .long t_when, .long t_then])), (h_t_tokens, .inl (G.2.1.2.1, 401, .inl t_tokens))] H → va_D A [(h_t, .inr (3, [.ref h_t_tokens, .ref h_t_places, .int t_size, .int t_next, .int t_token, .long t_when, .long t_then])), (h_t_tokens, .inl (G.2.1.2.1, 401, .inl t_tokens))] → va_S A s.heap H locs → ∀ (ls : Array Slot), lv_has ls 5 [(0, .ref h_t), (1, .int a1), (2, .long v2), (4, .int v4)] → W p l e (headSpec wsX3_both ({ frames := 3 * d + 3, cells := 0, slots := 0, locals := 72 * d + 65 } : Room)).room s m ([.ref h_t, .int a1] : List Value).toArray below meth c H locs 0 0 (MQ below (qcL Unit G o.1 (fun _ => True) (fun _ => [(h_t, .inr (3, [.ref h_t_tokens, .ref h_t_places, .int t_size, .int o.2.1, .int o.2.2, .long t_when, .long t_then])), (h_t_tokens, .inl (G.2.1.2.1, 401, .inl t_tokens))]) A) ([.ref h_t, .int a1] : List Value).toArray s 0 0 A) (F0 m 9 ls []) := by
    intro n
    induction n with
    | zero =>
      intro t_next t_token v2 v4 hf
      exact absurd hf (by rw [lp_X3_both_9]; intro h; cases h)
    | succ n ih =>
      intro t_next t_token v2 v4 hf H locs hP hD hS ls hl
      rw [lp_X3_both_9] at hf
      refine lv_iload hx hb dX3_both_9 (lv_at hl 3 rfl) ?_
      refine lv_sipush (v := (400 : Int32)) hx hb dX3_both_11 (by decide) ?_
      refine lv_icmp_ge (tgt := 44) hx hb dX3_both_14 (by decide) (fun c1 => ?_) (fun c1 => ?_)
      · have hf := it_t c1 hf
        refine lv_lload_n hx hb dX3_both_44 rfl (lv_at hl 2 rfl) ?_
        rw [← Option.some.inj hf]
        exact rt_l (u := ()) hx hb hr hlocks hP hD trivial hS dX3_both_45
      · have hf := it_f c1 hf
        refine lv_aload_n hx hb dX3_both_17 rfl (lv_at hl 0 rfl) ?_
        refine va_get (D := G.1) (ci := 3) (v := .int t_token) (C := RX3) (T := TX3) (N := 7) hx hb hts hiX3 hown hg.1 hP 0 rfl rfl 4 (by decide) (hts (.fieldLink RX3 25 "AsARule$Reader" "token" "I") (by decide +kernel)) (fun _ h9 => h9) rfl dX3_both_18 ?_
        refine lv_bipush (v := (38 : Int32)) hx hb dX3_both_21 (by decide) ?_
        refine lv_icmp_ne (tgt := 44) hx hb dX3_both_23 (by decide) (fun c2 => ?_) (fun c2 => ?_)
        · have hf := it_f c2 hf
          refine lv_lload_n hx hb dX3_both_44 rfl (lv_at hl 2 rfl) ?_
          rw [← Option.some.inj hf]
          exact rt_l (u := ()) hx hb hr hlocks hP hD trivial hS dX3_both_45
        · have hf := it_t c2 hf
          refine lv_aload_n hx hb dX3_both_26 rfl (lv_at hl 0 rfl) ?_
          obtain ⟨o3, ho3, hf⟩ := bd_e hf
          refine af_v (wr := []) (va_runV (As := []) (rest := []) ⟨hx, hb, hml, hown, hts⟩ (c_X3_take l G h_t h_t_tokens h_t_places H.size t_size t_next t_token t_when t_then t_tokens o3 ho3) (cwV 0 hts gX3_both_X3_take rfl rfl rfl (by decide +kernel) ⟨by show 0 + 1 ≤ 3 * d + 3; omega, by show 8 + (1 + 11) + (0) ≤ 72 * d + 65; omega⟩) (pcA_preV hg hc hP hD hS hA [0, 1] rfl (by decide) (q0 := 0) (ci := 3) rfl rfl rfl) rfl rfl hl.1 rfl (lv_room (Nat.le_of_ble_eq_true rfl)) dX3_both_27 ⟨Nat.zero_le _, Nat.zero_le _⟩) hP hD hS hA [0, 1] [] rfl rfl (by decide) (by decide) (fun _ H locs _ hP hD hS => ?_)
          have hP : va_P G.1 vwCl [(h_t, .inr (3, [.ref h_t_tokens, .ref h_t_places, .int t_size, .int o3.1, .int o3.2, .long t_when, .long t_then])), (h_t_tokens, .inl (G.2.1.2.1, 401, .inl t_tokens))] H := hP
          have hD : va_D A [(h_t, .inr (3, [.ref h_t_tokens, .ref h_t_places, .int t_size, .int o3.1, .int o3.2, .long t_when, .long t_then])), (h_t_tokens, .inl (G.2.1.2.1, 401, .inl t_tokens))] := hD
          refine lv_lload_n hx hb dX3_both_30 rfl (lv_at hl 2 rfl) ?_
          refine lv_aload_n hx hb dX3_both_31 rfl (lv_at hl 0 rfl) ?_
          refine lv_iload_n hx hb dX3_both_32 rfl (lv_at hl 1 rfl) ?_
          obtain ⟨o4, ho4, hf⟩ := bd_e hf
          refine af_l (wr := []) (va_runV (As := [.int a1]) (rest := [.long v2]) ⟨hx, hb, hml, hown, hts⟩ (hone h_t h_t_tokens h_t_places H.size t_size o3.1 o3.2 t_when t_then t_tokens a1 o4 ho4) (cwV 1 hts gX3_both_X3_one rfl rfl rfl (by decide +kernel) ⟨by show 3 * d + 2 + 1 ≤ 3 * d + 3; omega, by show 8 + (5 + 11) + (72 * d + 41) ≤ 72 * d + 65; omega⟩) (pcA_preV hg hc hP hD hS hA [0, 1] rfl (by decide) (q0 := 0) (ci := 3) rfl rfl rfl) rfl rfl hl.1 rfl (lv_room (Nat.le_of_ble_eq_true rfl)) dX3_both_33 ⟨Nat.zero_le _, Nat.zero_le _⟩) hP hD hS hA [0, 1] [] rfl rfl (by decide) (by decide) (fun _ H locs _ hP hD hS => ?_)
          have hP : va_P G.1 vwCl [(h_t, .inr (3, [.ref h_t_tokens, .ref h_t_places, .int t_size, .int o4.2.1, .int o4.2.2, .long t_when, .long t_then])), (h_t_tokens, .inl (G.2.1.2.1, 401, .inl t_tokens))] H := hP
          have hD : va_D A [(h_t, .inr (3, [.ref h_t_tokens, .ref h_t_places, .int t_size, .int o4.2.1, .int o4.2.2, .long t_when, .long t_then])), (h_t_tokens, .inl (G.2.1.2.1, 401, .inl t_tokens))] := hD
          refine lv_land hx hb dX3_both_36 ?_
          refine lv_topl (fun x5 ex5 => ?_)
          have hf := lt_n hf x5 ex5
          refine lv_lstore_n (lv' := [(2, .long x5), (0, .ref h_t), (1, .int a1), (4, .int v4)]) hx hb dX3_both_37 rfl hl (by decide) rfl (fun ls hl => ?_)
          obtain ⟨x6, ex6⟩ : ∃ y : Int32, y = (v4 + (1 : Int32)) := ⟨_, rfl⟩
          have hf := lt_n hf x6 ex6
          refine lv_iinc (v := x6) (lv' := [(4, .int x6), (2, .long x5), (0, .ref h_t), (1, .int a1)]) hx hb dX3_both_38 hl (k := 3) rfl (by rw [ex6]; rfl) (by decide) rfl (fun ls hl => ?_)
          refine lv_goto (tgt := 9) hx hb dX3_both_41 (by decide) ?_
          exact ih o4.2.1 o4.2.2 x5 x6 hf _ _ hP hD hS _ (lv_sub hl [2, 3, 1, 0] rfl)
  unfold f_X3_both at hf
  refine en (fun H locs hP hD hS => ?_) hP hD
  refine lv_aload_n hx hb dX3_both_0 rfl (lv_at hl 0 rfl) ?_
  refine lv_iload_n hx hb dX3_both_1 rfl (lv_at hl 1 rfl) ?_
  obtain ⟨o7, ho7, hf⟩ := bd_e hf
  refine af_l (wr := []) (va_runV (As := [.int a1]) (rest := []) ⟨hx, hb, hml, hown, hts⟩ (hone h_t h_t_tokens h_t_places H.size t_size t_next t_token t_when t_then t_tokens a1 o7 ho7) (cwV 1 hts gX3_both_X3_one rfl rfl rfl (by decide +kernel) ⟨by show 3 * d + 2 + 1 ≤ 3 * d + 3; omega, by show 8 + (5 + 11) + (72 * d + 41) ≤ 72 * d + 65; omega⟩) (pcA_preV hg hc hP hD hS hA [0, 1] rfl (by decide) (q0 := 0) (ci := 3) rfl rfl rfl) rfl rfl hl.1 rfl (lv_room (Nat.le_of_ble_eq_true rfl)) dX3_both_2 ⟨Nat.zero_le _, Nat.zero_le _⟩) hP hD hS hA [0, 1] [] rfl rfl (by decide) (by decide) (fun _ H locs _ hP hD hS => ?_)
  have hP : va_P G.1 vwCl [(h_t, .inr (3, [.ref h_t_tokens, .ref h_t_places, .int t_size, .int o7.2.1, .int o7.2.2, .long t_when, .long t_then])), (h_t_tokens, .inl (G.2.1.2.1, 401, .inl t_tokens))] H := hP
  have hD : va_D A [(h_t, .inr (3, [.ref h_t_tokens, .ref h_t_places, .int t_size, .int o7.2.1, .int o7.2.2, .long t_when, .long t_then])), (h_t_tokens, .inl (G.2.1.2.1, 401, .inl t_tokens))] := hD
  refine lv_lstore_n (lv' := [(2, .long o7.1), (0, .ref h_t), (1, .int a1)]) hx hb dX3_both_5 rfl hl (by decide) rfl (fun ls hl => ?_)
  refine lv_iconst (v := (0 : Int32)) hx hb dX3_both_6 (by decide) ?_
  refine lv_istore (lv' := [(4, .int (0 : Int32)), (2, .long o7.1), (0, .ref h_t), (1, .int a1)]) hx hb dX3_both_7 hl (by decide) rfl (fun ls hl => ?_)
  exact hw_9 fu o7.2.1 o7.2.2 o7.1 (0 : Int32) hf _ _ hP hD hS _ (lv_sub hl [2, 3, 1, 0] rfl)
-- method X3_saying
def lp_X3_saying_9 (one : Int32 → Int32 → Int32 → (Nat → Int32) → Int32 → Option (Int64 × Int32 × Int32)) (t_size : Int32) (t_tokens : Nat → Int32) (a1 : Int32) : Nat → Int32 → Int32 → Int64 → Int32 → Option (Int64 × Int32 × Int32)
  | 0, _, _, _, _ => none
  | n + 1, t_next, t_token, v2, v4 => if (400 : Int32) ≤ v4 then some (v2, t_next, t_token) else if t_token = (124 : Int32) then bd (f_X3_take t_size t_next t_token t_tokens) (fun o3 => bd (f_X3_both one t_size o3.1 o3.2 t_tokens a1) (fun o4 => lt (v2 ||| o4.1) (fun x5 => lt (v4 + (1 : Int32)) (fun x6 => lp_X3_saying_9 one t_size t_tokens a1 n o4.2.1 o4.2.2 x5 x6)))) else some (v2, t_next, t_token)
def f_X3_saying (one : Int32 → Int32 → Int32 → (Nat → Int32) → Int32 → Option (Int64 × Int32 × Int32)) (t_size : Int32) (t_next : Int32) (t_token : Int32) (t_tokens : Nat → Int32) (a1 : Int32) : Option (Int64 × Int32 × Int32) :=
  bd (f_X3_both one t_size t_next t_token t_tokens a1) (fun o7 => lp_X3_saying_9 one t_size t_tokens a1 fu o7.2.1 o7.2.2 o7.1 (0 : Int32))
set_option maxHeartbeats 4000000 in
set_option maxRecDepth 100000 in
theorem c_X3_saying (l : Launch) (G : GG) (d : Nat) (one : Int32 → Int32 → Int32 → (Nat → Int32) → Int32 → Option (Int64 × Int32 × Int32)) (hone : ∀ (h_t h_t_tokens h_t_places : Nat) (sz : Nat) (t_size : Int32) (t_next : Int32) (t_token : Int32) (t_when : Int64) (t_then : Int64) (t_tokens : Nat → Int32) (a1 : Int32) (o : Int64 × Int32 × Int32), one t_size t_next t_token t_tokens a1 = some o → Met l yX3_one wsX3_one ({ frames := 3 * d + 2, cells := 0, slots := 0, locals := 72 * d + 41 } : Room) (pcA G [.ref h_t, .int a1] [(h_t, .inr (3, [.ref h_t_tokens, .ref h_t_places, .int t_size, .int t_next, .int t_token, .long t_when, .long t_then])), (h_t_tokens, .inl (G.2.1.2.1, 401, .inl t_tokens))] sz) (qcL Unit G o.1 (fun _ => True) (fun _ => [(h_t, .inr (3, [.ref h_t_tokens, .ref h_t_places, .int t_size, .int o.2.1, .int o.2.2, .long t_when, .long t_then])), (h_t_tokens, .inl (G.2.1.2.1, 401, .inl t_tokens))]) (va_A [(h_t, .inr (3, [.ref h_t_tokens, .ref h_t_places, .int t_size, .int t_next, .int t_token, .long t_when, .long t_then])), (h_t_tokens, .inl (G.2.1.2.1, 401, .inl t_tokens))] sz)) 0 0 (va_A [(h_t, .inr (3, [.ref h_t_tokens, .ref h_t_places, .int t_size, .int t_next, .int t_token, .long t_when, .long t_then])), (h_t_tokens, .inl (G.2.1.2.1, 401, .inl t_tokens))] sz)) (h_t h_t_tokens h_t_places : Nat) (sz : Nat) (t_size : Int32) (t_next : Int32) (t_token : Int32) (t_when : Int64) (t_then : Int64) (t_tokens : Nat → Int32) (a1 : Int32) (o : Int64 × Int32 × Int32) (ho : f_X3_saying one t_size t_next t_token t_tokens a1 = some o)  : Met l yX3_saying wsX3_saying ({ frames := 3 * d + 4, cells := 0, slots := 0, locals := 72 * d + 89 } : Room) (pcA G [.ref h_t, .int a1] [(h_t, .inr (3, [.ref h_t_tokens, .ref h_t_places, .int t_size, .int t_next, .int t_token, .long t_when, .long t_then])), (h_t_tokens, .inl (G.2.1.2.1, 401, .inl t_tokens))] sz) (qcL Unit G o.1 (fun _ => True) (fun _ => [(h_t, .inr (3, [.ref h_t_tokens, .ref h_t_places, .int t_size, .int o.2.1, .int o.2.2, .long t_when, .long t_then])), (h_t_tokens, .inl (G.2.1.2.1, 401, .inl t_tokens))]) (va_A [(h_t, .inr (3, [.ref h_t_tokens, .ref h_t_places, .int t_size, .int t_next, .int t_token, .long t_when, .long t_then])), (h_t_tokens, .inl (G.2.1.2.1, 401, .inl t_tokens))] sz)) 0 0 (va_A [(h_t, .inr (3, [.ref h_t_tokens, .ref h_t_places, .int t_size, .int t_next, .int t_token, .long t_when, .long t_then])), (h_t_tokens, .inl (G.2.1.2.1, 401, .inl t_tokens))] sz) := by
  refine Met.ofW (cc := cX3_saying) (maxL := 5) (ret := (some .long)) (by decide) rfl ?_
  intro p e s m args below meth c s₁ B hml hv
  obtain ⟨rfl, hsz, hP, hg, hD0, hc⟩ := hv
  have hx := B.exec
  have hb := B.bytes
  have hr := B.returns
  have hts := atoms_spec (ws := wsX3_saying) B.pre
  have hown : s.vm.findClass RX3 = some m.cls := findClass_of_methodNamed B.named
  have hlocks := B.notSynchronized
  subst hsz
  have hD := hD0.self (sz := s.heap.size)
  generalize hAe : va_A [(h_t, .inr (3, [.ref h_t_tokens, .ref h_t_places, .int t_size, .int t_next, .int t_token, .long t_when, .long t_then])), (h_t_tokens, .inl (G.2.1.2.1, 401, .inl t_tokens))] s.heap.size = A at hD hc ⊢
  have hA : ∀ q : Nat, s.heap.size ≤ q → A q := fun q h => by rw [← hAe]; exact Or.inr h
  have hiX3 : ∀ w ∈ wsX30, w ∈ wsX3_saying := by decide +kernel
  have hl := lv_entry ([.ref h_t, .int a1]) (n := 5) (Nat.le_of_ble_eq_true rfl)
  rw [lg_entry_eq]
  generalize (lg_sl ([.ref h_t, .int a1]) ++ List.replicate (5 - (lg_sl ([.ref h_t, .int a1])).length) Slot.unset).toArray = ls at hl ⊢
  have hl : lv_has ls 5 [(0, .ref h_t), (1, .int a1)] := hl
  have hf := ho
  have hw_9 : ∀  (n : Nat) (t_next : Int32) (t_token : Int32) (v2 : Int64) (v4 : Int32), lp_X3_saying_9 one t_size t_tokens a1 n t_next t_token v2 v4 = some o → ∀ (H : Heap) (locs : List Loc), va_P G.1 vwCl [(h_t, .inr (3, [.ref h_t_tokens, .ref h_t_places, .int t_size, .int t_next, .int t_token, .long t_when, .long t_then])), (h_t_tokens, .inl (G.2.1.2.1, 401, .inl t_tokens))] H → va_D A [(h_t, .inr (3, [.ref h_t_tokens, .ref h_t_places, .int t_size, .int t_next, .int t_token, .long t_when, .long t_then])), (h_t_tokens, .inl (G.2.1.2.1, 401, .inl t_tokens))] → va_S A s.heap H locs → ∀ (ls : Array Slot), lv_has ls 5 [(0, .ref h_t), (1, .int a1), (2, .long v2), (4, .int v4)] → W p l e (headSpec wsX3_saying ({ frames := 3 * d + 4, cells := 0, slots := 0, locals := 72 * d + 89 } : Room)).room s m ([.ref h_t, .int a1] : List Value).toArray below meth c H locs 0 0 (MQ below (qcL Unit G o.1 (fun _ => True) (fun _ => [(h_t, .inr (3, [.ref h_t_tokens, .ref h_t_places, .int t_size, .int o.2.1, .int o.2.2, .long t_when, .long t_then])), (h_t_tokens, .inl (G.2.1.2.1, 401, .inl t_tokens))]) A) ([.ref h_t, .int a1] : List Value).toArray s 0 0 A) (F0 m 9 ls []) := by
    intro n
    induction n with
    | zero =>
      intro t_next t_token v2 v4 hf
      exact absurd hf (by rw [lp_X3_saying_9]; intro h; cases h)
    | succ n ih =>
      intro t_next t_token v2 v4 hf H locs hP hD hS ls hl
      rw [lp_X3_saying_9] at hf
      refine lv_iload hx hb dX3_saying_9 (lv_at hl 3 rfl) ?_
      refine lv_sipush (v := (400 : Int32)) hx hb dX3_saying_11 (by decide) ?_
      refine lv_icmp_ge (tgt := 44) hx hb dX3_saying_14 (by decide) (fun c1 => ?_) (fun c1 => ?_)
      · have hf := it_t c1 hf
        refine lv_lload_n hx hb dX3_saying_44 rfl (lv_at hl 2 rfl) ?_
        rw [← Option.some.inj hf]
        exact rt_l (u := ()) hx hb hr hlocks hP hD trivial hS dX3_saying_45
      · have hf := it_f c1 hf
        refine lv_aload_n hx hb dX3_saying_17 rfl (lv_at hl 0 rfl) ?_
        refine va_get (D := G.1) (ci := 3) (v := .int t_token) (C := RX3) (T := TX3) (N := 7) hx hb hts hiX3 hown hg.1 hP 0 rfl rfl 4 (by decide) (hts (.fieldLink RX3 25 "AsARule$Reader" "token" "I") (by decide +kernel)) (fun _ h9 => h9) rfl dX3_saying_18 ?_
        refine lv_bipush (v := (124 : Int32)) hx hb dX3_saying_21 (by decide) ?_
        refine lv_icmp_ne (tgt := 44) hx hb dX3_saying_23 (by decide) (fun c2 => ?_) (fun c2 => ?_)
        · have hf := it_f c2 hf
          refine lv_lload_n hx hb dX3_saying_44 rfl (lv_at hl 2 rfl) ?_
          rw [← Option.some.inj hf]
          exact rt_l (u := ()) hx hb hr hlocks hP hD trivial hS dX3_saying_45
        · have hf := it_t c2 hf
          refine lv_aload_n hx hb dX3_saying_26 rfl (lv_at hl 0 rfl) ?_
          obtain ⟨o3, ho3, hf⟩ := bd_e hf
          refine af_v (wr := []) (va_runV (As := []) (rest := []) ⟨hx, hb, hml, hown, hts⟩ (c_X3_take l G h_t h_t_tokens h_t_places H.size t_size t_next t_token t_when t_then t_tokens o3 ho3) (cwV 0 hts gX3_saying_X3_take rfl rfl rfl (by decide +kernel) ⟨by show 0 + 1 ≤ 3 * d + 4; omega, by show 8 + (1 + 11) + (0) ≤ 72 * d + 89; omega⟩) (pcA_preV hg hc hP hD hS hA [0, 1] rfl (by decide) (q0 := 0) (ci := 3) rfl rfl rfl) rfl rfl hl.1 rfl (lv_room (Nat.le_of_ble_eq_true rfl)) dX3_saying_27 ⟨Nat.zero_le _, Nat.zero_le _⟩) hP hD hS hA [0, 1] [] rfl rfl (by decide) (by decide) (fun _ H locs _ hP hD hS => ?_)
          have hP : va_P G.1 vwCl [(h_t, .inr (3, [.ref h_t_tokens, .ref h_t_places, .int t_size, .int o3.1, .int o3.2, .long t_when, .long t_then])), (h_t_tokens, .inl (G.2.1.2.1, 401, .inl t_tokens))] H := hP
          have hD : va_D A [(h_t, .inr (3, [.ref h_t_tokens, .ref h_t_places, .int t_size, .int o3.1, .int o3.2, .long t_when, .long t_then])), (h_t_tokens, .inl (G.2.1.2.1, 401, .inl t_tokens))] := hD
          refine lv_lload_n hx hb dX3_saying_30 rfl (lv_at hl 2 rfl) ?_
          refine lv_aload_n hx hb dX3_saying_31 rfl (lv_at hl 0 rfl) ?_
          refine lv_iload_n hx hb dX3_saying_32 rfl (lv_at hl 1 rfl) ?_
          obtain ⟨o4, ho4, hf⟩ := bd_e hf
          refine af_l (wr := []) (va_runV (As := [.int a1]) (rest := [.long v2]) ⟨hx, hb, hml, hown, hts⟩ (c_X3_both l G d one hone h_t h_t_tokens h_t_places H.size t_size o3.1 o3.2 t_when t_then t_tokens a1 o4 ho4) (cwV 1 hts gX3_saying_X3_both rfl rfl rfl (by decide +kernel) ⟨by show 3 * d + 3 + 1 ≤ 3 * d + 4; omega, by show 8 + (5 + 11) + (72 * d + 65) ≤ 72 * d + 89; omega⟩) (pcA_preV hg hc hP hD hS hA [0, 1] rfl (by decide) (q0 := 0) (ci := 3) rfl rfl rfl) rfl rfl hl.1 rfl (lv_room (Nat.le_of_ble_eq_true rfl)) dX3_saying_33 ⟨Nat.zero_le _, Nat.zero_le _⟩) hP hD hS hA [0, 1] [] rfl rfl (by decide) (by decide) (fun _ H locs _ hP hD hS => ?_)
          have hP : va_P G.1 vwCl [(h_t, .inr (3, [.ref h_t_tokens, .ref h_t_places, .int t_size, .int o4.2.1, .int o4.2.2, .long t_when, .long t_then])), (h_t_tokens, .inl (G.2.1.2.1, 401, .inl t_tokens))] H := hP
          have hD : va_D A [(h_t, .inr (3, [.ref h_t_tokens, .ref h_t_places, .int t_size, .int o4.2.1, .int o4.2.2, .long t_when, .long t_then])), (h_t_tokens, .inl (G.2.1.2.1, 401, .inl t_tokens))] := hD
          refine lv_lor hx hb dX3_saying_36 ?_
          refine lv_topl (fun x5 ex5 => ?_)
          have hf := lt_n hf x5 ex5
          refine lv_lstore_n (lv' := [(2, .long x5), (0, .ref h_t), (1, .int a1), (4, .int v4)]) hx hb dX3_saying_37 rfl hl (by decide) rfl (fun ls hl => ?_)
          obtain ⟨x6, ex6⟩ : ∃ y : Int32, y = (v4 + (1 : Int32)) := ⟨_, rfl⟩
          have hf := lt_n hf x6 ex6
          refine lv_iinc (v := x6) (lv' := [(4, .int x6), (2, .long x5), (0, .ref h_t), (1, .int a1)]) hx hb dX3_saying_38 hl (k := 3) rfl (by rw [ex6]; rfl) (by decide) rfl (fun ls hl => ?_)
          refine lv_goto (tgt := 9) hx hb dX3_saying_41 (by decide) ?_
          exact ih o4.2.1 o4.2.2 x5 x6 hf _ _ hP hD hS _ (lv_sub hl [2, 3, 1, 0] rfl)
  unfold f_X3_saying at hf
  refine en (fun H locs hP hD hS => ?_) hP hD
  refine lv_aload_n hx hb dX3_saying_0 rfl (lv_at hl 0 rfl) ?_
  refine lv_iload_n hx hb dX3_saying_1 rfl (lv_at hl 1 rfl) ?_
  obtain ⟨o7, ho7, hf⟩ := bd_e hf
  refine af_l (wr := []) (va_runV (As := [.int a1]) (rest := []) ⟨hx, hb, hml, hown, hts⟩ (c_X3_both l G d one hone h_t h_t_tokens h_t_places H.size t_size t_next t_token t_when t_then t_tokens a1 o7 ho7) (cwV 1 hts gX3_saying_X3_both rfl rfl rfl (by decide +kernel) ⟨by show 3 * d + 3 + 1 ≤ 3 * d + 4; omega, by show 8 + (5 + 11) + (72 * d + 65) ≤ 72 * d + 89; omega⟩) (pcA_preV hg hc hP hD hS hA [0, 1] rfl (by decide) (q0 := 0) (ci := 3) rfl rfl rfl) rfl rfl hl.1 rfl (lv_room (Nat.le_of_ble_eq_true rfl)) dX3_saying_2 ⟨Nat.zero_le _, Nat.zero_le _⟩) hP hD hS hA [0, 1] [] rfl rfl (by decide) (by decide) (fun _ H locs _ hP hD hS => ?_)
  have hP : va_P G.1 vwCl [(h_t, .inr (3, [.ref h_t_tokens, .ref h_t_places, .int t_size, .int o7.2.1, .int o7.2.2, .long t_when, .long t_then])), (h_t_tokens, .inl (G.2.1.2.1, 401, .inl t_tokens))] H := hP
  have hD : va_D A [(h_t, .inr (3, [.ref h_t_tokens, .ref h_t_places, .int t_size, .int o7.2.1, .int o7.2.2, .long t_when, .long t_then])), (h_t_tokens, .inl (G.2.1.2.1, 401, .inl t_tokens))] := hD
  refine lv_lstore_n (lv' := [(2, .long o7.1), (0, .ref h_t), (1, .int a1)]) hx hb dX3_saying_5 rfl hl (by decide) rfl (fun ls hl => ?_)
  refine lv_iconst (v := (0 : Int32)) hx hb dX3_saying_6 (by decide) ?_
  refine lv_istore (lv' := [(4, .int (0 : Int32)), (2, .long o7.1), (0, .ref h_t), (1, .int a1)]) hx hb dX3_saying_7 hl (by decide) rfl (fun ls hl => ?_)
  exact hw_9 fu o7.2.1 o7.2.2 o7.1 (0 : Int32) hf _ _ hP hD hS _ (lv_sub hl [2, 3, 1, 0] rfl)
-- method X3_one
def jn_X3_one_102 (one : Int32 → Int32 → Int32 → (Nat → Int32) → Int32 → Option (Int64 × Int32 × Int32)) (t_size : Int32) (t_tokens : Nat → Int32) (a1 : Int32) (t_next : Int32) (t_token : Int32) : Option (Int64 × Int32 × Int32) :=
  if t_token = (40 : Int32) then if (8 : Int32) ≤ a1 then bd (f_X3_refuse t_token) (fun o4 => some ((0 : Int64), t_next, o4)) else bd (f_X3_take t_size t_next t_token t_tokens) (fun o5 => bd (f_X3_saying one t_size o5.1 o5.2 t_tokens (a1 + (1 : Int32))) (fun o6 => bd (f_X3_expect t_size o6.2.1 o6.2.2 t_tokens (41 : Int32)) (fun o7 => some (o6.1, o7.1, o7.2)))) else bd (f_X3_refuse t_token) (fun o2 => some ((0 : Int64), t_next, o2))
def jn_X3_one_48 (one : Int32 → Int32 → Int32 → (Nat → Int32) → Int32 → Option (Int64 × Int32 × Int32)) (t_size : Int32) (t_tokens : Nat → Int32) (a1 : Int32) (t_next : Int32) (t_token : Int32) : Option (Int64 × Int32 × Int32) :=
  if t_token = (49 : Int32) then bd (f_X3_take t_size t_next t_token t_tokens) (fun o10 => some ((-1 : Int64), o10.1, o10.2)) else bd (f_X3_take t_size t_next t_token t_tokens) (fun o9 => some ((0 : Int64), o9.1, o9.2))
def jn_X3_one_30 (one : Int32 → Int32 → Int32 → (Nat → Int32) → Int32 → Option (Int64 × Int32 × Int32)) (t_size : Int32) (t_tokens : Nat → Int32) (a1 : Int32) (t_next : Int32) (t_token : Int32) : Option (Int64 × Int32 × Int32) :=
  if t_token = (48 : Int32) then jn_X3_one_48 one t_size t_tokens a1 t_next t_token else if t_token = (49 : Int32) then jn_X3_one_48 one t_size t_tokens a1 t_next t_token else if t_token = (33 : Int32) then if (8 : Int32) ≤ a1 then jn_X3_one_102 one t_size t_tokens a1 t_next t_token else bd (f_X3_take t_size t_next t_token t_tokens) (fun o15 => bd (one t_size o15.1 o15.2 t_tokens (a1 + (1 : Int32))) (fun o16 => some ((o16.1 ^^^ (-1 : Int64)), o16.2.1, o16.2.2))) else jn_X3_one_102 one t_size t_tokens a1 t_next t_token
def f_X3_one (one : Int32 → Int32 → Int32 → (Nat → Int32) → Int32 → Option (Int64 × Int32 × Int32)) (t_size : Int32) (t_next : Int32) (t_token : Int32) (t_tokens : Nat → Int32) (a1 : Int32) : Option (Int64 × Int32 × Int32) :=
  lt (t_token - (97 : Int32)) (fun x17 => if x17 < (0 : Int32) then jn_X3_one_30 one t_size t_tokens a1 t_next t_token else if (6 : Int32) ≤ x17 then jn_X3_one_30 one t_size t_tokens a1 t_next t_token else bd (f_X3_take t_size t_next t_token t_tokens) (fun o20 => gd (ib x17 6) (some ((ltW x17.toNatClampNeg), o20.1, o20.2))))
set_option maxHeartbeats 4000000 in
set_option maxRecDepth 100000 in
theorem c_X3_one (l : Launch) (G : GG) (d : Nat) (one : Int32 → Int32 → Int32 → (Nat → Int32) → Int32 → Option (Int64 × Int32 × Int32)) (hone : ∀ (h_t h_t_tokens h_t_places : Nat) (sz : Nat) (t_size : Int32) (t_next : Int32) (t_token : Int32) (t_when : Int64) (t_then : Int64) (t_tokens : Nat → Int32) (a1 : Int32) (o : Int64 × Int32 × Int32), one t_size t_next t_token t_tokens a1 = some o → Met l yX3_one wsX3_one ({ frames := 3 * d + 2, cells := 0, slots := 0, locals := 72 * d + 41 } : Room) (pcA G [.ref h_t, .int a1] [(h_t, .inr (3, [.ref h_t_tokens, .ref h_t_places, .int t_size, .int t_next, .int t_token, .long t_when, .long t_then])), (h_t_tokens, .inl (G.2.1.2.1, 401, .inl t_tokens))] sz) (qcL Unit G o.1 (fun _ => True) (fun _ => [(h_t, .inr (3, [.ref h_t_tokens, .ref h_t_places, .int t_size, .int o.2.1, .int o.2.2, .long t_when, .long t_then])), (h_t_tokens, .inl (G.2.1.2.1, 401, .inl t_tokens))]) (va_A [(h_t, .inr (3, [.ref h_t_tokens, .ref h_t_places, .int t_size, .int t_next, .int t_token, .long t_when, .long t_then])), (h_t_tokens, .inl (G.2.1.2.1, 401, .inl t_tokens))] sz)) 0 0 (va_A [(h_t, .inr (3, [.ref h_t_tokens, .ref h_t_places, .int t_size, .int t_next, .int t_token, .long t_when, .long t_then])), (h_t_tokens, .inl (G.2.1.2.1, 401, .inl t_tokens))] sz)) (h_t h_t_tokens h_t_places : Nat) (sz : Nat) (t_size : Int32) (t_next : Int32) (t_token : Int32) (t_when : Int64) (t_then : Int64) (t_tokens : Nat → Int32) (a1 : Int32) (o : Int64 × Int32 × Int32) (ho : f_X3_one one t_size t_next t_token t_tokens a1 = some o)  : Met l yX3_one wsX3_one ({ frames := 3 * (d + 1) + 2, cells := 0, slots := 0, locals := 72 * (d + 1) + 41 } : Room) (pcA G [.ref h_t, .int a1] [(h_t, .inr (3, [.ref h_t_tokens, .ref h_t_places, .int t_size, .int t_next, .int t_token, .long t_when, .long t_then])), (h_t_tokens, .inl (G.2.1.2.1, 401, .inl t_tokens))] sz) (qcL Unit G o.1 (fun _ => True) (fun _ => [(h_t, .inr (3, [.ref h_t_tokens, .ref h_t_places, .int t_size, .int o.2.1, .int o.2.2, .long t_when, .long t_then])), (h_t_tokens, .inl (G.2.1.2.1, 401, .inl t_tokens))]) (va_A [(h_t, .inr (3, [.ref h_t_tokens, .ref h_t_places, .int t_size, .int t_next, .int t_token, .long t_when, .long t_then])), (h_t_tokens, .inl (G.2.1.2.1, 401, .inl t_tokens))] sz)) 0 0 (va_A [(h_t, .inr (3, [.ref h_t_tokens, .ref h_t_places, .int t_size, .int t_next, .int t_token, .long t_when, .long t_then])), (h_t_tokens, .inl (G.2.1.2.1, 401, .inl t_tokens))] sz) := by
  refine Met.ofW (cc := cX3_one) (maxL := 5) (ret := (some .long)) (by decide) rfl ?_
  intro p e s m args below meth c s₁ B hml hv
  obtain ⟨rfl, hsz, hP, hg, hD0, hc⟩ := hv
  have hx := B.exec
  have hb := B.bytes
  have hr := B.returns
  have hts := atoms_spec (ws := wsX3_one) B.pre
  have hown : s.vm.findClass RX3 = some m.cls := findClass_of_methodNamed B.named
  have hlocks := B.notSynchronized
  subst hsz
  have hD := hD0.self (sz := s.heap.size)
  generalize hAe : va_A [(h_t, .inr (3, [.ref h_t_tokens, .ref h_t_places, .int t_size, .int t_next, .int t_token, .long t_when, .long t_then])), (h_t_tokens, .inl (G.2.1.2.1, 401, .inl t_tokens))] s.heap.size = A at hD hc ⊢
  have hA : ∀ q : Nat, s.heap.size ≤ q → A q := fun q h => by rw [← hAe]; exact Or.inr h
  have hiX3 : ∀ w ∈ wsX30, w ∈ wsX3_one := by decide +kernel
  have hl := lv_entry ([.ref h_t, .int a1]) (n := 5) (Nat.le_of_ble_eq_true rfl)
  rw [lg_entry_eq]
  generalize (lg_sl ([.ref h_t, .int a1]) ++ List.replicate (5 - (lg_sl ([.ref h_t, .int a1])).length) Slot.unset).toArray = ls at hl ⊢
  have hl : lv_has ls 5 [(0, .ref h_t), (1, .int a1)] := hl
  have hf := ho
  have hw_102 : ∀ (t_next : Int32) (t_token : Int32), jn_X3_one_102 one t_size t_tokens a1 t_next t_token = some o → ∀ (H : Heap) (locs : List Loc), va_P G.1 vwCl [(h_t, .inr (3, [.ref h_t_tokens, .ref h_t_places, .int t_size, .int t_next, .int t_token, .long t_when, .long t_then])), (h_t_tokens, .inl (G.2.1.2.1, 401, .inl t_tokens))] H → va_D A [(h_t, .inr (3, [.ref h_t_tokens, .ref h_t_places, .int t_size, .int t_next, .int t_token, .long t_when, .long t_then])), (h_t_tokens, .inl (G.2.1.2.1, 401, .inl t_tokens))] → va_S A s.heap H locs → ∀ (ls : Array Slot), lv_has ls 5 [(0, .ref h_t), (1, .int a1)] → W p l e (headSpec wsX3_one ({ frames := 3 * (d + 1) + 2, cells := 0, slots := 0, locals := 72 * (d + 1) + 41 } : Room)).room s m ([.ref h_t, .int a1] : List Value).toArray below meth c H locs 0 0 (MQ below (qcL Unit G o.1 (fun _ => True) (fun _ => [(h_t, .inr (3, [.ref h_t_tokens, .ref h_t_places, .int t_size, .int o.2.1, .int o.2.2, .long t_when, .long t_then])), (h_t_tokens, .inl (G.2.1.2.1, 401, .inl t_tokens))]) A) ([.ref h_t, .int a1] : List Value).toArray s 0 0 A) (F0 m 102 ls []) := by
    intro t_next t_token hf H locs hP hD hS ls hl
    unfold jn_X3_one_102 at hf
    refine lv_aload_n hx hb dX3_one_102 rfl (lv_at hl 0 rfl) ?_
    refine va_get (D := G.1) (ci := 3) (v := .int t_token) (C := RX3) (T := TX3) (N := 7) hx hb hts hiX3 hown hg.1 hP 0 rfl rfl 4 (by decide) (hts (.fieldLink RX3 25 "AsARule$Reader" "token" "I") (by decide +kernel)) (fun _ h9 => h9) rfl dX3_one_103 ?_
    refine lv_bipush (v := (40 : Int32)) hx hb dX3_one_106 (by decide) ?_
    refine lv_icmp_ne (tgt := 137) hx hb dX3_one_108 (by decide) (fun c1 => ?_) (fun c1 => ?_)
    · have hf := it_f c1 hf
      refine lv_aload_n hx hb dX3_one_137 rfl (lv_at hl 0 rfl) ?_
      obtain ⟨o2, ho2, hf⟩ := bd_e hf
      refine af_v (wr := [(h_t_tokens, .inl (G.2.1.2.1, 401, .inl t_tokens))]) (va_runV (As := []) (rest := []) ⟨hx, hb, hml, hown, hts⟩ (c_X3_refuse l G h_t h_t_tokens h_t_places H.size t_size t_next t_token t_when t_then o2 ho2) (cwV 0 hts gX3_one_X3_refuse rfl rfl rfl (by decide +kernel) ⟨by show 0 + 1 ≤ 3 * (d + 1) + 2; omega, by show 8 + (1 + 11) + (0) ≤ 72 * (d + 1) + 41; omega⟩) (pcA_preV hg hc hP hD hS hA [0] rfl (by decide) (q0 := 0) (ci := 3) rfl rfl rfl) rfl rfl hl.1 rfl (lv_room (Nat.le_of_ble_eq_true rfl)) dX3_one_138 ⟨Nat.zero_le _, Nat.zero_le _⟩) hP hD hS hA [0] [1] rfl rfl (by decide) (by decide) (fun _ H locs _ hP hD hS => ?_)
      have hP : va_P G.1 vwCl [(h_t, .inr (3, [.ref h_t_tokens, .ref h_t_places, .int t_size, .int t_next, .int o2, .long t_when, .long t_then])), (h_t_tokens, .inl (G.2.1.2.1, 401, .inl t_tokens))] H := hP.sub [1, 0] rfl
      have hD : va_D A [(h_t, .inr (3, [.ref h_t_tokens, .ref h_t_places, .int t_size, .int t_next, .int o2, .long t_when, .long t_then])), (h_t_tokens, .inl (G.2.1.2.1, 401, .inl t_tokens))] := hD.sub [1, 0] (by decide) rfl
      refine lv_lconst (v := (0 : Int64)) hx hb dX3_one_141 (by decide) ?_
      rw [← Option.some.inj hf]
      exact rt_l (u := ()) hx hb hr hlocks hP hD trivial hS dX3_one_142
    · have hf := it_t c1 hf
      refine lv_iload_n hx hb dX3_one_111 rfl (lv_at hl 1 rfl) ?_
      refine lv_bipush (v := (8 : Int32)) hx hb dX3_one_112 (by decide) ?_
      refine lv_icmp_ge (tgt := 137) hx hb dX3_one_114 (by decide) (fun c3 => ?_) (fun c3 => ?_)
      · have hf := it_t c3 hf
        refine lv_aload_n hx hb dX3_one_137 rfl (lv_at hl 0 rfl) ?_
        obtain ⟨o4, ho4, hf⟩ := bd_e hf
        refine af_v (wr := [(h_t_tokens, .inl (G.2.1.2.1, 401, .inl t_tokens))]) (va_runV (As := []) (rest := []) ⟨hx, hb, hml, hown, hts⟩ (c_X3_refuse l G h_t h_t_tokens h_t_places H.size t_size t_next t_token t_when t_then o4 ho4) (cwV 0 hts gX3_one_X3_refuse rfl rfl rfl (by decide +kernel) ⟨by show 0 + 1 ≤ 3 * (d + 1) + 2; omega, by show 8 + (1 + 11) + (0) ≤ 72 * (d + 1) + 41; omega⟩) (pcA_preV hg hc hP hD hS hA [0] rfl (by decide) (q0 := 0) (ci := 3) rfl rfl rfl) rfl rfl hl.1 rfl (lv_room (Nat.le_of_ble_eq_true rfl)) dX3_one_138 ⟨Nat.zero_le _, Nat.zero_le _⟩) hP hD hS hA [0] [1] rfl rfl (by decide) (by decide) (fun _ H locs _ hP hD hS => ?_)
        have hP : va_P G.1 vwCl [(h_t, .inr (3, [.ref h_t_tokens, .ref h_t_places, .int t_size, .int t_next, .int o4, .long t_when, .long t_then])), (h_t_tokens, .inl (G.2.1.2.1, 401, .inl t_tokens))] H := hP.sub [1, 0] rfl
        have hD : va_D A [(h_t, .inr (3, [.ref h_t_tokens, .ref h_t_places, .int t_size, .int t_next, .int o4, .long t_when, .long t_then])), (h_t_tokens, .inl (G.2.1.2.1, 401, .inl t_tokens))] := hD.sub [1, 0] (by decide) rfl
        refine lv_lconst (v := (0 : Int64)) hx hb dX3_one_141 (by decide) ?_
        rw [← Option.some.inj hf]
        exact rt_l (u := ()) hx hb hr hlocks hP hD trivial hS dX3_one_142
      · have hf := it_f c3 hf
        refine lv_aload_n hx hb dX3_one_117 rfl (lv_at hl 0 rfl) ?_
        obtain ⟨o5, ho5, hf⟩ := bd_e hf
        refine af_v (wr := []) (va_runV (As := []) (rest := []) ⟨hx, hb, hml, hown, hts⟩ (c_X3_take l G h_t h_t_tokens h_t_places H.size t_size t_next t_token t_when t_then t_tokens o5 ho5) (cwV 0 hts gX3_one_X3_take rfl rfl rfl (by decide +kernel) ⟨by show 0 + 1 ≤ 3 * (d + 1) + 2; omega, by show 8 + (1 + 11) + (0) ≤ 72 * (d + 1) + 41; omega⟩) (pcA_preV hg hc hP hD hS hA [0, 1] rfl (by decide) (q0 := 0) (ci := 3) rfl rfl rfl) rfl rfl hl.1 rfl (lv_room (Nat.le_of_ble_eq_true rfl)) dX3_one_118 ⟨Nat.zero_le _, Nat.zero_le _⟩) hP hD hS hA [0, 1] [] rfl rfl (by decide) (by decide) (fun _ H locs _ hP hD hS => ?_)
        have hP : va_P G.1 vwCl [(h_t, .inr (3, [.ref h_t_tokens, .ref h_t_places, .int t_size, .int o5.1, .int o5.2, .long t_when, .long t_then])), (h_t_tokens, .inl (G.2.1.2.1, 401, .inl t_tokens))] H := hP
        have hD : va_D A [(h_t, .inr (3, [.ref h_t_tokens, .ref h_t_places, .int t_size, .int o5.1, .int o5.2, .long t_when, .long t_then])), (h_t_tokens, .inl (G.2.1.2.1, 401, .inl t_tokens))] := hD
        refine lv_aload_n hx hb dX3_one_121 rfl (lv_at hl 0 rfl) ?_
        refine lv_iload_n hx hb dX3_one_122 rfl (lv_at hl 1 rfl) ?_
        refine lv_iconst (v := (1 : Int32)) hx hb dX3_one_123 (by decide) ?_
        refine lv_iadd hx hb dX3_one_124 ?_
        obtain ⟨o6, ho6, hf⟩ := bd_e hf
        refine af_l (wr := []) (va_runV (As := [.int (a1 + (1 : Int32))]) (rest := []) ⟨hx, hb, hml, hown, hts⟩ (c_X3_saying l G d one hone h_t h_t_tokens h_t_places H.size t_size o5.1 o5.2 t_when t_then t_tokens (a1 + (1 : Int32)) o6 ho6) (cwV 1 hts gX3_one_X3_saying rfl rfl rfl (by decide +kernel) ⟨by show 3 * d + 4 + 1 ≤ 3 * (d + 1) + 2; omega, by show 8 + (5 + 11) + (72 * d + 89) ≤ 72 * (d + 1) + 41; omega⟩) (pcA_preV hg hc hP hD hS hA [0, 1] rfl (by decide) (q0 := 0) (ci := 3) rfl rfl rfl) rfl rfl hl.1 rfl (lv_room (Nat.le_of_ble_eq_true rfl)) dX3_one_125 ⟨Nat.zero_le _, Nat.zero_le _⟩) hP hD hS hA [0, 1] [] rfl rfl (by decide) (by decide) (fun _ H locs _ hP hD hS => ?_)
        have hP : va_P G.1 vwCl [(h_t, .inr (3, [.ref h_t_tokens, .ref h_t_places, .int t_size, .int o6.2.1, .int o6.2.2, .long t_when, .long t_then])), (h_t_tokens, .inl (G.2.1.2.1, 401, .inl t_tokens))] H := hP
        have hD : va_D A [(h_t, .inr (3, [.ref h_t_tokens, .ref h_t_places, .int t_size, .int o6.2.1, .int o6.2.2, .long t_when, .long t_then])), (h_t_tokens, .inl (G.2.1.2.1, 401, .inl t_tokens))] := hD
        refine lv_lstore_n (lv' := [(3, .long o6.1), (0, .ref h_t), (1, .int a1)]) hx hb dX3_one_128 rfl hl (by decide) rfl (fun ls hl => ?_)
        refine lv_aload_n hx hb dX3_one_129 rfl (lv_at hl 1 rfl) ?_
        refine lv_bipush (v := (41 : Int32)) hx hb dX3_one_130 (by decide) ?_
        obtain ⟨o7, ho7, hf⟩ := bd_e hf
        refine af_v (wr := []) (va_runV (As := [.int (41 : Int32)]) (rest := []) ⟨hx, hb, hml, hown, hts⟩ (c_X3_expect l G h_t h_t_tokens h_t_places H.size t_size o6.2.1 o6.2.2 t_when t_then t_tokens (41 : Int32) o7 ho7) (cwV 1 hts gX3_one_X3_expect rfl rfl rfl (by decide +kernel) ⟨by show 1 + 1 ≤ 3 * (d + 1) + 2; omega, by show 8 + (2 + 11) + (20) ≤ 72 * (d + 1) + 41; omega⟩) (pcA_preV hg hc hP hD hS hA [0, 1] rfl (by decide) (q0 := 0) (ci := 3) rfl rfl rfl) rfl rfl hl.1 rfl (lv_room (Nat.le_of_ble_eq_true rfl)) dX3_one_132 ⟨Nat.zero_le _, Nat.zero_le _⟩) hP hD hS hA [0, 1] [] rfl rfl (by decide) (by decide) (fun _ H locs _ hP hD hS => ?_)
        have hP : va_P G.1 vwCl [(h_t, .inr (3, [.ref h_t_tokens, .ref h_t_places, .int t_size, .int o7.1, .int o7.2, .long t_when, .long t_then])), (h_t_tokens, .inl (G.2.1.2.1, 401, .inl t_tokens))] H := hP
        have hD : va_D A [(h_t, .inr (3, [.ref h_t_tokens, .ref h_t_places, .int t_size, .int o7.1, .int o7.2, .long t_when, .long t_then])), (h_t_tokens, .inl (G.2.1.2.1, 401, .inl t_tokens))] := hD
        refine lv_lload_n hx hb dX3_one_135 rfl (lv_at hl 0 rfl) ?_
        rw [← Option.some.inj hf]
        exact rt_l (u := ()) hx hb hr hlocks hP hD trivial hS dX3_one_136
  have hw_48 : ∀ (t_next : Int32) (t_token : Int32), jn_X3_one_48 one t_size t_tokens a1 t_next t_token = some o → ∀ (H : Heap) (locs : List Loc), va_P G.1 vwCl [(h_t, .inr (3, [.ref h_t_tokens, .ref h_t_places, .int t_size, .int t_next, .int t_token, .long t_when, .long t_then])), (h_t_tokens, .inl (G.2.1.2.1, 401, .inl t_tokens))] H → va_D A [(h_t, .inr (3, [.ref h_t_tokens, .ref h_t_places, .int t_size, .int t_next, .int t_token, .long t_when, .long t_then])), (h_t_tokens, .inl (G.2.1.2.1, 401, .inl t_tokens))] → va_S A s.heap H locs → ∀ (ls : Array Slot), lv_has ls 5 [(0, .ref h_t)] → W p l e (headSpec wsX3_one ({ frames := 3 * (d + 1) + 2, cells := 0, slots := 0, locals := 72 * (d + 1) + 41 } : Room)).room s m ([.ref h_t, .int a1] : List Value).toArray below meth c H locs 0 0 (MQ below (qcL Unit G o.1 (fun _ => True) (fun _ => [(h_t, .inr (3, [.ref h_t_tokens, .ref h_t_places, .int t_size, .int o.2.1, .int o.2.2, .long t_when, .long t_then])), (h_t_tokens, .inl (G.2.1.2.1, 401, .inl t_tokens))]) A) ([.ref h_t, .int a1] : List Value).toArray s 0 0 A) (F0 m 48 ls []) := by
    intro t_next t_token hf H locs hP hD hS ls hl
    unfold jn_X3_one_48 at hf
    refine lv_aload_n hx hb dX3_one_48 rfl (lv_at hl 0 rfl) ?_
    refine va_get (D := G.1) (ci := 3) (v := .int t_token) (C := RX3) (T := TX3) (N := 7) hx hb hts hiX3 hown hg.1 hP 0 rfl rfl 4 (by decide) (hts (.fieldLink RX3 25 "AsARule$Reader" "token" "I") (by decide +kernel)) (fun _ h9 => h9) rfl dX3_one_49 ?_
    refine lv_bipush (v := (49 : Int32)) hx hb dX3_one_52 (by decide) ?_
    refine lv_icmp_ne (tgt := 63) hx hb dX3_one_54 (by decide) (fun c8 => ?_) (fun c8 => ?_)
    · have hf := it_f c8 hf
      refine lv_lconst (v := (0 : Int64)) hx hb dX3_one_63 (by decide) ?_
      refine lv_lstore_n (lv' := [(3, .long (0 : Int64)), (0, .ref h_t)]) hx hb dX3_one_64 rfl hl (by decide) rfl (fun ls hl => ?_)
      refine lv_aload_n hx hb dX3_one_65 rfl (lv_at hl 1 rfl) ?_
      obtain ⟨o9, ho9, hf⟩ := bd_e hf
      refine af_v (wr := []) (va_runV (As := []) (rest := []) ⟨hx, hb, hml, hown, hts⟩ (c_X3_take l G h_t h_t_tokens h_t_places H.size t_size t_next t_token t_when t_then t_tokens o9 ho9) (cwV 0 hts gX3_one_X3_take rfl rfl rfl (by decide +kernel) ⟨by show 0 + 1 ≤ 3 * (d + 1) + 2; omega, by show 8 + (1 + 11) + (0) ≤ 72 * (d + 1) + 41; omega⟩) (pcA_preV hg hc hP hD hS hA [0, 1] rfl (by decide) (q0 := 0) (ci := 3) rfl rfl rfl) rfl rfl hl.1 rfl (lv_room (Nat.le_of_ble_eq_true rfl)) dX3_one_66 ⟨Nat.zero_le _, Nat.zero_le _⟩) hP hD hS hA [0, 1] [] rfl rfl (by decide) (by decide) (fun _ H locs _ hP hD hS => ?_)
      have hP : va_P G.1 vwCl [(h_t, .inr (3, [.ref h_t_tokens, .ref h_t_places, .int t_size, .int o9.1, .int o9.2, .long t_when, .long t_then])), (h_t_tokens, .inl (G.2.1.2.1, 401, .inl t_tokens))] H := hP
      have hD : va_D A [(h_t, .inr (3, [.ref h_t_tokens, .ref h_t_places, .int t_size, .int o9.1, .int o9.2, .long t_when, .long t_then])), (h_t_tokens, .inl (G.2.1.2.1, 401, .inl t_tokens))] := hD
      refine lv_lload_n hx hb dX3_one_69 rfl (lv_at hl 0 rfl) ?_
      rw [← Option.some.inj hf]
      exact rt_l (u := ()) hx hb hr hlocks hP hD trivial hS dX3_one_70
    · have hf := it_t c8 hf
      refine lv_ldc2 (v := (-1 : Int64)) hx hb hown (hts (.constantLong RX3 28 (-1 : Int64)) (by decide +kernel)) dX3_one_57 ?_
      refine lv_goto (tgt := 64) hx hb dX3_one_60 (by decide) ?_
      refine lv_lstore_n (lv' := [(3, .long (-1 : Int64)), (0, .ref h_t)]) hx hb dX3_one_64 rfl hl (by decide) rfl (fun ls hl => ?_)
      refine lv_aload_n hx hb dX3_one_65 rfl (lv_at hl 1 rfl) ?_
      obtain ⟨o10, ho10, hf⟩ := bd_e hf
      refine af_v (wr := []) (va_runV (As := []) (rest := []) ⟨hx, hb, hml, hown, hts⟩ (c_X3_take l G h_t h_t_tokens h_t_places H.size t_size t_next t_token t_when t_then t_tokens o10 ho10) (cwV 0 hts gX3_one_X3_take rfl rfl rfl (by decide +kernel) ⟨by show 0 + 1 ≤ 3 * (d + 1) + 2; omega, by show 8 + (1 + 11) + (0) ≤ 72 * (d + 1) + 41; omega⟩) (pcA_preV hg hc hP hD hS hA [0, 1] rfl (by decide) (q0 := 0) (ci := 3) rfl rfl rfl) rfl rfl hl.1 rfl (lv_room (Nat.le_of_ble_eq_true rfl)) dX3_one_66 ⟨Nat.zero_le _, Nat.zero_le _⟩) hP hD hS hA [0, 1] [] rfl rfl (by decide) (by decide) (fun _ H locs _ hP hD hS => ?_)
      have hP : va_P G.1 vwCl [(h_t, .inr (3, [.ref h_t_tokens, .ref h_t_places, .int t_size, .int o10.1, .int o10.2, .long t_when, .long t_then])), (h_t_tokens, .inl (G.2.1.2.1, 401, .inl t_tokens))] H := hP
      have hD : va_D A [(h_t, .inr (3, [.ref h_t_tokens, .ref h_t_places, .int t_size, .int o10.1, .int o10.2, .long t_when, .long t_then])), (h_t_tokens, .inl (G.2.1.2.1, 401, .inl t_tokens))] := hD
      refine lv_lload_n hx hb dX3_one_69 rfl (lv_at hl 0 rfl) ?_
      rw [← Option.some.inj hf]
      exact rt_l (u := ()) hx hb hr hlocks hP hD trivial hS dX3_one_70
  have hw_30 : ∀ (t_next : Int32) (t_token : Int32), jn_X3_one_30 one t_size t_tokens a1 t_next t_token = some o → ∀ (H : Heap) (locs : List Loc), va_P G.1 vwCl [(h_t, .inr (3, [.ref h_t_tokens, .ref h_t_places, .int t_size, .int t_next, .int t_token, .long t_when, .long t_then])), (h_t_tokens, .inl (G.2.1.2.1, 401, .inl t_tokens))] H → va_D A [(h_t, .inr (3, [.ref h_t_tokens, .ref h_t_places, .int t_size, .int t_next, .int t_token, .long t_when, .long t_then])), (h_t_tokens, .inl (G.2.1.2.1, 401, .inl t_tokens))] → va_S A s.heap H locs → ∀ (ls : Array Slot), lv_has ls 5 [(0, .ref h_t), (1, .int a1)] → W p l e (headSpec wsX3_one ({ frames := 3 * (d + 1) + 2, cells := 0, slots := 0, locals := 72 * (d + 1) + 41 } : Room)).room s m ([.ref h_t, .int a1] : List Value).toArray below meth c H locs 0 0 (MQ below (qcL Unit G o.1 (fun _ => True) (fun _ => [(h_t, .inr (3, [.ref h_t_tokens, .ref h_t_places, .int t_size, .int o.2.1, .int o.2.2, .long t_when, .long t_then])), (h_t_tokens, .inl (G.2.1.2.1, 401, .inl t_tokens))]) A) ([.ref h_t, .int a1] : List Value).toArray s 0 0 A) (F0 m 30 ls []) := by
    intro t_next t_token hf H locs hP hD hS ls hl
    unfold jn_X3_one_30 at hf
    refine lv_aload_n hx hb dX3_one_30 rfl (lv_at hl 0 rfl) ?_
    refine va_get (D := G.1) (ci := 3) (v := .int t_token) (C := RX3) (T := TX3) (N := 7) hx hb hts hiX3 hown hg.1 hP 0 rfl rfl 4 (by decide) (hts (.fieldLink RX3 25 "AsARule$Reader" "token" "I") (by decide +kernel)) (fun _ h9 => h9) rfl dX3_one_31 ?_
    refine lv_bipush (v := (48 : Int32)) hx hb dX3_one_34 (by decide) ?_
    refine lv_icmp_eq (tgt := 48) hx hb dX3_one_36 (by decide) (fun c11 => ?_) (fun c11 => ?_)
    · have hf := it_t c11 hf
      exact hw_48 t_next t_token hf _ _ hP hD hS _ (lv_sub hl [0] rfl)
    · have hf := it_f c11 hf
      refine lv_aload_n hx hb dX3_one_39 rfl (lv_at hl 0 rfl) ?_
      refine va_get (D := G.1) (ci := 3) (v := .int t_token) (C := RX3) (T := TX3) (N := 7) hx hb hts hiX3 hown hg.1 hP 0 rfl rfl 4 (by decide) (hts (.fieldLink RX3 25 "AsARule$Reader" "token" "I") (by decide +kernel)) (fun _ h9 => h9) rfl dX3_one_40 ?_
      refine lv_bipush (v := (49 : Int32)) hx hb dX3_one_43 (by decide) ?_
      refine lv_icmp_ne (tgt := 71) hx hb dX3_one_45 (by decide) (fun c12 => ?_) (fun c12 => ?_)
      · have hf := it_f c12 hf
        refine lv_aload_n hx hb dX3_one_71 rfl (lv_at hl 0 rfl) ?_
        refine va_get (D := G.1) (ci := 3) (v := .int t_token) (C := RX3) (T := TX3) (N := 7) hx hb hts hiX3 hown hg.1 hP 0 rfl rfl 4 (by decide) (hts (.fieldLink RX3 25 "AsARule$Reader" "token" "I") (by decide +kernel)) (fun _ h9 => h9) rfl dX3_one_72 ?_
        refine lv_bipush (v := (33 : Int32)) hx hb dX3_one_75 (by decide) ?_
        refine lv_icmp_ne (tgt := 102) hx hb dX3_one_77 (by decide) (fun c13 => ?_) (fun c13 => ?_)
        · have hf := it_f c13 hf
          exact hw_102 t_next t_token hf _ _ hP hD hS _ hl
        · have hf := it_t c13 hf
          refine lv_iload_n hx hb dX3_one_80 rfl (lv_at hl 1 rfl) ?_
          refine lv_bipush (v := (8 : Int32)) hx hb dX3_one_81 (by decide) ?_
          refine lv_icmp_ge (tgt := 102) hx hb dX3_one_83 (by decide) (fun c14 => ?_) (fun c14 => ?_)
          · have hf := it_t c14 hf
            exact hw_102 t_next t_token hf _ _ hP hD hS _ hl
          · have hf := it_f c14 hf
            refine lv_aload_n hx hb dX3_one_86 rfl (lv_at hl 0 rfl) ?_
            obtain ⟨o15, ho15, hf⟩ := bd_e hf
            refine af_v (wr := []) (va_runV (As := []) (rest := []) ⟨hx, hb, hml, hown, hts⟩ (c_X3_take l G h_t h_t_tokens h_t_places H.size t_size t_next t_token t_when t_then t_tokens o15 ho15) (cwV 0 hts gX3_one_X3_take rfl rfl rfl (by decide +kernel) ⟨by show 0 + 1 ≤ 3 * (d + 1) + 2; omega, by show 8 + (1 + 11) + (0) ≤ 72 * (d + 1) + 41; omega⟩) (pcA_preV hg hc hP hD hS hA [0, 1] rfl (by decide) (q0 := 0) (ci := 3) rfl rfl rfl) rfl rfl hl.1 rfl (lv_room (Nat.le_of_ble_eq_true rfl)) dX3_one_87 ⟨Nat.zero_le _, Nat.zero_le _⟩) hP hD hS hA [0, 1] [] rfl rfl (by decide) (by decide) (fun _ H locs _ hP hD hS => ?_)
            have hP : va_P G.1 vwCl [(h_t, .inr (3, [.ref h_t_tokens, .ref h_t_places, .int t_size, .int o15.1, .int o15.2, .long t_when, .long t_then])), (h_t_tokens, .inl (G.2.1.2.1, 401, .inl t_tokens))] H := hP
            have hD : va_D A [(h_t, .inr (3, [.ref h_t_tokens, .ref h_t_places, .int t_size, .int o15.1, .int o15.2, .long t_when, .long t_then])), (h_t_tokens, .inl (G.2.1.2.1, 401, .inl t_tokens))] := hD
            refine lv_aload_n hx hb dX3_one_90 rfl (lv_at hl 0 rfl) ?_
            refine lv_iload_n hx hb dX3_one_91 rfl (lv_at hl 1 rfl) ?_
            refine lv_iconst (v := (1 : Int32)) hx hb dX3_one_92 (by decide) ?_
            refine lv_iadd hx hb dX3_one_93 ?_
            obtain ⟨o16, ho16, hf⟩ := bd_e hf
            refine af_l (wr := []) (va_runV (As := [.int (a1 + (1 : Int32))]) (rest := []) ⟨hx, hb, hml, hown, hts⟩ (hone h_t h_t_tokens h_t_places H.size t_size o15.1 o15.2 t_when t_then t_tokens (a1 + (1 : Int32)) o16 ho16) (cwV 1 hts gX3_one_X3_one rfl rfl rfl (by decide +kernel) ⟨by show 3 * d + 2 + 1 ≤ 3 * (d + 1) + 2; omega, by show 8 + (5 + 11) + (72 * d + 41) ≤ 72 * (d + 1) + 41; omega⟩) (pcA_preV hg hc hP hD hS hA [0, 1] rfl (by decide) (q0 := 0) (ci := 3) rfl rfl rfl) rfl rfl hl.1 rfl (lv_room (Nat.le_of_ble_eq_true rfl)) dX3_one_94 ⟨Nat.zero_le _, Nat.zero_le _⟩) hP hD hS hA [0, 1] [] rfl rfl (by decide) (by decide) (fun _ H locs _ hP hD hS => ?_)
            have hP : va_P G.1 vwCl [(h_t, .inr (3, [.ref h_t_tokens, .ref h_t_places, .int t_size, .int o16.2.1, .int o16.2.2, .long t_when, .long t_then])), (h_t_tokens, .inl (G.2.1.2.1, 401, .inl t_tokens))] H := hP
            have hD : va_D A [(h_t, .inr (3, [.ref h_t_tokens, .ref h_t_places, .int t_size, .int o16.2.1, .int o16.2.2, .long t_when, .long t_then])), (h_t_tokens, .inl (G.2.1.2.1, 401, .inl t_tokens))] := hD
            refine lv_ldc2 (v := (-1 : Int64)) hx hb hown (hts (.constantLong RX3 28 (-1 : Int64)) (by decide +kernel)) dX3_one_97 ?_
            refine lv_lxor hx hb dX3_one_100 ?_
            rw [← Option.some.inj hf]
            exact rt_l (u := ()) hx hb hr hlocks hP hD trivial hS dX3_one_101
      · have hf := it_t c12 hf
        exact hw_48 t_next t_token hf _ _ hP hD hS _ (lv_sub hl [0] rfl)
  unfold f_X3_one at hf
  refine en (fun H locs hP hD hS => ?_) hP hD
  refine lv_aload_n hx hb dX3_one_0 rfl (lv_at hl 0 rfl) ?_
  refine va_get (D := G.1) (ci := 3) (v := .int t_token) (C := RX3) (T := TX3) (N := 7) hx hb hts hiX3 hown hg.1 hP 0 rfl rfl 4 (by decide) (hts (.fieldLink RX3 25 "AsARule$Reader" "token" "I") (by decide +kernel)) (fun _ h9 => h9) rfl dX3_one_1 ?_
  refine lv_bipush (v := (97 : Int32)) hx hb dX3_one_4 (by decide) ?_
  refine lv_isub hx hb dX3_one_6 ?_
  refine lv_topi (fun x17 ex17 => ?_)
  have hf := lt_n hf x17 ex17
  refine lv_istore_n (lv' := [(2, .int x17), (0, .ref h_t), (1, .int a1)]) hx hb dX3_one_7 rfl hl (by decide) rfl (fun ls hl => ?_)
  refine lv_iload_n hx hb dX3_one_8 rfl (lv_at hl 0 rfl) ?_
  refine lv_if_lt (tgt := 30) hx hb dX3_one_9 (by decide) (fun c18 => ?_) (fun c18 => ?_)
  · have hf := it_t c18 hf
    exact hw_30 t_next t_token hf _ _ hP hD hS _ (lv_sub hl [1, 2] rfl)
  · have hf := it_f c18 hf
    refine lv_iload_n hx hb dX3_one_12 rfl (lv_at hl 0 rfl) ?_
    refine va_gets hx hb hc.1 hS hown (hts (.fieldLink RX3 149 "AsARule$Reader" "LETTER_WORLDS" "[J") (by decide +kernel)) (fun _ h9 => h9) dX3_one_13 ?_
    refine va_tlen (v := (6 : Int32)) hx hb hc.2.1 hS rfl dX3_one_16 ?_
    refine lv_icmp_ge (tgt := 30) hx hb dX3_one_17 (by decide) (fun c19 => ?_) (fun c19 => ?_)
    · have hf := it_t c19 hf
      exact hw_30 t_next t_token hf _ _ hP hD hS _ (lv_sub hl [1, 2] rfl)
    · have hf := it_f c19 hf
      refine lv_aload_n hx hb dX3_one_20 rfl (lv_at hl 1 rfl) ?_
      obtain ⟨o20, ho20, hf⟩ := bd_e hf
      refine af_v (wr := []) (va_runV (As := []) (rest := []) ⟨hx, hb, hml, hown, hts⟩ (c_X3_take l G h_t h_t_tokens h_t_places H.size t_size t_next t_token t_when t_then t_tokens o20 ho20) (cwV 0 hts gX3_one_X3_take rfl rfl rfl (by decide +kernel) ⟨by show 0 + 1 ≤ 3 * (d + 1) + 2; omega, by show 8 + (1 + 11) + (0) ≤ 72 * (d + 1) + 41; omega⟩) (pcA_preV hg hc hP hD hS hA [0, 1] rfl (by decide) (q0 := 0) (ci := 3) rfl rfl rfl) rfl rfl hl.1 rfl (lv_room (Nat.le_of_ble_eq_true rfl)) dX3_one_21 ⟨Nat.zero_le _, Nat.zero_le _⟩) hP hD hS hA [0, 1] [] rfl rfl (by decide) (by decide) (fun _ H locs _ hP hD hS => ?_)
      have hP : va_P G.1 vwCl [(h_t, .inr (3, [.ref h_t_tokens, .ref h_t_places, .int t_size, .int o20.1, .int o20.2, .long t_when, .long t_then])), (h_t_tokens, .inl (G.2.1.2.1, 401, .inl t_tokens))] H := hP
      have hD : va_D A [(h_t, .inr (3, [.ref h_t_tokens, .ref h_t_places, .int t_size, .int o20.1, .int o20.2, .long t_when, .long t_then])), (h_t_tokens, .inl (G.2.1.2.1, 401, .inl t_tokens))] := hD
      refine va_gets hx hb hc.1 hS hown (hts (.fieldLink RX3 149 "AsARule$Reader" "LETTER_WORLDS" "[J") (by decide +kernel)) (fun _ h9 => h9) dX3_one_24 ?_
      refine lv_iload_n hx hb dX3_one_27 rfl (lv_at hl 0 rfl) ?_
      refine va_tl (v := .long (ltW x17.toNatClampNeg)) hx hb hc.2.1 hS (ib_in (gd_t hf)) rfl dX3_one_28 ?_
      have hf := gd_x hf
      rw [← Option.some.inj hf]
      exact rt_l (u := ()) hx hb hr hlocks hP hD trivial hS dX3_one_29
def f_one : Nat → Int32 → Int32 → Int32 → (Nat → Int32) → Int32 → Option (Int64 × Int32 × Int32)
  | 0 => fun _ _ _ _ _ => none
  | d + 1 => f_X3_one (f_one d)
theorem c_one (l : Launch) (G : GG) : ∀ d : Nat, ∀ (h_t h_t_tokens h_t_places : Nat) (sz : Nat) (t_size : Int32) (t_next : Int32) (t_token : Int32) (t_when : Int64) (t_then : Int64) (t_tokens : Nat → Int32) (a1 : Int32) (o : Int64 × Int32 × Int32), f_one d t_size t_next t_token t_tokens a1 = some o → Met l yX3_one wsX3_one ({ frames := 3 * d + 2, cells := 0, slots := 0, locals := 72 * d + 41 } : Room) (pcA G [.ref h_t, .int a1] [(h_t, .inr (3, [.ref h_t_tokens, .ref h_t_places, .int t_size, .int t_next, .int t_token, .long t_when, .long t_then])), (h_t_tokens, .inl (G.2.1.2.1, 401, .inl t_tokens))] sz) (qcL Unit G o.1 (fun _ => True) (fun _ => [(h_t, .inr (3, [.ref h_t_tokens, .ref h_t_places, .int t_size, .int o.2.1, .int o.2.2, .long t_when, .long t_then])), (h_t_tokens, .inl (G.2.1.2.1, 401, .inl t_tokens))]) (va_A [(h_t, .inr (3, [.ref h_t_tokens, .ref h_t_places, .int t_size, .int t_next, .int t_token, .long t_when, .long t_then])), (h_t_tokens, .inl (G.2.1.2.1, 401, .inl t_tokens))] sz)) 0 0 (va_A [(h_t, .inr (3, [.ref h_t_tokens, .ref h_t_places, .int t_size, .int t_next, .int t_token, .long t_when, .long t_then])), (h_t_tokens, .inl (G.2.1.2.1, 401, .inl t_tokens))] sz) := by
  intro d
  induction d with
  | zero =>
    intro h_t h_t_tokens h_t_places sz t_size t_next t_token t_when t_then t_tokens a1 o ho
    exact absurd ho (by rw [f_one]; intro h; cases h)
  | succ d ih =>
    intro h_t h_t_tokens h_t_places sz t_size t_next t_token t_when t_then t_tokens a1 o ho
    exact c_X3_one l G d (f_one d) ih h_t h_t_tokens h_t_places sz t_size t_next t_token t_when t_then t_tokens a1 o ho
-- method X3_isWrong
def f_X3_isWrong (t_token : Int32) : Option (Int32) :=
  if t_token = (257 : Int32) then some ((1 : Int32)) else some ((0 : Int32))
set_option maxHeartbeats 4000000 in
set_option maxRecDepth 100000 in
theorem c_X3_isWrong (l : Launch) (G : GG) (h_t h_t_tokens h_t_places : Nat) (sz : Nat) (t_size : Int32) (t_next : Int32) (t_token : Int32) (t_when : Int64) (t_then : Int64)  (o : Int32) (ho : f_X3_isWrong t_token = some o)  : Met l yX3_isWrong wsX3_isWrong ({ frames := 0, cells := 0, slots := 0, locals := 0 } : Room) (pcA G [.ref h_t] [(h_t, .inr (3, [.ref h_t_tokens, .ref h_t_places, .int t_size, .int t_next, .int t_token, .long t_when, .long t_then]))] sz) (qcI Unit G o (fun _ => True) (fun _ => [(h_t, .inr (3, [.ref h_t_tokens, .ref h_t_places, .int t_size, .int t_next, .int t_token, .long t_when, .long t_then]))]) (va_A [(h_t, .inr (3, [.ref h_t_tokens, .ref h_t_places, .int t_size, .int t_next, .int t_token, .long t_when, .long t_then]))] sz)) 0 0 (va_A [(h_t, .inr (3, [.ref h_t_tokens, .ref h_t_places, .int t_size, .int t_next, .int t_token, .long t_when, .long t_then]))] sz) := by
  refine Met.ofW (cc := cX3_isWrong) (maxL := 1) (ret := (some .boolean)) (by decide) rfl ?_
  intro p e s m args below meth c s₁ B hml hv
  obtain ⟨rfl, hsz, hP, hg, hD0, hc⟩ := hv
  have hx := B.exec
  have hb := B.bytes
  have hr := B.returns
  have hts := atoms_spec (ws := wsX3_isWrong) B.pre
  have hown : s.vm.findClass RX3 = some m.cls := findClass_of_methodNamed B.named
  have hlocks := B.notSynchronized
  subst hsz
  have hD := hD0.self (sz := s.heap.size)
  generalize hAe : va_A [(h_t, .inr (3, [.ref h_t_tokens, .ref h_t_places, .int t_size, .int t_next, .int t_token, .long t_when, .long t_then]))] s.heap.size = A at hD hc ⊢
  have hA : ∀ q : Nat, s.heap.size ≤ q → A q := fun q h => by rw [← hAe]; exact Or.inr h
  have hiX3 : ∀ w ∈ wsX30, w ∈ wsX3_isWrong := by decide +kernel
  have hl := lv_entry ([.ref h_t]) (n := 1) (Nat.le_of_ble_eq_true rfl)
  rw [lg_entry_eq]
  generalize (lg_sl ([.ref h_t]) ++ List.replicate (1 - (lg_sl ([.ref h_t])).length) Slot.unset).toArray = ls at hl ⊢
  have hl : lv_has ls 1 [(0, .ref h_t)] := hl
  have hf := ho
  unfold f_X3_isWrong at hf
  refine en (fun H locs hP hD hS => ?_) hP hD
  refine lv_aload_n hx hb dX3_isWrong_0 rfl (lv_at hl 0 rfl) ?_
  refine va_get (D := G.1) (ci := 3) (v := .int t_token) (C := RX3) (T := TX3) (N := 7) hx hb hts hiX3 hown hg.1 hP 0 rfl rfl 4 (by decide) (hts (.fieldLink RX3 25 "AsARule$Reader" "token" "I") (by decide +kernel)) (fun _ h9 => h9) rfl dX3_isWrong_1 ?_
  refine lv_sipush (v := (257 : Int32)) hx hb dX3_isWrong_4 (by decide) ?_
  refine lv_icmp_ne (tgt := 14) hx hb dX3_isWrong_7 (by decide) (fun c1 => ?_) (fun c1 => ?_)
  · have hf := it_f c1 hf
    refine lv_iconst (v := (0 : Int32)) hx hb dX3_isWrong_14 (by decide) ?_
    rw [← Option.some.inj hf]
    exact rt_z (u := ()) hx hb hr zb_0 hlocks hP hD trivial hS dX3_isWrong_15
  · have hf := it_t c1 hf
    refine lv_iconst (v := (1 : Int32)) hx hb dX3_isWrong_10 (by decide) ?_
    refine lv_goto (tgt := 15) hx hb dX3_isWrong_11 (by decide) ?_
    rw [← Option.some.inj hf]
    exact rt_z (u := ()) hx hb hr zb_1 hlocks hP hD trivial hS dX3_isWrong_15
-- method X3_fault
def f_X3_fault (t_next : Int32) (t_places : Nat → Int32) : Option (Int32) :=
  if t_next < (0 : Int32) then some ((0 : Int32)) else if (401 : Int32) ≤ t_next then some ((0 : Int32)) else gd (ib t_next 401) (some ((t_places t_next.toNatClampNeg)))
set_option maxHeartbeats 4000000 in
set_option maxRecDepth 100000 in
theorem c_X3_fault (l : Launch) (G : GG) (h_t h_t_tokens h_t_places : Nat) (sz : Nat) (t_size : Int32) (t_next : Int32) (t_token : Int32) (t_when : Int64) (t_then : Int64) (t_places : Nat → Int32)  (o : Int32) (ho : f_X3_fault t_next t_places = some o)  : Met l yX3_fault wsX3_fault ({ frames := 0, cells := 0, slots := 0, locals := 0 } : Room) (pcA G [.ref h_t] [(h_t, .inr (3, [.ref h_t_tokens, .ref h_t_places, .int t_size, .int t_next, .int t_token, .long t_when, .long t_then])), (h_t_places, .inl (G.2.1.2.1, 401, .inl t_places))] sz) (qcI Unit G o (fun _ => True) (fun _ => [(h_t, .inr (3, [.ref h_t_tokens, .ref h_t_places, .int t_size, .int t_next, .int t_token, .long t_when, .long t_then])), (h_t_places, .inl (G.2.1.2.1, 401, .inl t_places))]) (va_A [(h_t, .inr (3, [.ref h_t_tokens, .ref h_t_places, .int t_size, .int t_next, .int t_token, .long t_when, .long t_then])), (h_t_places, .inl (G.2.1.2.1, 401, .inl t_places))] sz)) 0 0 (va_A [(h_t, .inr (3, [.ref h_t_tokens, .ref h_t_places, .int t_size, .int t_next, .int t_token, .long t_when, .long t_then])), (h_t_places, .inl (G.2.1.2.1, 401, .inl t_places))] sz) := by
  refine Met.ofW (cc := cX3_fault) (maxL := 1) (ret := (some .int)) (by decide) rfl ?_
  intro p e s m args below meth c s₁ B hml hv
  obtain ⟨rfl, hsz, hP, hg, hD0, hc⟩ := hv
  have hx := B.exec
  have hb := B.bytes
  have hr := B.returns
  have hts := atoms_spec (ws := wsX3_fault) B.pre
  have hown : s.vm.findClass RX3 = some m.cls := findClass_of_methodNamed B.named
  have hlocks := B.notSynchronized
  subst hsz
  have hD := hD0.self (sz := s.heap.size)
  generalize hAe : va_A [(h_t, .inr (3, [.ref h_t_tokens, .ref h_t_places, .int t_size, .int t_next, .int t_token, .long t_when, .long t_then])), (h_t_places, .inl (G.2.1.2.1, 401, .inl t_places))] s.heap.size = A at hD hc ⊢
  have hA : ∀ q : Nat, s.heap.size ≤ q → A q := fun q h => by rw [← hAe]; exact Or.inr h
  have hiX3 : ∀ w ∈ wsX30, w ∈ wsX3_fault := by decide +kernel
  have hl := lv_entry ([.ref h_t]) (n := 1) (Nat.le_of_ble_eq_true rfl)
  rw [lg_entry_eq]
  generalize (lg_sl ([.ref h_t]) ++ List.replicate (1 - (lg_sl ([.ref h_t])).length) Slot.unset).toArray = ls at hl ⊢
  have hl : lv_has ls 1 [(0, .ref h_t)] := hl
  have hf := ho
  unfold f_X3_fault at hf
  refine en (fun H locs hP hD hS => ?_) hP hD
  refine lv_aload_n hx hb dX3_fault_0 rfl (lv_at hl 0 rfl) ?_
  refine va_get (D := G.1) (ci := 3) (v := .int t_next) (C := RX3) (T := TX3) (N := 7) hx hb hts hiX3 hown hg.1 hP 0 rfl rfl 3 (by decide) (hts (.fieldLink RX3 22 "AsARule$Reader" "next" "I") (by decide +kernel)) (fun _ h9 => h9) rfl dX3_fault_1 ?_
  refine lv_if_lt (tgt := 31) hx hb dX3_fault_4 (by decide) (fun c1 => ?_) (fun c1 => ?_)
  · have hf := it_t c1 hf
    refine lv_iconst (v := (0 : Int32)) hx hb dX3_fault_31 (by decide) ?_
    rw [← Option.some.inj hf]
    exact rt_i (u := ()) hx hb hr hlocks hP hD trivial hS dX3_fault_32
  · have hf := it_f c1 hf
    refine lv_aload_n hx hb dX3_fault_7 rfl (lv_at hl 0 rfl) ?_
    refine va_get (D := G.1) (ci := 3) (v := .int t_next) (C := RX3) (T := TX3) (N := 7) hx hb hts hiX3 hown hg.1 hP 0 rfl rfl 3 (by decide) (hts (.fieldLink RX3 22 "AsARule$Reader" "next" "I") (by decide +kernel)) (fun _ h9 => h9) rfl dX3_fault_8 ?_
    refine lv_aload_n hx hb dX3_fault_11 rfl (lv_at hl 0 rfl) ?_
    refine va_get (D := G.1) (ci := 3) (v := .ref h_t_places) (C := RX3) (T := TX3) (N := 7) hx hb hts hiX3 hown hg.1 hP 0 rfl rfl 1 (by decide) (hts (.fieldLink RX3 15 "AsARule$Reader" "places" "[I") (by decide +kernel)) (fun _ h9 => h9) rfl dX3_fault_12 ?_
    refine va_alen (v := (401 : Int32)) hx hb hg.1 hP 1 1 rfl rfl rfl dX3_fault_15 ?_
    refine lv_icmp_ge (tgt := 31) hx hb dX3_fault_16 (by decide) (fun c2 => ?_) (fun c2 => ?_)
    · have hf := it_t c2 hf
      refine lv_iconst (v := (0 : Int32)) hx hb dX3_fault_31 (by decide) ?_
      rw [← Option.some.inj hf]
      exact rt_i (u := ()) hx hb hr hlocks hP hD trivial hS dX3_fault_32
    · have hf := it_f c2 hf
      refine lv_aload_n hx hb dX3_fault_19 rfl (lv_at hl 0 rfl) ?_
      refine va_get (D := G.1) (ci := 3) (v := .ref h_t_places) (C := RX3) (T := TX3) (N := 7) hx hb hts hiX3 hown hg.1 hP 0 rfl rfl 1 (by decide) (hts (.fieldLink RX3 15 "AsARule$Reader" "places" "[I") (by decide +kernel)) (fun _ h9 => h9) rfl dX3_fault_20 ?_
      refine lv_aload_n hx hb dX3_fault_23 rfl (lv_at hl 0 rfl) ?_
      refine va_get (D := G.1) (ci := 3) (v := .int t_next) (C := RX3) (T := TX3) (N := 7) hx hb hts hiX3 hown hg.1 hP 0 rfl rfl 3 (by decide) (hts (.fieldLink RX3 22 "AsARule$Reader" "next" "I") (by decide +kernel)) (fun _ h9 => h9) rfl dX3_fault_24 ?_
      refine va_iald hx hb hg.1 hP 1 1 rfl rfl (ib_in (gd_t hf)) dX3_fault_27 ?_
      have hf := gd_x hf
      refine lv_goto (tgt := 32) hx hb dX3_fault_28 (by decide) ?_
      rw [← Option.some.inj hf]
      exact rt_i (u := ()) hx hb hr hlocks hP hD trivial hS dX3_fault_32
-- method X3_when
def f_X3_when (t_when : Int64) : Option (Int64) :=
  some (t_when)
set_option maxHeartbeats 4000000 in
set_option maxRecDepth 100000 in
theorem c_X3_when (l : Launch) (G : GG) (h_t h_t_tokens h_t_places : Nat) (sz : Nat) (t_size : Int32) (t_next : Int32) (t_token : Int32) (t_when : Int64) (t_then : Int64)  (o : Int64) (ho : f_X3_when t_when = some o)  : Met l yX3_when wsX3_when ({ frames := 0, cells := 0, slots := 0, locals := 0 } : Room) (pcA G [.ref h_t] [(h_t, .inr (3, [.ref h_t_tokens, .ref h_t_places, .int t_size, .int t_next, .int t_token, .long t_when, .long t_then]))] sz) (qcL Unit G o (fun _ => True) (fun _ => [(h_t, .inr (3, [.ref h_t_tokens, .ref h_t_places, .int t_size, .int t_next, .int t_token, .long t_when, .long t_then]))]) (va_A [(h_t, .inr (3, [.ref h_t_tokens, .ref h_t_places, .int t_size, .int t_next, .int t_token, .long t_when, .long t_then]))] sz)) 0 0 (va_A [(h_t, .inr (3, [.ref h_t_tokens, .ref h_t_places, .int t_size, .int t_next, .int t_token, .long t_when, .long t_then]))] sz) := by
  refine Met.ofW (cc := cX3_when) (maxL := 1) (ret := (some .long)) (by decide) rfl ?_
  intro p e s m args below meth c s₁ B hml hv
  obtain ⟨rfl, hsz, hP, hg, hD0, hc⟩ := hv
  have hx := B.exec
  have hb := B.bytes
  have hr := B.returns
  have hts := atoms_spec (ws := wsX3_when) B.pre
  have hown : s.vm.findClass RX3 = some m.cls := findClass_of_methodNamed B.named
  have hlocks := B.notSynchronized
  subst hsz
  have hD := hD0.self (sz := s.heap.size)
  generalize hAe : va_A [(h_t, .inr (3, [.ref h_t_tokens, .ref h_t_places, .int t_size, .int t_next, .int t_token, .long t_when, .long t_then]))] s.heap.size = A at hD hc ⊢
  have hA : ∀ q : Nat, s.heap.size ≤ q → A q := fun q h => by rw [← hAe]; exact Or.inr h
  have hiX3 : ∀ w ∈ wsX30, w ∈ wsX3_when := by decide +kernel
  have hl := lv_entry ([.ref h_t]) (n := 1) (Nat.le_of_ble_eq_true rfl)
  rw [lg_entry_eq]
  generalize (lg_sl ([.ref h_t]) ++ List.replicate (1 - (lg_sl ([.ref h_t])).length) Slot.unset).toArray = ls at hl ⊢
  have hl : lv_has ls 1 [(0, .ref h_t)] := hl
  have hf := ho
  unfold f_X3_when at hf
  refine en (fun H locs hP hD hS => ?_) hP hD
  refine lv_aload_n hx hb dX3_when_0 rfl (lv_at hl 0 rfl) ?_
  refine va_get (D := G.1) (ci := 3) (v := .long t_when) (C := RX3) (T := TX3) (N := 7) hx hb hts hiX3 hown hg.1 hP 0 rfl rfl 5 (by decide) (hts (.fieldLink RX3 30 "AsARule$Reader" "when" "J") (by decide +kernel)) (fun _ h9 => h9) rfl dX3_when_1 ?_
  rw [← Option.some.inj hf]
  exact rt_l (u := ()) hx hb hr hlocks hP hD trivial hS dX3_when_4
-- method X3_then
def f_X3_then (t_then : Int64) : Option (Int64) :=
  some (t_then)
set_option maxHeartbeats 4000000 in
set_option maxRecDepth 100000 in
theorem c_X3_then (l : Launch) (G : GG) (h_t h_t_tokens h_t_places : Nat) (sz : Nat) (t_size : Int32) (t_next : Int32) (t_token : Int32) (t_when : Int64) (t_then : Int64)  (o : Int64) (ho : f_X3_then t_then = some o)  : Met l yX3_then wsX3_then ({ frames := 0, cells := 0, slots := 0, locals := 0 } : Room) (pcA G [.ref h_t] [(h_t, .inr (3, [.ref h_t_tokens, .ref h_t_places, .int t_size, .int t_next, .int t_token, .long t_when, .long t_then]))] sz) (qcL Unit G o (fun _ => True) (fun _ => [(h_t, .inr (3, [.ref h_t_tokens, .ref h_t_places, .int t_size, .int t_next, .int t_token, .long t_when, .long t_then]))]) (va_A [(h_t, .inr (3, [.ref h_t_tokens, .ref h_t_places, .int t_size, .int t_next, .int t_token, .long t_when, .long t_then]))] sz)) 0 0 (va_A [(h_t, .inr (3, [.ref h_t_tokens, .ref h_t_places, .int t_size, .int t_next, .int t_token, .long t_when, .long t_then]))] sz) := by
  refine Met.ofW (cc := cX3_then) (maxL := 1) (ret := (some .long)) (by decide) rfl ?_
  intro p e s m args below meth c s₁ B hml hv
  obtain ⟨rfl, hsz, hP, hg, hD0, hc⟩ := hv
  have hx := B.exec
  have hb := B.bytes
  have hr := B.returns
  have hts := atoms_spec (ws := wsX3_then) B.pre
  have hown : s.vm.findClass RX3 = some m.cls := findClass_of_methodNamed B.named
  have hlocks := B.notSynchronized
  subst hsz
  have hD := hD0.self (sz := s.heap.size)
  generalize hAe : va_A [(h_t, .inr (3, [.ref h_t_tokens, .ref h_t_places, .int t_size, .int t_next, .int t_token, .long t_when, .long t_then]))] s.heap.size = A at hD hc ⊢
  have hA : ∀ q : Nat, s.heap.size ≤ q → A q := fun q h => by rw [← hAe]; exact Or.inr h
  have hiX3 : ∀ w ∈ wsX30, w ∈ wsX3_then := by decide +kernel
  have hl := lv_entry ([.ref h_t]) (n := 1) (Nat.le_of_ble_eq_true rfl)
  rw [lg_entry_eq]
  generalize (lg_sl ([.ref h_t]) ++ List.replicate (1 - (lg_sl ([.ref h_t])).length) Slot.unset).toArray = ls at hl ⊢
  have hl : lv_has ls 1 [(0, .ref h_t)] := hl
  have hf := ho
  unfold f_X3_then at hf
  refine en (fun H locs hP hD hS => ?_) hP hD
  refine lv_aload_n hx hb dX3_then_0 rfl (lv_at hl 0 rfl) ?_
  refine va_get (D := G.1) (ci := 3) (v := .long t_then) (C := RX3) (T := TX3) (N := 7) hx hb hts hiX3 hown hg.1 hP 0 rfl rfl 6 (by decide) (hts (.fieldLink RX3 34 "AsARule$Reader" "then" "J") (by decide +kernel)) (fun _ h9 => h9) rfl dX3_then_1 ?_
  rw [← Option.some.inj hf]
  exact rt_l (u := ()) hx hb hr hlocks hP hD trivial hS dX3_then_4
-- method X3_isSmall
def f_X3_isSmall (a0 : Int32) : Option (Int32) :=
  if a0 < (97 : Int32) then some ((0 : Int32)) else if (122 : Int32) < a0 then some ((0 : Int32)) else some ((1 : Int32))
set_option maxHeartbeats 4000000 in
set_option maxRecDepth 100000 in
theorem c_X3_isSmall (l : Launch) (G : GG) (sz : Nat)  (a0 : Int32) (o : Int32) (ho : f_X3_isSmall a0 = some o)  : Met l yX3_isSmall wsX3_isSmall ({ frames := 0, cells := 0, slots := 0, locals := 0 } : Room) (pcA G [.int a0] [] sz) (qcI Unit G o (fun _ => True) (fun _ => []) (va_A [] sz)) 0 0 (va_A [] sz) := by
  refine Met.ofW (cc := cX3_isSmall) (maxL := 1) (ret := (some .boolean)) (by decide) rfl ?_
  intro p e s m args below meth c s₁ B hml hv
  obtain ⟨rfl, hsz, hP, hg, hD0, hc⟩ := hv
  have hx := B.exec
  have hb := B.bytes
  have hr := B.returns
  have hts := atoms_spec (ws := wsX3_isSmall) B.pre
  have hown : s.vm.findClass RX3 = some m.cls := findClass_of_methodNamed B.named
  have hlocks := B.notSynchronized
  subst hsz
  have hD := hD0.self (sz := s.heap.size)
  generalize hAe : va_A [] s.heap.size = A at hD hc ⊢
  have hA : ∀ q : Nat, s.heap.size ≤ q → A q := fun q h => by rw [← hAe]; exact Or.inr h
  have hl := lv_entry ([.int a0]) (n := 1) (Nat.le_of_ble_eq_true rfl)
  rw [lg_entry_eq]
  generalize (lg_sl ([.int a0]) ++ List.replicate (1 - (lg_sl ([.int a0])).length) Slot.unset).toArray = ls at hl ⊢
  have hl : lv_has ls 1 [(0, .int a0)] := hl
  have hf := ho
  unfold f_X3_isSmall at hf
  refine en (fun H locs hP hD hS => ?_) hP hD
  refine lv_iload_n hx hb dX3_isSmall_0 rfl (lv_at hl 0 rfl) ?_
  refine lv_bipush (v := (97 : Int32)) hx hb dX3_isSmall_1 (by decide) ?_
  refine lv_icmp_lt (tgt := 16) hx hb dX3_isSmall_3 (by decide) (fun c1 => ?_) (fun c1 => ?_)
  · have hf := it_t c1 hf
    refine lv_iconst (v := (0 : Int32)) hx hb dX3_isSmall_16 (by decide) ?_
    rw [← Option.some.inj hf]
    exact rt_z (u := ()) hx hb hr zb_0 hlocks hP hD trivial hS dX3_isSmall_17
  · have hf := it_f c1 hf
    refine lv_iload_n hx hb dX3_isSmall_6 rfl (lv_at hl 0 rfl) ?_
    refine lv_bipush (v := (122 : Int32)) hx hb dX3_isSmall_7 (by decide) ?_
    refine lv_icmp_gt (tgt := 16) hx hb dX3_isSmall_9 (by decide) (fun c2 => ?_) (fun c2 => ?_)
    · have hf := it_t c2 hf
      refine lv_iconst (v := (0 : Int32)) hx hb dX3_isSmall_16 (by decide) ?_
      rw [← Option.some.inj hf]
      exact rt_z (u := ()) hx hb hr zb_0 hlocks hP hD trivial hS dX3_isSmall_17
    · have hf := it_f c2 hf
      refine lv_iconst (v := (1 : Int32)) hx hb dX3_isSmall_12 (by decide) ?_
      refine lv_goto (tgt := 17) hx hb dX3_isSmall_13 (by decide) ?_
      rw [← Option.some.inj hf]
      exact rt_z (u := ()) hx hb hr zb_1 hlocks hP hD trivial hS dX3_isSmall_17
-- method X3_wordLength
def lp_X3_wordLength_4 (u_size : Int32) (u_bytes : Nat → Int32) (a1 : Int32) : Nat → Int32 → Int32 → Option (Int32)
  | 0, _, _ => none
  | n + 1, v2, v3 => if (400 : Int32) ≤ v3 then some (v2) else bd (f_X6_at u_size u_bytes (a1 + v3)) (fun o2 => bd (f_X3_isSmall o2) (fun o3 => if o3 = (0 : Int32) then some (v2) else lt (v2 + (1 : Int32)) (fun x5 => lt (v3 + (1 : Int32)) (fun x6 => lp_X3_wordLength_4 u_size u_bytes a1 n x5 x6))))
def f_X3_wordLength (u_size : Int32) (u_bytes : Nat → Int32) (a1 : Int32) : Option (Int32) :=
  lp_X3_wordLength_4 u_size u_bytes a1 fu (0 : Int32) (0 : Int32)
set_option maxHeartbeats 4000000 in
set_option maxRecDepth 100000 in
theorem c_X3_wordLength (l : Launch) (G : GG) (h_u h_u_bytes : Nat) (sz : Nat) (u_size : Int32) (u_bytes : Nat → Int32) (a1 : Int32) (o : Int32) (ho : f_X3_wordLength u_size u_bytes a1 = some o)  : Met l yX3_wordLength wsX3_wordLength ({ frames := 1, cells := 0, slots := 0, locals := 21 } : Room) (pcA G [.ref h_u, .int a1] [(h_u, .inr (6, [.ref h_u_bytes, .int u_size])), (h_u_bytes, .inl (G.2.1.1, 400, .inl u_bytes))] sz) (qcI Unit G o (fun _ => True) (fun _ => [(h_u, .inr (6, [.ref h_u_bytes, .int u_size])), (h_u_bytes, .inl (G.2.1.1, 400, .inl u_bytes))]) (va_A [(h_u, .inr (6, [.ref h_u_bytes, .int u_size])), (h_u_bytes, .inl (G.2.1.1, 400, .inl u_bytes))] sz)) 0 0 (va_A [(h_u, .inr (6, [.ref h_u_bytes, .int u_size])), (h_u_bytes, .inl (G.2.1.1, 400, .inl u_bytes))] sz) := by
  refine Met.ofW (cc := cX3_wordLength) (maxL := 4) (ret := (some .int)) (by decide) rfl ?_
  intro p e s m args below meth c s₁ B hml hv
  obtain ⟨rfl, hsz, hP, hg, hD0, hc⟩ := hv
  have hx := B.exec
  have hb := B.bytes
  have hr := B.returns
  have hts := atoms_spec (ws := wsX3_wordLength) B.pre
  have hown : s.vm.findClass RX3 = some m.cls := findClass_of_methodNamed B.named
  have hlocks := B.notSynchronized
  subst hsz
  have hD := hD0.self (sz := s.heap.size)
  generalize hAe : va_A [(h_u, .inr (6, [.ref h_u_bytes, .int u_size])), (h_u_bytes, .inl (G.2.1.1, 400, .inl u_bytes))] s.heap.size = A at hD hc ⊢
  have hA : ∀ q : Nat, s.heap.size ≤ q → A q := fun q h => by rw [← hAe]; exact Or.inr h
  have hl := lv_entry ([.ref h_u, .int a1]) (n := 4) (Nat.le_of_ble_eq_true rfl)
  rw [lg_entry_eq]
  generalize (lg_sl ([.ref h_u, .int a1]) ++ List.replicate (4 - (lg_sl ([.ref h_u, .int a1])).length) Slot.unset).toArray = ls at hl ⊢
  have hl : lv_has ls 4 [(0, .ref h_u), (1, .int a1)] := hl
  have hf := ho
  have hw_4 : ∀  (n : Nat) (v2 : Int32) (v3 : Int32), lp_X3_wordLength_4 u_size u_bytes a1 n v2 v3 = some o → ∀ (H : Heap) (locs : List Loc), va_P G.1 vwCl [(h_u, .inr (6, [.ref h_u_bytes, .int u_size])), (h_u_bytes, .inl (G.2.1.1, 400, .inl u_bytes))] H → va_D A [(h_u, .inr (6, [.ref h_u_bytes, .int u_size])), (h_u_bytes, .inl (G.2.1.1, 400, .inl u_bytes))] → va_S A s.heap H locs → ∀ (ls : Array Slot), lv_has ls 4 [(0, .ref h_u), (1, .int a1), (2, .int v2), (3, .int v3)] → W p l e (headSpec wsX3_wordLength ({ frames := 1, cells := 0, slots := 0, locals := 21 } : Room)).room s m ([.ref h_u, .int a1] : List Value).toArray below meth c H locs 0 0 (MQ below (qcI Unit G o (fun _ => True) (fun _ => [(h_u, .inr (6, [.ref h_u_bytes, .int u_size])), (h_u_bytes, .inl (G.2.1.1, 400, .inl u_bytes))]) A) ([.ref h_u, .int a1] : List Value).toArray s 0 0 A) (F0 m 4 ls []) := by
    intro n
    induction n with
    | zero =>
      intro v2 v3 hf
      exact absurd hf (by rw [lp_X3_wordLength_4]; intro h; cases h)
    | succ n ih =>
      intro v2 v3 hf H locs hP hD hS ls hl
      rw [lp_X3_wordLength_4] at hf
      refine lv_iload_n hx hb dX3_wordLength_4 rfl (lv_at hl 3 rfl) ?_
      refine lv_sipush (v := (400 : Int32)) hx hb dX3_wordLength_5 (by decide) ?_
      refine lv_icmp_ge (tgt := 33) hx hb dX3_wordLength_8 (by decide) (fun c1 => ?_) (fun c1 => ?_)
      · have hf := it_t c1 hf
        refine lv_iload_n hx hb dX3_wordLength_33 rfl (lv_at hl 2 rfl) ?_
        rw [← Option.some.inj hf]
        exact rt_i (u := ()) hx hb hr hlocks hP hD trivial hS dX3_wordLength_34
      · have hf := it_f c1 hf
        refine lv_aload_n hx hb dX3_wordLength_11 rfl (lv_at hl 0 rfl) ?_
        refine lv_iload_n hx hb dX3_wordLength_12 rfl (lv_at hl 1 rfl) ?_
        refine lv_iload_n hx hb dX3_wordLength_13 rfl (lv_at hl 3 rfl) ?_
        refine lv_iadd hx hb dX3_wordLength_14 ?_
        obtain ⟨o2, ho2, hf⟩ := bd_e hf
        refine af_i (wr := []) (va_runV (As := [.int (a1 + v3)]) (rest := []) ⟨hx, hb, hml, hown, hts⟩ (c_X6_at l G h_u h_u_bytes H.size u_size u_bytes (a1 + v3) o2 ho2) (cwV 1 hts gX3_wordLength_X6_at rfl rfl rfl (by decide +kernel) ⟨Nat.le_of_ble_eq_true rfl, Nat.le_of_ble_eq_true rfl⟩) (pcA_preV hg hc hP hD hS hA [0, 1] rfl (by decide) (q0 := 0) (ci := 6) rfl rfl rfl) rfl rfl hl.1 rfl (lv_room (Nat.le_of_ble_eq_true rfl)) dX3_wordLength_15 ⟨Nat.zero_le _, Nat.zero_le _⟩) hP hD hS hA [0, 1] [] rfl rfl (by decide) (by decide) (fun _ H locs _ hP hD hS => ?_)
        have hP : va_P G.1 vwCl [(h_u, .inr (6, [.ref h_u_bytes, .int u_size])), (h_u_bytes, .inl (G.2.1.1, 400, .inl u_bytes))] H := hP
        have hD : va_D A [(h_u, .inr (6, [.ref h_u_bytes, .int u_size])), (h_u_bytes, .inl (G.2.1.1, 400, .inl u_bytes))] := hD
        obtain ⟨o3, ho3, hf⟩ := bd_e hf
        refine af0_i (va_runS (As := [.int o2]) (rest := []) ⟨hx, hb, hml, hown, hts⟩ (c_X3_isSmall l G H.size o2 o3 ho3) (va_cwS 1 hts gX3_wordLength_X3_isSmall rfl rfl rfl (by decide +kernel) ⟨Nat.le_of_ble_eq_true rfl, Nat.le_of_ble_eq_true rfl⟩) (pcA_pre hg hc hP hD hS hA [] rfl rfl [.int o2]) rfl rfl hl.1 rfl (lv_room (Nat.le_of_ble_eq_true rfl)) dX3_wordLength_18 ⟨Nat.zero_le _, Nat.zero_le _⟩) hP hD hS hA (fun H locs hP hD hS => ?_)
        refine lv_if_eq (tgt := 33) hx hb dX3_wordLength_21 (by decide) (fun c4 => ?_) (fun c4 => ?_)
        · have hf := it_t c4 hf
          refine lv_iload_n hx hb dX3_wordLength_33 rfl (lv_at hl 2 rfl) ?_
          rw [← Option.some.inj hf]
          exact rt_i (u := ()) hx hb hr hlocks hP hD trivial hS dX3_wordLength_34
        · have hf := it_f c4 hf
          obtain ⟨x5, ex5⟩ : ∃ y : Int32, y = (v2 + (1 : Int32)) := ⟨_, rfl⟩
          have hf := lt_n hf x5 ex5
          refine lv_iinc (v := x5) (lv' := [(2, .int x5), (0, .ref h_u), (1, .int a1), (3, .int v3)]) hx hb dX3_wordLength_24 hl (k := 2) rfl (by rw [ex5]; rfl) (by decide) rfl (fun ls hl => ?_)
          obtain ⟨x6, ex6⟩ : ∃ y : Int32, y = (v3 + (1 : Int32)) := ⟨_, rfl⟩
          have hf := lt_n hf x6 ex6
          refine lv_iinc (v := x6) (lv' := [(3, .int x6), (2, .int x5), (0, .ref h_u), (1, .int a1)]) hx hb dX3_wordLength_27 hl (k := 3) rfl (by rw [ex6]; rfl) (by decide) rfl (fun ls hl => ?_)
          refine lv_goto (tgt := 4) hx hb dX3_wordLength_30 (by decide) ?_
          exact ih x5 x6 hf _ _ hP hD hS _ (lv_sub hl [2, 3, 1, 0] rfl)
  unfold f_X3_wordLength at hf
  refine en (fun H locs hP hD hS => ?_) hP hD
  refine lv_iconst (v := (0 : Int32)) hx hb dX3_wordLength_0 (by decide) ?_
  refine lv_istore_n (lv' := [(2, .int (0 : Int32)), (0, .ref h_u), (1, .int a1)]) hx hb dX3_wordLength_1 rfl hl (by decide) rfl (fun ls hl => ?_)
  refine lv_iconst (v := (0 : Int32)) hx hb dX3_wordLength_2 (by decide) ?_
  refine lv_istore_n (lv' := [(3, .int (0 : Int32)), (2, .int (0 : Int32)), (0, .ref h_u), (1, .int a1)]) hx hb dX3_wordLength_3 rfl hl (by decide) rfl (fun ls hl => ?_)
  exact hw_4 fu (0 : Int32) (0 : Int32) hf _ _ hP hD hS _ (lv_sub hl [2, 3, 1, 0] rfl)
-- method X3_spells
def lp_X3_spells_13 (u_size : Int32) (u_bytes : Nat → Int32) (a1 : Int32) (a2 : Int32) (a3 : Nat) : Nat → Int32 → Option (Int32)
  | 0, _ => none
  | n + 1, v4 => bd (f_J0_length_8abf5 a3) (fun o1 => if o1 ≤ v4 then some ((1 : Int32)) else bd (f_X6_at u_size u_bytes (a1 + v4)) (fun o3 => bd (f_J0_charAt_5068e a3 v4) (fun o4 => if o3 = o4 then lt (v4 + (1 : Int32)) (fun x6 => lp_X3_spells_13 u_size u_bytes a1 a2 a3 n x6) else some ((0 : Int32)))))
def f_X3_spells (u_size : Int32) (u_bytes : Nat → Int32) (a1 : Int32) (a2 : Int32) (a3 : Nat) : Option (Int32) :=
  bd (f_J0_length_8abf5 a3) (fun o7 => if a2 = o7 then lp_X3_spells_13 u_size u_bytes a1 a2 a3 fu (0 : Int32) else some ((0 : Int32)))
set_option maxHeartbeats 4000000 in
set_option maxRecDepth 100000 in
theorem c_X3_spells (l : Launch) (G : GG) (h_u h_u_bytes : Nat) (sz : Nat) (u_size : Int32) (u_bytes : Nat → Int32) (a1 : Int32) (a2 : Int32) (a3 : Nat) (o : Int32) (ho : f_X3_spells u_size u_bytes a1 a2 a3 = some o) (hs_a3 : a3 < 5) : Met l yX3_spells wsX3_spells ({ frames := 4, cells := 0, slots := 0, locals := 85 } : Room) (pcA G [.ref h_u, .int a1, .int a2, .ref (G.2.2.2.1 a3)] [(h_u, .inr (6, [.ref h_u_bytes, .int u_size])), (h_u_bytes, .inl (G.2.1.1, 400, .inl u_bytes))] sz) (qcI Unit G o (fun _ => True) (fun _ => [(h_u, .inr (6, [.ref h_u_bytes, .int u_size])), (h_u_bytes, .inl (G.2.1.1, 400, .inl u_bytes))]) (va_A [(h_u, .inr (6, [.ref h_u_bytes, .int u_size])), (h_u_bytes, .inl (G.2.1.1, 400, .inl u_bytes))] sz)) 0 0 (va_A [(h_u, .inr (6, [.ref h_u_bytes, .int u_size])), (h_u_bytes, .inl (G.2.1.1, 400, .inl u_bytes))] sz) := by
  refine Met.ofW (cc := cX3_spells) (maxL := 5) (ret := (some .boolean)) (by decide) rfl ?_
  intro p e s m args below meth c s₁ B hml hv
  obtain ⟨rfl, hsz, hP, hg, hD0, hc⟩ := hv
  have hx := B.exec
  have hb := B.bytes
  have hr := B.returns
  have hts := atoms_spec (ws := wsX3_spells) B.pre
  have hown : s.vm.findClass RX3 = some m.cls := findClass_of_methodNamed B.named
  have hlocks := B.notSynchronized
  subst hsz
  have hD := hD0.self (sz := s.heap.size)
  generalize hAe : va_A [(h_u, .inr (6, [.ref h_u_bytes, .int u_size])), (h_u_bytes, .inl (G.2.1.1, 400, .inl u_bytes))] s.heap.size = A at hD hc ⊢
  have hA : ∀ q : Nat, s.heap.size ≤ q → A q := fun q h => by rw [← hAe]; exact Or.inr h
  have hl := lv_entry ([.ref h_u, .int a1, .int a2, .ref (G.2.2.2.1 a3)]) (n := 5) (Nat.le_of_ble_eq_true rfl)
  rw [lg_entry_eq]
  generalize (lg_sl ([.ref h_u, .int a1, .int a2, .ref (G.2.2.2.1 a3)]) ++ List.replicate (5 - (lg_sl ([.ref h_u, .int a1, .int a2, .ref (G.2.2.2.1 a3)])).length) Slot.unset).toArray = ls at hl ⊢
  have hl : lv_has ls 5 [(0, .ref h_u), (1, .int a1), (2, .int a2), (3, .ref (G.2.2.2.1 a3))] := hl
  have hf := ho
  have hw_13 : ∀  (n : Nat) (v4 : Int32), lp_X3_spells_13 u_size u_bytes a1 a2 a3 n v4 = some o → ∀ (H : Heap) (locs : List Loc), va_P G.1 vwCl [(h_u, .inr (6, [.ref h_u_bytes, .int u_size])), (h_u_bytes, .inl (G.2.1.1, 400, .inl u_bytes))] H → va_D A [(h_u, .inr (6, [.ref h_u_bytes, .int u_size])), (h_u_bytes, .inl (G.2.1.1, 400, .inl u_bytes))] → va_S A s.heap H locs → ∀ (ls : Array Slot), lv_has ls 5 [(0, .ref h_u), (1, .int a1), (3, .ref (G.2.2.2.1 a3)), (4, .int v4)] → W p l e (headSpec wsX3_spells ({ frames := 4, cells := 0, slots := 0, locals := 85 } : Room)).room s m ([.ref h_u, .int a1, .int a2, .ref (G.2.2.2.1 a3)] : List Value).toArray below meth c H locs 0 0 (MQ below (qcI Unit G o (fun _ => True) (fun _ => [(h_u, .inr (6, [.ref h_u_bytes, .int u_size])), (h_u_bytes, .inl (G.2.1.1, 400, .inl u_bytes))]) A) ([.ref h_u, .int a1, .int a2, .ref (G.2.2.2.1 a3)] : List Value).toArray s 0 0 A) (F0 m 13 ls []) := by
    intro n
    induction n with
    | zero =>
      intro v4 hf
      exact absurd hf (by rw [lp_X3_spells_13]; intro h; cases h)
    | succ n ih =>
      intro v4 hf H locs hP hD hS ls hl
      rw [lp_X3_spells_13] at hf
      refine lv_iload hx hb dX3_spells_13 (lv_at hl 3 rfl) ?_
      refine lv_aload_n hx hb dX3_spells_15 rfl (lv_at hl 2 rfl) ?_
      obtain ⟨o1, ho1, hf⟩ := bd_e hf
      refine af0_i (va_runV (As := []) (rest := [.int v4]) ⟨hx, hb, hml, hown, hts⟩ (c_J0_length_8abf5 l G H.size a3 o1 ho1 hs_a3) (cwV 0 hts gX3_spells_J0_length_8abf5 rfl rfl rfl (by decide +kernel) ⟨Nat.le_of_ble_eq_true rfl, Nat.le_of_ble_eq_true rfl⟩) ⟨pcA_blind, vk_recv hc.2.2.1 hs_a3 hS, (pcA_pre hg hc hP hD hS hA [] rfl rfl (.ref (G.2.2.2.1 a3) :: [])).2⟩ rfl rfl hl.1 rfl (lv_room (Nat.le_of_ble_eq_true rfl)) dX3_spells_16 ⟨Nat.zero_le _, Nat.zero_le _⟩) hP hD hS hA (fun H locs hP hD hS => ?_)
      refine lv_icmp_ge (tgt := 47) hx hb dX3_spells_19 (by decide) (fun c2 => ?_) (fun c2 => ?_)
      · have hf := it_t c2 hf
        refine lv_iconst (v := (1 : Int32)) hx hb dX3_spells_47 (by decide) ?_
        rw [← Option.some.inj hf]
        exact rt_z (u := ()) hx hb hr zb_1 hlocks hP hD trivial hS dX3_spells_48
      · have hf := it_f c2 hf
        refine lv_aload_n hx hb dX3_spells_22 rfl (lv_at hl 0 rfl) ?_
        refine lv_iload_n hx hb dX3_spells_23 rfl (lv_at hl 1 rfl) ?_
        refine lv_iload hx hb dX3_spells_24 (lv_at hl 3 rfl) ?_
        refine lv_iadd hx hb dX3_spells_26 ?_
        obtain ⟨o3, ho3, hf⟩ := bd_e hf
        refine af_i (wr := []) (va_runV (As := [.int (a1 + v4)]) (rest := []) ⟨hx, hb, hml, hown, hts⟩ (c_X6_at l G h_u h_u_bytes H.size u_size u_bytes (a1 + v4) o3 ho3) (cwV 1 hts gX3_spells_X6_at rfl rfl rfl (by decide +kernel) ⟨Nat.le_of_ble_eq_true rfl, Nat.le_of_ble_eq_true rfl⟩) (pcA_preV hg hc hP hD hS hA [0, 1] rfl (by decide) (q0 := 0) (ci := 6) rfl rfl rfl) rfl rfl hl.1 rfl (lv_room (Nat.le_of_ble_eq_true rfl)) dX3_spells_27 ⟨Nat.zero_le _, Nat.zero_le _⟩) hP hD hS hA [0, 1] [] rfl rfl (by decide) (by decide) (fun _ H locs _ hP hD hS => ?_)
        have hP : va_P G.1 vwCl [(h_u, .inr (6, [.ref h_u_bytes, .int u_size])), (h_u_bytes, .inl (G.2.1.1, 400, .inl u_bytes))] H := hP
        have hD : va_D A [(h_u, .inr (6, [.ref h_u_bytes, .int u_size])), (h_u_bytes, .inl (G.2.1.1, 400, .inl u_bytes))] := hD
        refine lv_aload_n hx hb dX3_spells_30 rfl (lv_at hl 2 rfl) ?_
        refine lv_iload hx hb dX3_spells_31 (lv_at hl 3 rfl) ?_
        obtain ⟨o4, ho4, hf⟩ := bd_e hf
        refine af0_i (va_runV (As := [.int v4]) (rest := [.int o3]) ⟨hx, hb, hml, hown, hts⟩ (c_J0_charAt_5068e l G H.size a3 v4 o4 ho4 hs_a3) (cwV 1 hts gX3_spells_J0_charAt_5068e rfl rfl rfl (by decide +kernel) ⟨Nat.le_of_ble_eq_true rfl, Nat.le_of_ble_eq_true rfl⟩) ⟨pcA_blind, vk_recv hc.2.2.1 hs_a3 hS, (pcA_pre hg hc hP hD hS hA [] rfl rfl (.ref (G.2.2.2.1 a3) :: [.int v4])).2⟩ rfl rfl hl.1 rfl (lv_room (Nat.le_of_ble_eq_true rfl)) dX3_spells_33 ⟨Nat.zero_le _, Nat.zero_le _⟩) hP hD hS hA (fun H locs hP hD hS => ?_)
        refine lv_icmp_eq (tgt := 41) hx hb dX3_spells_36 (by decide) (fun c5 => ?_) (fun c5 => ?_)
        · have hf := it_t c5 hf
          obtain ⟨x6, ex6⟩ : ∃ y : Int32, y = (v4 + (1 : Int32)) := ⟨_, rfl⟩
          have hf := lt_n hf x6 ex6
          refine lv_iinc (v := x6) (lv' := [(4, .int x6), (0, .ref h_u), (1, .int a1), (3, .ref (G.2.2.2.1 a3))]) hx hb dX3_spells_41 hl (k := 3) rfl (by rw [ex6]; rfl) (by decide) rfl (fun ls hl => ?_)
          refine lv_goto (tgt := 13) hx hb dX3_spells_44 (by decide) ?_
          exact ih x6 hf _ _ hP hD hS _ (lv_sub hl [1, 2, 3, 0] rfl)
        · have hf := it_f c5 hf
          refine lv_iconst (v := (0 : Int32)) hx hb dX3_spells_39 (by decide) ?_
          rw [← Option.some.inj hf]
          exact rt_z (u := ()) hx hb hr zb_0 hlocks hP hD trivial hS dX3_spells_40
  unfold f_X3_spells at hf
  refine en (fun H locs hP hD hS => ?_) hP hD
  refine lv_iload_n hx hb dX3_spells_0 rfl (lv_at hl 2 rfl) ?_
  refine lv_aload_n hx hb dX3_spells_1 rfl (lv_at hl 3 rfl) ?_
  obtain ⟨o7, ho7, hf⟩ := bd_e hf
  refine af0_i (va_runV (As := []) (rest := [.int a2]) ⟨hx, hb, hml, hown, hts⟩ (c_J0_length_8abf5 l G H.size a3 o7 ho7 hs_a3) (cwV 0 hts gX3_spells_J0_length_8abf5 rfl rfl rfl (by decide +kernel) ⟨Nat.le_of_ble_eq_true rfl, Nat.le_of_ble_eq_true rfl⟩) ⟨pcA_blind, vk_recv hc.2.2.1 hs_a3 hS, (pcA_pre hg hc hP hD hS hA [] rfl rfl (.ref (G.2.2.2.1 a3) :: [])).2⟩ rfl rfl hl.1 rfl (lv_room (Nat.le_of_ble_eq_true rfl)) dX3_spells_2 ⟨Nat.zero_le _, Nat.zero_le _⟩) hP hD hS hA (fun H locs hP hD hS => ?_)
  refine lv_icmp_eq (tgt := 10) hx hb dX3_spells_5 (by decide) (fun c8 => ?_) (fun c8 => ?_)
  · have hf := it_t c8 hf
    refine lv_iconst (v := (0 : Int32)) hx hb dX3_spells_10 (by decide) ?_
    refine lv_istore (lv' := [(4, .int (0 : Int32)), (0, .ref h_u), (1, .int a1), (2, .int a2), (3, .ref (G.2.2.2.1 a3))]) hx hb dX3_spells_11 hl (by decide) rfl (fun ls hl => ?_)
    exact hw_13 fu (0 : Int32) hf _ _ hP hD hS _ (lv_sub hl [1, 2, 4, 0] rfl)
  · have hf := it_f c8 hf
    refine lv_iconst (v := (0 : Int32)) hx hb dX3_spells_8 (by decide) ?_
    rw [← Option.some.inj hf]
    exact rt_z (u := ()) hx hb hr zb_0 hlocks hP hD trivial hS dX3_spells_9
-- method X3_wordToken
def f_X3_wordToken (u_size : Int32) (u_bytes : Nat → Int32) (a1 : Int32) (a2 : Int32) : Option (Int32) :=
  if a2 = (1 : Int32) then bd (f_X6_at u_size u_bytes a1) (fun o12 => if (102 : Int32) < o12 then some ((257 : Int32)) else some (o12)) else bd (f_X3_spells u_size u_bytes a1 a2 0) (fun o2 => if o2 = (0 : Int32) then bd (f_X3_spells u_size u_bytes a1 a2 1) (fun o4 => if o4 = (0 : Int32) then bd (f_X3_spells u_size u_bytes a1 a2 2) (fun o6 => if o6 = (0 : Int32) then bd (f_X3_spells u_size u_bytes a1 a2 3) (fun o8 => if o8 = (0 : Int32) then bd (f_X3_spells u_size u_bytes a1 a2 4) (fun o10 => if o10 = (0 : Int32) then some ((257 : Int32)) else some ((262 : Int32))) else some ((261 : Int32))) else some ((260 : Int32))) else some ((259 : Int32))) else some ((258 : Int32)))
set_option maxHeartbeats 4000000 in
set_option maxRecDepth 100000 in
theorem c_X3_wordToken (l : Launch) (G : GG) (h_u h_u_bytes : Nat) (sz : Nat) (u_size : Int32) (u_bytes : Nat → Int32) (a1 : Int32) (a2 : Int32) (o : Int32) (ho : f_X3_wordToken u_size u_bytes a1 a2 = some o)  : Met l yX3_wordToken wsX3_wordToken ({ frames := 5, cells := 0, slots := 0, locals := 109 } : Room) (pcA G [.ref h_u, .int a1, .int a2] [(h_u, .inr (6, [.ref h_u_bytes, .int u_size])), (h_u_bytes, .inl (G.2.1.1, 400, .inl u_bytes))] sz) (qcI Unit G o (fun _ => True) (fun _ => [(h_u, .inr (6, [.ref h_u_bytes, .int u_size])), (h_u_bytes, .inl (G.2.1.1, 400, .inl u_bytes))]) (va_A [(h_u, .inr (6, [.ref h_u_bytes, .int u_size])), (h_u_bytes, .inl (G.2.1.1, 400, .inl u_bytes))] sz)) 0 0 (va_A [(h_u, .inr (6, [.ref h_u_bytes, .int u_size])), (h_u_bytes, .inl (G.2.1.1, 400, .inl u_bytes))] sz) := by
  refine Met.ofW (cc := cX3_wordToken) (maxL := 4) (ret := (some .int)) (by decide) rfl ?_
  intro p e s m args below meth c s₁ B hml hv
  obtain ⟨rfl, hsz, hP, hg, hD0, hc⟩ := hv
  have hx := B.exec
  have hb := B.bytes
  have hr := B.returns
  have hts := atoms_spec (ws := wsX3_wordToken) B.pre
  have hown : s.vm.findClass RX3 = some m.cls := findClass_of_methodNamed B.named
  have hlocks := B.notSynchronized
  subst hsz
  have hD := hD0.self (sz := s.heap.size)
  generalize hAe : va_A [(h_u, .inr (6, [.ref h_u_bytes, .int u_size])), (h_u_bytes, .inl (G.2.1.1, 400, .inl u_bytes))] s.heap.size = A at hD hc ⊢
  have hA : ∀ q : Nat, s.heap.size ≤ q → A q := fun q h => by rw [← hAe]; exact Or.inr h
  have hl := lv_entry ([.ref h_u, .int a1, .int a2]) (n := 4) (Nat.le_of_ble_eq_true rfl)
  rw [lg_entry_eq]
  generalize (lg_sl ([.ref h_u, .int a1, .int a2]) ++ List.replicate (4 - (lg_sl ([.ref h_u, .int a1, .int a2])).length) Slot.unset).toArray = ls at hl ⊢
  have hl : lv_has ls 4 [(0, .ref h_u), (1, .int a1), (2, .int a2)] := hl
  have hf := ho
  unfold f_X3_wordToken at hf
  refine en (fun H locs hP hD hS => ?_) hP hD
  refine lv_iload_n hx hb dX3_wordToken_0 rfl (lv_at hl 2 rfl) ?_
  refine lv_iconst (v := (1 : Int32)) hx hb dX3_wordToken_1 (by decide) ?_
  refine lv_icmp_ne (tgt := 25) hx hb dX3_wordToken_2 (by decide) (fun c1 => ?_) (fun c1 => ?_)
  · have hf := it_f c1 hf
    refine lv_aload_n hx hb dX3_wordToken_25 rfl (lv_at hl 0 rfl) ?_
    refine lv_iload_n hx hb dX3_wordToken_26 rfl (lv_at hl 1 rfl) ?_
    refine lv_iload_n hx hb dX3_wordToken_27 rfl (lv_at hl 2 rfl) ?_
    refine va_ldcS hx hb hown (hc.2.2.2.2.2 0 _ rfl) dX3_wordToken_28 ?_
    obtain ⟨o2, ho2, hf⟩ := bd_e hf
    refine af_i (wr := []) (va_runS (As := [.ref h_u, .int a1, .int a2, .ref (G.2.2.2.1 0)]) (rest := []) ⟨hx, hb, hml, hown, hts⟩ (c_X3_spells l G h_u h_u_bytes H.size u_size u_bytes a1 a2 0 o2 ho2 (by decide)) (va_cwS 4 hts gX3_wordToken_X3_spells rfl rfl rfl (by decide +kernel) ⟨Nat.le_of_ble_eq_true rfl, Nat.le_of_ble_eq_true rfl⟩) (pcA_pre hg hc hP hD hS hA [0, 1] rfl (by decide) [.ref h_u, .int a1, .int a2, .ref (G.2.2.2.1 0)]) rfl rfl hl.1 rfl (lv_room (Nat.le_of_ble_eq_true rfl)) dX3_wordToken_30 ⟨Nat.zero_le _, Nat.zero_le _⟩) hP hD hS hA [0, 1] [] rfl rfl (by decide) (by decide) (fun _ H locs _ hP hD hS => ?_)
    have hP : va_P G.1 vwCl [(h_u, .inr (6, [.ref h_u_bytes, .int u_size])), (h_u_bytes, .inl (G.2.1.1, 400, .inl u_bytes))] H := hP
    have hD : va_D A [(h_u, .inr (6, [.ref h_u_bytes, .int u_size])), (h_u_bytes, .inl (G.2.1.1, 400, .inl u_bytes))] := hD
    refine lv_if_eq (tgt := 40) hx hb dX3_wordToken_33 (by decide) (fun c3 => ?_) (fun c3 => ?_)
    · have hf := it_t c3 hf
      refine lv_aload_n hx hb dX3_wordToken_40 rfl (lv_at hl 0 rfl) ?_
      refine lv_iload_n hx hb dX3_wordToken_41 rfl (lv_at hl 1 rfl) ?_
      refine lv_iload_n hx hb dX3_wordToken_42 rfl (lv_at hl 2 rfl) ?_
      refine va_ldcS hx hb hown (hc.2.2.2.2.2 1 _ rfl) dX3_wordToken_43 ?_
      obtain ⟨o4, ho4, hf⟩ := bd_e hf
      refine af_i (wr := []) (va_runS (As := [.ref h_u, .int a1, .int a2, .ref (G.2.2.2.1 1)]) (rest := []) ⟨hx, hb, hml, hown, hts⟩ (c_X3_spells l G h_u h_u_bytes H.size u_size u_bytes a1 a2 1 o4 ho4 (by decide)) (va_cwS 4 hts gX3_wordToken_X3_spells rfl rfl rfl (by decide +kernel) ⟨Nat.le_of_ble_eq_true rfl, Nat.le_of_ble_eq_true rfl⟩) (pcA_pre hg hc hP hD hS hA [0, 1] rfl (by decide) [.ref h_u, .int a1, .int a2, .ref (G.2.2.2.1 1)]) rfl rfl hl.1 rfl (lv_room (Nat.le_of_ble_eq_true rfl)) dX3_wordToken_45 ⟨Nat.zero_le _, Nat.zero_le _⟩) hP hD hS hA [0, 1] [] rfl rfl (by decide) (by decide) (fun _ H locs _ hP hD hS => ?_)
      have hP : va_P G.1 vwCl [(h_u, .inr (6, [.ref h_u_bytes, .int u_size])), (h_u_bytes, .inl (G.2.1.1, 400, .inl u_bytes))] H := hP
      have hD : va_D A [(h_u, .inr (6, [.ref h_u_bytes, .int u_size])), (h_u_bytes, .inl (G.2.1.1, 400, .inl u_bytes))] := hD
      refine lv_if_eq (tgt := 55) hx hb dX3_wordToken_48 (by decide) (fun c5 => ?_) (fun c5 => ?_)
      · have hf := it_t c5 hf
        refine lv_aload_n hx hb dX3_wordToken_55 rfl (lv_at hl 0 rfl) ?_
        refine lv_iload_n hx hb dX3_wordToken_56 rfl (lv_at hl 1 rfl) ?_
        refine lv_iload_n hx hb dX3_wordToken_57 rfl (lv_at hl 2 rfl) ?_
        refine va_ldcS hx hb hown (hc.2.2.2.2.2 2 _ rfl) dX3_wordToken_58 ?_
        obtain ⟨o6, ho6, hf⟩ := bd_e hf
        refine af_i (wr := []) (va_runS (As := [.ref h_u, .int a1, .int a2, .ref (G.2.2.2.1 2)]) (rest := []) ⟨hx, hb, hml, hown, hts⟩ (c_X3_spells l G h_u h_u_bytes H.size u_size u_bytes a1 a2 2 o6 ho6 (by decide)) (va_cwS 4 hts gX3_wordToken_X3_spells rfl rfl rfl (by decide +kernel) ⟨Nat.le_of_ble_eq_true rfl, Nat.le_of_ble_eq_true rfl⟩) (pcA_pre hg hc hP hD hS hA [0, 1] rfl (by decide) [.ref h_u, .int a1, .int a2, .ref (G.2.2.2.1 2)]) rfl rfl hl.1 rfl (lv_room (Nat.le_of_ble_eq_true rfl)) dX3_wordToken_60 ⟨Nat.zero_le _, Nat.zero_le _⟩) hP hD hS hA [0, 1] [] rfl rfl (by decide) (by decide) (fun _ H locs _ hP hD hS => ?_)
        have hP : va_P G.1 vwCl [(h_u, .inr (6, [.ref h_u_bytes, .int u_size])), (h_u_bytes, .inl (G.2.1.1, 400, .inl u_bytes))] H := hP
        have hD : va_D A [(h_u, .inr (6, [.ref h_u_bytes, .int u_size])), (h_u_bytes, .inl (G.2.1.1, 400, .inl u_bytes))] := hD
        refine lv_if_eq (tgt := 70) hx hb dX3_wordToken_63 (by decide) (fun c7 => ?_) (fun c7 => ?_)
        · have hf := it_t c7 hf
          refine lv_aload_n hx hb dX3_wordToken_70 rfl (lv_at hl 0 rfl) ?_
          refine lv_iload_n hx hb dX3_wordToken_71 rfl (lv_at hl 1 rfl) ?_
          refine lv_iload_n hx hb dX3_wordToken_72 rfl (lv_at hl 2 rfl) ?_
          refine va_ldcS hx hb hown (hc.2.2.2.2.2 3 _ rfl) dX3_wordToken_73 ?_
          obtain ⟨o8, ho8, hf⟩ := bd_e hf
          refine af_i (wr := []) (va_runS (As := [.ref h_u, .int a1, .int a2, .ref (G.2.2.2.1 3)]) (rest := []) ⟨hx, hb, hml, hown, hts⟩ (c_X3_spells l G h_u h_u_bytes H.size u_size u_bytes a1 a2 3 o8 ho8 (by decide)) (va_cwS 4 hts gX3_wordToken_X3_spells rfl rfl rfl (by decide +kernel) ⟨Nat.le_of_ble_eq_true rfl, Nat.le_of_ble_eq_true rfl⟩) (pcA_pre hg hc hP hD hS hA [0, 1] rfl (by decide) [.ref h_u, .int a1, .int a2, .ref (G.2.2.2.1 3)]) rfl rfl hl.1 rfl (lv_room (Nat.le_of_ble_eq_true rfl)) dX3_wordToken_75 ⟨Nat.zero_le _, Nat.zero_le _⟩) hP hD hS hA [0, 1] [] rfl rfl (by decide) (by decide) (fun _ H locs _ hP hD hS => ?_)
          have hP : va_P G.1 vwCl [(h_u, .inr (6, [.ref h_u_bytes, .int u_size])), (h_u_bytes, .inl (G.2.1.1, 400, .inl u_bytes))] H := hP
          have hD : va_D A [(h_u, .inr (6, [.ref h_u_bytes, .int u_size])), (h_u_bytes, .inl (G.2.1.1, 400, .inl u_bytes))] := hD
          refine lv_if_eq (tgt := 85) hx hb dX3_wordToken_78 (by decide) (fun c9 => ?_) (fun c9 => ?_)
          · have hf := it_t c9 hf
            refine lv_aload_n hx hb dX3_wordToken_85 rfl (lv_at hl 0 rfl) ?_
            refine lv_iload_n hx hb dX3_wordToken_86 rfl (lv_at hl 1 rfl) ?_
            refine lv_iload_n hx hb dX3_wordToken_87 rfl (lv_at hl 2 rfl) ?_
            refine va_ldcS hx hb hown (hc.2.2.2.2.2 4 _ rfl) dX3_wordToken_88 ?_
            obtain ⟨o10, ho10, hf⟩ := bd_e hf
            refine af_i (wr := []) (va_runS (As := [.ref h_u, .int a1, .int a2, .ref (G.2.2.2.1 4)]) (rest := []) ⟨hx, hb, hml, hown, hts⟩ (c_X3_spells l G h_u h_u_bytes H.size u_size u_bytes a1 a2 4 o10 ho10 (by decide)) (va_cwS 4 hts gX3_wordToken_X3_spells rfl rfl rfl (by decide +kernel) ⟨Nat.le_of_ble_eq_true rfl, Nat.le_of_ble_eq_true rfl⟩) (pcA_pre hg hc hP hD hS hA [0, 1] rfl (by decide) [.ref h_u, .int a1, .int a2, .ref (G.2.2.2.1 4)]) rfl rfl hl.1 rfl (lv_room (Nat.le_of_ble_eq_true rfl)) dX3_wordToken_90 ⟨Nat.zero_le _, Nat.zero_le _⟩) hP hD hS hA [0, 1] [] rfl rfl (by decide) (by decide) (fun _ H locs _ hP hD hS => ?_)
            have hP : va_P G.1 vwCl [(h_u, .inr (6, [.ref h_u_bytes, .int u_size])), (h_u_bytes, .inl (G.2.1.1, 400, .inl u_bytes))] H := hP
            have hD : va_D A [(h_u, .inr (6, [.ref h_u_bytes, .int u_size])), (h_u_bytes, .inl (G.2.1.1, 400, .inl u_bytes))] := hD
            refine lv_if_eq (tgt := 102) hx hb dX3_wordToken_93 (by decide) (fun c11 => ?_) (fun c11 => ?_)
            · have hf := it_t c11 hf
              refine lv_sipush (v := (257 : Int32)) hx hb dX3_wordToken_102 (by decide) ?_
              rw [← Option.some.inj hf]
              exact rt_i (u := ()) hx hb hr hlocks hP hD trivial hS dX3_wordToken_105
            · have hf := it_f c11 hf
              refine lv_sipush (v := (262 : Int32)) hx hb dX3_wordToken_96 (by decide) ?_
              refine lv_goto (tgt := 105) hx hb dX3_wordToken_99 (by decide) ?_
              rw [← Option.some.inj hf]
              exact rt_i (u := ()) hx hb hr hlocks hP hD trivial hS dX3_wordToken_105
          · have hf := it_f c9 hf
            refine lv_sipush (v := (261 : Int32)) hx hb dX3_wordToken_81 (by decide) ?_
            rw [← Option.some.inj hf]
            exact rt_i (u := ()) hx hb hr hlocks hP hD trivial hS dX3_wordToken_84
        · have hf := it_f c7 hf
          refine lv_sipush (v := (260 : Int32)) hx hb dX3_wordToken_66 (by decide) ?_
          rw [← Option.some.inj hf]
          exact rt_i (u := ()) hx hb hr hlocks hP hD trivial hS dX3_wordToken_69
      · have hf := it_f c5 hf
        refine lv_sipush (v := (259 : Int32)) hx hb dX3_wordToken_51 (by decide) ?_
        rw [← Option.some.inj hf]
        exact rt_i (u := ()) hx hb hr hlocks hP hD trivial hS dX3_wordToken_54
    · have hf := it_f c3 hf
      refine lv_sipush (v := (258 : Int32)) hx hb dX3_wordToken_36 (by decide) ?_
      rw [← Option.some.inj hf]
      exact rt_i (u := ()) hx hb hr hlocks hP hD trivial hS dX3_wordToken_39
  · have hf := it_t c1 hf
    refine lv_aload_n hx hb dX3_wordToken_5 rfl (lv_at hl 0 rfl) ?_
    refine lv_iload_n hx hb dX3_wordToken_6 rfl (lv_at hl 1 rfl) ?_
    obtain ⟨o12, ho12, hf⟩ := bd_e hf
    refine af_i (wr := []) (va_runV (As := [.int a1]) (rest := []) ⟨hx, hb, hml, hown, hts⟩ (c_X6_at l G h_u h_u_bytes H.size u_size u_bytes a1 o12 ho12) (cwV 1 hts gX3_wordToken_X6_at rfl rfl rfl (by decide +kernel) ⟨Nat.le_of_ble_eq_true rfl, Nat.le_of_ble_eq_true rfl⟩) (pcA_preV hg hc hP hD hS hA [0, 1] rfl (by decide) (q0 := 0) (ci := 6) rfl rfl rfl) rfl rfl hl.1 rfl (lv_room (Nat.le_of_ble_eq_true rfl)) dX3_wordToken_7 ⟨Nat.zero_le _, Nat.zero_le _⟩) hP hD hS hA [0, 1] [] rfl rfl (by decide) (by decide) (fun _ H locs _ hP hD hS => ?_)
    have hP : va_P G.1 vwCl [(h_u, .inr (6, [.ref h_u_bytes, .int u_size])), (h_u_bytes, .inl (G.2.1.1, 400, .inl u_bytes))] H := hP
    have hD : va_D A [(h_u, .inr (6, [.ref h_u_bytes, .int u_size])), (h_u_bytes, .inl (G.2.1.1, 400, .inl u_bytes))] := hD
    refine lv_istore_n (lv' := [(3, .int o12), (0, .ref h_u), (1, .int a1), (2, .int a2)]) hx hb dX3_wordToken_10 rfl hl (by decide) rfl (fun ls hl => ?_)
    refine lv_iload_n hx hb dX3_wordToken_11 rfl (lv_at hl 0 rfl) ?_
    refine lv_bipush (v := (102 : Int32)) hx hb dX3_wordToken_12 (by decide) ?_
    refine lv_icmp_gt (tgt := 21) hx hb dX3_wordToken_14 (by decide) (fun c13 => ?_) (fun c13 => ?_)
    · have hf := it_t c13 hf
      refine lv_sipush (v := (257 : Int32)) hx hb dX3_wordToken_21 (by decide) ?_
      rw [← Option.some.inj hf]
      exact rt_i (u := ()) hx hb hr hlocks hP hD trivial hS dX3_wordToken_24
    · have hf := it_f c13 hf
      refine lv_iload_n hx hb dX3_wordToken_17 rfl (lv_at hl 0 rfl) ?_
      refine lv_goto (tgt := 24) hx hb dX3_wordToken_18 (by decide) ?_
      rw [← Option.some.inj hf]
      exact rt_i (u := ()) hx hb hr hlocks hP hD trivial hS dX3_wordToken_24
-- method X3_put
def f_X3_put (t_size : Int32) (t_tokens : Nat → Int32) (t_places : Nat → Int32) (a1 : Int32) (a2 : Int32) : Option (Int32 × (Nat → Int32) × (Nat → Int32)) :=
  if (401 : Int32) ≤ t_size then some (t_size, t_tokens, t_places) else if (401 : Int32) ≤ t_size then some (t_size, t_tokens, t_places) else gd (ib t_size 401) (gd (ib t_size 401) (lt (t_size + (1 : Int32)) (fun x3 => some (x3, (upd t_tokens t_size.toNatClampNeg a1), (upd t_places t_size.toNatClampNeg a2)))))
set_option maxHeartbeats 4000000 in
set_option maxRecDepth 100000 in
theorem c_X3_put (l : Launch) (G : GG) (h_t h_t_tokens h_t_places : Nat) (sz : Nat) (t_size : Int32) (t_next : Int32) (t_token : Int32) (t_when : Int64) (t_then : Int64) (t_tokens : Nat → Int32) (t_places : Nat → Int32) (a1 : Int32) (a2 : Int32) (o : Int32 × (Nat → Int32) × (Nat → Int32)) (ho : f_X3_put t_size t_tokens t_places a1 a2 = some o)  : Met l yX3_put wsX3_put ({ frames := 0, cells := 0, slots := 0, locals := 0 } : Room) (pcA G [.ref h_t, .int a1, .int a2] [(h_t, .inr (3, [.ref h_t_tokens, .ref h_t_places, .int t_size, .int t_next, .int t_token, .long t_when, .long t_then])), (h_t_tokens, .inl (G.2.1.2.1, 401, .inl t_tokens)), (h_t_places, .inl (G.2.1.2.1, 401, .inl t_places))] sz) (qcV Unit G (fun _ => True) (fun _ => [(h_t, .inr (3, [.ref h_t_tokens, .ref h_t_places, .int o.1, .int t_next, .int t_token, .long t_when, .long t_then])), (h_t_tokens, .inl (G.2.1.2.1, 401, .inl o.2.1)), (h_t_places, .inl (G.2.1.2.1, 401, .inl o.2.2))]) (va_A [(h_t, .inr (3, [.ref h_t_tokens, .ref h_t_places, .int t_size, .int t_next, .int t_token, .long t_when, .long t_then])), (h_t_tokens, .inl (G.2.1.2.1, 401, .inl t_tokens)), (h_t_places, .inl (G.2.1.2.1, 401, .inl t_places))] sz)) 0 0 (va_A [(h_t, .inr (3, [.ref h_t_tokens, .ref h_t_places, .int t_size, .int t_next, .int t_token, .long t_when, .long t_then])), (h_t_tokens, .inl (G.2.1.2.1, 401, .inl t_tokens)), (h_t_places, .inl (G.2.1.2.1, 401, .inl t_places))] sz) := by
  refine Met.ofW (cc := cX3_put) (maxL := 3) (ret := none) (by decide) rfl ?_
  intro p e s m args below meth c s₁ B hml hv
  obtain ⟨rfl, hsz, hP, hg, hD0, hc⟩ := hv
  have hx := B.exec
  have hb := B.bytes
  have hr := B.returns
  have hts := atoms_spec (ws := wsX3_put) B.pre
  have hown : s.vm.findClass RX3 = some m.cls := findClass_of_methodNamed B.named
  have hlocks := B.notSynchronized
  subst hsz
  have hD := hD0.self (sz := s.heap.size)
  generalize hAe : va_A [(h_t, .inr (3, [.ref h_t_tokens, .ref h_t_places, .int t_size, .int t_next, .int t_token, .long t_when, .long t_then])), (h_t_tokens, .inl (G.2.1.2.1, 401, .inl t_tokens)), (h_t_places, .inl (G.2.1.2.1, 401, .inl t_places))] s.heap.size = A at hD hc ⊢
  have hA : ∀ q : Nat, s.heap.size ≤ q → A q := fun q h => by rw [← hAe]; exact Or.inr h
  have hiX3 : ∀ w ∈ wsX30, w ∈ wsX3_put := by decide +kernel
  have hl := lv_entry ([.ref h_t, .int a1, .int a2]) (n := 3) (Nat.le_of_ble_eq_true rfl)
  rw [lg_entry_eq]
  generalize (lg_sl ([.ref h_t, .int a1, .int a2]) ++ List.replicate (3 - (lg_sl ([.ref h_t, .int a1, .int a2])).length) Slot.unset).toArray = ls at hl ⊢
  have hl : lv_has ls 3 [(0, .ref h_t), (1, .int a1), (2, .int a2)] := hl
  have hf := ho
  unfold f_X3_put at hf
  refine en (fun H locs hP hD hS => ?_) hP hD
  refine lv_aload_n hx hb dX3_put_0 rfl (lv_at hl 0 rfl) ?_
  refine va_get (D := G.1) (ci := 3) (v := .int t_size) (C := RX3) (T := TX3) (N := 7) hx hb hts hiX3 hown hg.1 hP 0 rfl rfl 2 (by decide) (hts (.fieldLink RX3 18 "AsARule$Reader" "size" "I") (by decide +kernel)) (fun _ h9 => h9) rfl dX3_put_1 ?_
  refine lv_aload_n hx hb dX3_put_4 rfl (lv_at hl 0 rfl) ?_
  refine va_get (D := G.1) (ci := 3) (v := .ref h_t_tokens) (C := RX3) (T := TX3) (N := 7) hx hb hts hiX3 hown hg.1 hP 0 rfl rfl 0 (by decide) (hts (.fieldLink RX3 9 "AsARule$Reader" "tokens" "[I") (by decide +kernel)) (fun _ h9 => h9) rfl dX3_put_5 ?_
  refine va_alen (v := (401 : Int32)) hx hb hg.1 hP 1 1 rfl rfl rfl dX3_put_8 ?_
  refine lv_icmp_ge (tgt := 54) hx hb dX3_put_9 (by decide) (fun c1 => ?_) (fun c1 => ?_)
  · have hf := it_t c1 hf
    rw [← Option.some.inj hf]
    exact rt_v (u := ()) hx hb hr hlocks hP hD trivial hS dX3_put_54
  · have hf := it_f c1 hf
    refine lv_aload_n hx hb dX3_put_12 rfl (lv_at hl 0 rfl) ?_
    refine va_get (D := G.1) (ci := 3) (v := .int t_size) (C := RX3) (T := TX3) (N := 7) hx hb hts hiX3 hown hg.1 hP 0 rfl rfl 2 (by decide) (hts (.fieldLink RX3 18 "AsARule$Reader" "size" "I") (by decide +kernel)) (fun _ h9 => h9) rfl dX3_put_13 ?_
    refine lv_aload_n hx hb dX3_put_16 rfl (lv_at hl 0 rfl) ?_
    refine va_get (D := G.1) (ci := 3) (v := .ref h_t_places) (C := RX3) (T := TX3) (N := 7) hx hb hts hiX3 hown hg.1 hP 0 rfl rfl 1 (by decide) (hts (.fieldLink RX3 15 "AsARule$Reader" "places" "[I") (by decide +kernel)) (fun _ h9 => h9) rfl dX3_put_17 ?_
    refine va_alen (v := (401 : Int32)) hx hb hg.1 hP 2 1 rfl rfl rfl dX3_put_20 ?_
    refine lv_icmp_ge (tgt := 54) hx hb dX3_put_21 (by decide) (fun c2 => ?_) (fun c2 => ?_)
    · have hf := it_t c2 hf
      rw [← Option.some.inj hf]
      exact rt_v (u := ()) hx hb hr hlocks hP hD trivial hS dX3_put_54
    · have hf := it_f c2 hf
      refine lv_aload_n hx hb dX3_put_24 rfl (lv_at hl 0 rfl) ?_
      refine va_get (D := G.1) (ci := 3) (v := .ref h_t_tokens) (C := RX3) (T := TX3) (N := 7) hx hb hts hiX3 hown hg.1 hP 0 rfl rfl 0 (by decide) (hts (.fieldLink RX3 9 "AsARule$Reader" "tokens" "[I") (by decide +kernel)) (fun _ h9 => h9) rfl dX3_put_25 ?_
      refine lv_aload_n hx hb dX3_put_28 rfl (lv_at hl 0 rfl) ?_
      refine va_get (D := G.1) (ci := 3) (v := .int t_size) (C := RX3) (T := TX3) (N := 7) hx hb hts hiX3 hown hg.1 hP 0 rfl rfl 2 (by decide) (hts (.fieldLink RX3 18 "AsARule$Reader" "size" "I") (by decide +kernel)) (fun _ h9 => h9) rfl dX3_put_29 ?_
      refine lv_iload_n hx hb dX3_put_32 rfl (lv_at hl 1 rfl) ?_
      refine va_iast hx hb hg.1 hP hD hS 1 1 rfl rfl (ib_in (gd_t hf)) dX3_put_33 (fun H locs hP hD hS => ?_)
      have hf := gd_x hf
      have hP : va_P G.1 vwCl [(h_t, .inr (3, [.ref h_t_tokens, .ref h_t_places, .int t_size, .int t_next, .int t_token, .long t_when, .long t_then])), (h_t_tokens, .inl (G.2.1.2.1, 401, .inl (upd t_tokens t_size.toNatClampNeg a1))), (h_t_places, .inl (G.2.1.2.1, 401, .inl t_places))] H := hP
      have hD : va_D A [(h_t, .inr (3, [.ref h_t_tokens, .ref h_t_places, .int t_size, .int t_next, .int t_token, .long t_when, .long t_then])), (h_t_tokens, .inl (G.2.1.2.1, 401, .inl (upd t_tokens t_size.toNatClampNeg a1))), (h_t_places, .inl (G.2.1.2.1, 401, .inl t_places))] := hD
      refine lv_aload_n hx hb dX3_put_34 rfl (lv_at hl 0 rfl) ?_
      refine va_get (D := G.1) (ci := 3) (v := .ref h_t_places) (C := RX3) (T := TX3) (N := 7) hx hb hts hiX3 hown hg.1 hP 0 rfl rfl 1 (by decide) (hts (.fieldLink RX3 15 "AsARule$Reader" "places" "[I") (by decide +kernel)) (fun _ h9 => h9) rfl dX3_put_35 ?_
      refine lv_aload_n hx hb dX3_put_38 rfl (lv_at hl 0 rfl) ?_
      refine va_get (D := G.1) (ci := 3) (v := .int t_size) (C := RX3) (T := TX3) (N := 7) hx hb hts hiX3 hown hg.1 hP 0 rfl rfl 2 (by decide) (hts (.fieldLink RX3 18 "AsARule$Reader" "size" "I") (by decide +kernel)) (fun _ h9 => h9) rfl dX3_put_39 ?_
      refine lv_iload_n hx hb dX3_put_42 rfl (lv_at hl 2 rfl) ?_
      refine va_iast hx hb hg.1 hP hD hS 2 1 rfl rfl (ib_in (gd_t hf)) dX3_put_43 (fun H locs hP hD hS => ?_)
      have hf := gd_x hf
      have hP : va_P G.1 vwCl [(h_t, .inr (3, [.ref h_t_tokens, .ref h_t_places, .int t_size, .int t_next, .int t_token, .long t_when, .long t_then])), (h_t_tokens, .inl (G.2.1.2.1, 401, .inl (upd t_tokens t_size.toNatClampNeg a1))), (h_t_places, .inl (G.2.1.2.1, 401, .inl (upd t_places t_size.toNatClampNeg a2)))] H := hP
      have hD : va_D A [(h_t, .inr (3, [.ref h_t_tokens, .ref h_t_places, .int t_size, .int t_next, .int t_token, .long t_when, .long t_then])), (h_t_tokens, .inl (G.2.1.2.1, 401, .inl (upd t_tokens t_size.toNatClampNeg a1))), (h_t_places, .inl (G.2.1.2.1, 401, .inl (upd t_places t_size.toNatClampNeg a2)))] := hD
      refine lv_aload_n hx hb dX3_put_44 rfl (lv_at hl 0 rfl) ?_
      refine lv_dup hx hb dX3_put_45 rfl ?_
      refine va_get (D := G.1) (ci := 3) (v := .int t_size) (C := RX3) (T := TX3) (N := 7) hx hb hts hiX3 hown hg.1 hP 0 rfl rfl 2 (by decide) (hts (.fieldLink RX3 18 "AsARule$Reader" "size" "I") (by decide +kernel)) (fun _ h9 => h9) rfl dX3_put_46 ?_
      refine lv_iconst (v := (1 : Int32)) hx hb dX3_put_49 (by decide) ?_
      refine lv_iadd hx hb dX3_put_50 ?_
      refine lv_topi (fun x3 ex3 => ?_)
      have hf := lt_n hf x3 ex3
      refine va_put (D := G.1) (ci := 3) (v := .int x3) (ty := .int) (C := RX3) (T := TX3) (N := 7) hx hb hts hiX3 tyX3 tyX3_ok nmX3 hown hg.1 hP hD hS 0 rfl rfl 2 (by decide) (hts (.fieldLink RX3 18 "AsARule$Reader" "size" "I") (by decide +kernel)) (fun _ h9 => h9) rfl (by decide +kernel) rfl rfl (Nat.le_of_ble_eq_true rfl) dX3_put_51 (fun H locs hP hD hS => ?_)
      have hP : va_P G.1 vwCl [(h_t, .inr (3, [.ref h_t_tokens, .ref h_t_places, .int x3, .int t_next, .int t_token, .long t_when, .long t_then])), (h_t_tokens, .inl (G.2.1.2.1, 401, .inl (upd t_tokens t_size.toNatClampNeg a1))), (h_t_places, .inl (G.2.1.2.1, 401, .inl (upd t_places t_size.toNatClampNeg a2)))] H := hP
      have hD : va_D A [(h_t, .inr (3, [.ref h_t_tokens, .ref h_t_places, .int x3, .int t_next, .int t_token, .long t_when, .long t_then])), (h_t_tokens, .inl (G.2.1.2.1, 401, .inl (upd t_tokens t_size.toNatClampNeg a1))), (h_t_places, .inl (G.2.1.2.1, 401, .inl (upd t_places t_size.toNatClampNeg a2)))] := hD
      rw [← Option.some.inj hf]
      exact rt_v (u := ()) hx hb hr hlocks hP hD trivial hS dX3_put_54
-- method X3_isSign
def f_X3_isSign (a0 : Int32) : Option (Int32) :=
  if a0 = (33 : Int32) then some ((1 : Int32)) else if a0 = (38 : Int32) then some ((1 : Int32)) else if a0 = (40 : Int32) then some ((1 : Int32)) else if a0 = (41 : Int32) then some ((1 : Int32)) else if a0 = (48 : Int32) then some ((1 : Int32)) else if a0 = (49 : Int32) then some ((1 : Int32)) else if a0 = (59 : Int32) then some ((1 : Int32)) else if a0 = (124 : Int32) then some ((1 : Int32)) else some ((0 : Int32))
set_option maxHeartbeats 4000000 in
set_option maxRecDepth 100000 in
theorem c_X3_isSign (l : Launch) (G : GG) (sz : Nat)  (a0 : Int32) (o : Int32) (ho : f_X3_isSign a0 = some o)  : Met l yX3_isSign wsX3_isSign ({ frames := 0, cells := 0, slots := 0, locals := 0 } : Room) (pcA G [.int a0] [] sz) (qcI Unit G o (fun _ => True) (fun _ => []) (va_A [] sz)) 0 0 (va_A [] sz) := by
  refine Met.ofW (cc := cX3_isSign) (maxL := 1) (ret := (some .boolean)) (by decide) rfl ?_
  intro p e s m args below meth c s₁ B hml hv
  obtain ⟨rfl, hsz, hP, hg, hD0, hc⟩ := hv
  have hx := B.exec
  have hb := B.bytes
  have hr := B.returns
  have hts := atoms_spec (ws := wsX3_isSign) B.pre
  have hown : s.vm.findClass RX3 = some m.cls := findClass_of_methodNamed B.named
  have hlocks := B.notSynchronized
  subst hsz
  have hD := hD0.self (sz := s.heap.size)
  generalize hAe : va_A [] s.heap.size = A at hD hc ⊢
  have hA : ∀ q : Nat, s.heap.size ≤ q → A q := fun q h => by rw [← hAe]; exact Or.inr h
  have hl := lv_entry ([.int a0]) (n := 1) (Nat.le_of_ble_eq_true rfl)
  rw [lg_entry_eq]
  generalize (lg_sl ([.int a0]) ++ List.replicate (1 - (lg_sl ([.int a0])).length) Slot.unset).toArray = ls at hl ⊢
  have hl : lv_has ls 1 [(0, .int a0)] := hl
  have hf := ho
  unfold f_X3_isSign at hf
  refine en (fun H locs hP hD hS => ?_) hP hD
  refine lv_iload_n hx hb dX3_isSign_0 rfl (lv_at hl 0 rfl) ?_
  by_cases c1 : a0 = (33 : Int32)
  · have hf := it_t c1 hf
    refine lv_lookup (off := 75) (tgt := 76) hx hb dX3_isSign_1 (by decide) (by rw [c1]; rfl) (by decide) ?_
    refine lv_iconst (v := (1 : Int32)) hx hb dX3_isSign_76 (by decide) ?_
    rw [← Option.some.inj hf]
    exact rt_z (u := ()) hx hb hr zb_1 hlocks hP hD trivial hS dX3_isSign_77
  · have hf := it_f c1 hf
    by_cases c2 : a0 = (38 : Int32)
    · have hf := it_t c2 hf
      refine lv_lookup (off := 75) (tgt := 76) hx hb dX3_isSign_1 (by decide) (by rw [c2]; rfl) (by decide) ?_
      refine lv_iconst (v := (1 : Int32)) hx hb dX3_isSign_76 (by decide) ?_
      rw [← Option.some.inj hf]
      exact rt_z (u := ()) hx hb hr zb_1 hlocks hP hD trivial hS dX3_isSign_77
    · have hf := it_f c2 hf
      by_cases c3 : a0 = (40 : Int32)
      · have hf := it_t c3 hf
        refine lv_lookup (off := 75) (tgt := 76) hx hb dX3_isSign_1 (by decide) (by rw [c3]; rfl) (by decide) ?_
        refine lv_iconst (v := (1 : Int32)) hx hb dX3_isSign_76 (by decide) ?_
        rw [← Option.some.inj hf]
        exact rt_z (u := ()) hx hb hr zb_1 hlocks hP hD trivial hS dX3_isSign_77
      · have hf := it_f c3 hf
        by_cases c4 : a0 = (41 : Int32)
        · have hf := it_t c4 hf
          refine lv_lookup (off := 75) (tgt := 76) hx hb dX3_isSign_1 (by decide) (by rw [c4]; rfl) (by decide) ?_
          refine lv_iconst (v := (1 : Int32)) hx hb dX3_isSign_76 (by decide) ?_
          rw [← Option.some.inj hf]
          exact rt_z (u := ()) hx hb hr zb_1 hlocks hP hD trivial hS dX3_isSign_77
        · have hf := it_f c4 hf
          by_cases c5 : a0 = (48 : Int32)
          · have hf := it_t c5 hf
            refine lv_lookup (off := 75) (tgt := 76) hx hb dX3_isSign_1 (by decide) (by rw [c5]; rfl) (by decide) ?_
            refine lv_iconst (v := (1 : Int32)) hx hb dX3_isSign_76 (by decide) ?_
            rw [← Option.some.inj hf]
            exact rt_z (u := ()) hx hb hr zb_1 hlocks hP hD trivial hS dX3_isSign_77
          · have hf := it_f c5 hf
            by_cases c6 : a0 = (49 : Int32)
            · have hf := it_t c6 hf
              refine lv_lookup (off := 75) (tgt := 76) hx hb dX3_isSign_1 (by decide) (by rw [c6]; rfl) (by decide) ?_
              refine lv_iconst (v := (1 : Int32)) hx hb dX3_isSign_76 (by decide) ?_
              rw [← Option.some.inj hf]
              exact rt_z (u := ()) hx hb hr zb_1 hlocks hP hD trivial hS dX3_isSign_77
            · have hf := it_f c6 hf
              by_cases c7 : a0 = (59 : Int32)
              · have hf := it_t c7 hf
                refine lv_lookup (off := 75) (tgt := 76) hx hb dX3_isSign_1 (by decide) (by rw [c7]; rfl) (by decide) ?_
                refine lv_iconst (v := (1 : Int32)) hx hb dX3_isSign_76 (by decide) ?_
                rw [← Option.some.inj hf]
                exact rt_z (u := ()) hx hb hr zb_1 hlocks hP hD trivial hS dX3_isSign_77
              · have hf := it_f c7 hf
                by_cases c8 : a0 = (124 : Int32)
                · have hf := it_t c8 hf
                  refine lv_lookup (off := 75) (tgt := 76) hx hb dX3_isSign_1 (by decide) (by rw [c8]; rfl) (by decide) ?_
                  refine lv_iconst (v := (1 : Int32)) hx hb dX3_isSign_76 (by decide) ?_
                  rw [← Option.some.inj hf]
                  exact rt_z (u := ()) hx hb hr zb_1 hlocks hP hD trivial hS dX3_isSign_77
                · have hf := it_f c8 hf
                  refine lv_lookup (off := 77) (tgt := 78) hx hb dX3_isSign_1 (by decide) ((lv_osw c1 rfl).trans ((lv_osw c2 rfl).trans ((lv_osw c3 rfl).trans ((lv_osw c4 rfl).trans ((lv_osw c5 rfl).trans ((lv_osw c6 rfl).trans ((lv_osw c7 rfl).trans ((lv_osw c8 rfl).trans (rfl))))))))) (by decide) ?_
                  refine lv_iconst (v := (0 : Int32)) hx hb dX3_isSign_78 (by decide) ?_
                  rw [← Option.some.inj hf]
                  exact rt_z (u := ()) hx hb hr zb_0 hlocks hP hD trivial hS dX3_isSign_79
-- method X3_start
def jn_X3_start_103 (u_size : Int32) (u_bytes : Nat → Int32) (t_size : Int32) (t_next : Int32) (t_token : Int32) (t_tokens : Nat → Int32) (t_places : Nat → Int32) : Option (Int32 × Int32 × Int32 × (Nat → Int32) × (Nat → Int32)) :=
  bd (f_X6_size u_size) (fun o1 => bd (f_X3_put t_size t_tokens t_places (256 : Int32) o1) (fun o2 => bd (f_X3_take o2.1 (-1 : Int32) t_token o2.2.1) (fun o3 => some (o2.1, o3.1, o3.2, o2.2.1, o2.2.2))))
def jn_X3_start_88 (u_size : Int32) (u_bytes : Nat → Int32) (t_next : Int32) (t_token : Int32) (k_9 : Int32 → (Nat → Int32) → (Nat → Int32) → Int32 → Int32 → Option (Int32 × Int32 × Int32 × (Nat → Int32) × (Nat → Int32))) (t_size : Int32) (t_tokens : Nat → Int32) (t_places : Nat → Int32) (v2 : Int32) (v3 : Int32) (v5 : Int32) (s1 : Int32) : Option (Int32 × Int32 × Int32 × (Nat → Int32) × (Nat → Int32)) :=
  bd (f_X3_put t_size t_tokens t_places s1 v2) (fun o4 => lt (v2 + v5) (fun x5 => lt (v3 + (1 : Int32)) (fun x6 => k_9 o4.1 o4.2.1 o4.2.2 x5 x6)))
def lp_X3_start_9 (u_size : Int32) (u_bytes : Nat → Int32) (t_next : Int32) (t_token : Int32) : Nat → Int32 → (Nat → Int32) → (Nat → Int32) → Int32 → Int32 → Option (Int32 × Int32 × Int32 × (Nat → Int32) × (Nat → Int32))
  | 0, _, _, _, _, _ => none
  | n + 1, t_size, t_tokens, t_places, v2, v3 => if (400 : Int32) ≤ v3 then jn_X3_start_103 u_size u_bytes t_size t_next t_token t_tokens t_places else bd (f_X6_size u_size) (fun o8 => if o8 ≤ v2 then jn_X3_start_103 u_size u_bytes t_size t_next t_token t_tokens t_places else bd (f_X6_at u_size u_bytes v2) (fun o10 => bd (f_X3_isSmall o10) (fun o11 => if o11 = (0 : Int32) then if o10 = (32 : Int32) then lt (v2 + (1 : Int32)) (fun x14 => lt (v3 + (1 : Int32)) (fun x15 => lp_X3_start_9 u_size u_bytes t_next t_token n t_size t_tokens t_places x14 x15)) else bd (f_X3_isSign o10) (fun o16 => if o16 = (0 : Int32) then jn_X3_start_88 u_size u_bytes t_next t_token (fun t_size t_tokens t_places v2 v3 => lp_X3_start_9 u_size u_bytes t_next t_token n t_size t_tokens t_places v2 v3) t_size t_tokens t_places v2 v3 (1 : Int32) (257 : Int32) else jn_X3_start_88 u_size u_bytes t_next t_token (fun t_size t_tokens t_places v2 v3 => lp_X3_start_9 u_size u_bytes t_next t_token n t_size t_tokens t_places v2 v3) t_size t_tokens t_places v2 v3 (1 : Int32) o10) else bd (f_X3_wordLength u_size u_bytes v2) (fun o18 => bd (f_X3_wordToken u_size u_bytes v2 o18) (fun o19 => bd (f_X3_put t_size t_tokens t_places o19 v2) (fun o20 => lt (v2 + o18) (fun x21 => lt (v3 + (1 : Int32)) (fun x22 => lp_X3_start_9 u_size u_bytes t_next t_token n o20.1 o20.2.1 o20.2.2 x21 x22))))))))
def f_X3_start (t_size : Int32) (t_next : Int32) (t_token : Int32) (t_tokens : Nat → Int32) (t_places : Nat → Int32) (u_size : Int32) (u_bytes : Nat → Int32) : Option (Int32 × Int32 × Int32 × (Nat → Int32) × (Nat → Int32)) :=
  lp_X3_start_9 u_size u_bytes t_next t_token fu (0 : Int32) t_tokens t_places (0 : Int32) (0 : Int32)
set_option maxHeartbeats 4000000 in
set_option maxRecDepth 100000 in
theorem c_X3_start (l : Launch) (G : GG) (h_t h_t_tokens h_t_places h_u h_u_bytes : Nat) (sz : Nat) (t_size : Int32) (t_next : Int32) (t_token : Int32) (t_when : Int64) (t_then : Int64) (t_tokens : Nat → Int32) (t_places : Nat → Int32) (u_size : Int32) (u_bytes : Nat → Int32)  (o : Int32 × Int32 × Int32 × (Nat → Int32) × (Nat → Int32)) (ho : f_X3_start t_size t_next t_token t_tokens t_places u_size u_bytes = some o)  : Met l yX3_start wsX3_start ({ frames := 6, cells := 0, slots := 0, locals := 132 } : Room) (pcA G [.ref h_t, .ref h_u] [(h_t, .inr (3, [.ref h_t_tokens, .ref h_t_places, .int t_size, .int t_next, .int t_token, .long t_when, .long t_then])), (h_t_tokens, .inl (G.2.1.2.1, 401, .inl t_tokens)), (h_t_places, .inl (G.2.1.2.1, 401, .inl t_places)), (h_u, .inr (6, [.ref h_u_bytes, .int u_size])), (h_u_bytes, .inl (G.2.1.1, 400, .inl u_bytes))] sz) (qcV Unit G (fun _ => True) (fun _ => [(h_t, .inr (3, [.ref h_t_tokens, .ref h_t_places, .int o.1, .int o.2.1, .int o.2.2.1, .long t_when, .long t_then])), (h_t_tokens, .inl (G.2.1.2.1, 401, .inl o.2.2.2.1)), (h_t_places, .inl (G.2.1.2.1, 401, .inl o.2.2.2.2)), (h_u, .inr (6, [.ref h_u_bytes, .int u_size])), (h_u_bytes, .inl (G.2.1.1, 400, .inl u_bytes))]) (va_A [(h_t, .inr (3, [.ref h_t_tokens, .ref h_t_places, .int t_size, .int t_next, .int t_token, .long t_when, .long t_then])), (h_t_tokens, .inl (G.2.1.2.1, 401, .inl t_tokens)), (h_t_places, .inl (G.2.1.2.1, 401, .inl t_places)), (h_u, .inr (6, [.ref h_u_bytes, .int u_size])), (h_u_bytes, .inl (G.2.1.1, 400, .inl u_bytes))] sz)) 0 0 (va_A [(h_t, .inr (3, [.ref h_t_tokens, .ref h_t_places, .int t_size, .int t_next, .int t_token, .long t_when, .long t_then])), (h_t_tokens, .inl (G.2.1.2.1, 401, .inl t_tokens)), (h_t_places, .inl (G.2.1.2.1, 401, .inl t_places)), (h_u, .inr (6, [.ref h_u_bytes, .int u_size])), (h_u_bytes, .inl (G.2.1.1, 400, .inl u_bytes))] sz) := by
  refine Met.ofW (cc := cX3_start) (maxL := 6) (ret := none) (by decide) rfl ?_
  intro p e s m args below meth c s₁ B hml hv
  obtain ⟨rfl, hsz, hP, hg, hD0, hc⟩ := hv
  have hx := B.exec
  have hb := B.bytes
  have hr := B.returns
  have hts := atoms_spec (ws := wsX3_start) B.pre
  have hown : s.vm.findClass RX3 = some m.cls := findClass_of_methodNamed B.named
  have hlocks := B.notSynchronized
  subst hsz
  have hD := hD0.self (sz := s.heap.size)
  generalize hAe : va_A [(h_t, .inr (3, [.ref h_t_tokens, .ref h_t_places, .int t_size, .int t_next, .int t_token, .long t_when, .long t_then])), (h_t_tokens, .inl (G.2.1.2.1, 401, .inl t_tokens)), (h_t_places, .inl (G.2.1.2.1, 401, .inl t_places)), (h_u, .inr (6, [.ref h_u_bytes, .int u_size])), (h_u_bytes, .inl (G.2.1.1, 400, .inl u_bytes))] s.heap.size = A at hD hc ⊢
  have hA : ∀ q : Nat, s.heap.size ≤ q → A q := fun q h => by rw [← hAe]; exact Or.inr h
  have hiX3 : ∀ w ∈ wsX30, w ∈ wsX3_start := by decide +kernel
  have hl := lv_entry ([.ref h_t, .ref h_u]) (n := 6) (Nat.le_of_ble_eq_true rfl)
  rw [lg_entry_eq]
  generalize (lg_sl ([.ref h_t, .ref h_u]) ++ List.replicate (6 - (lg_sl ([.ref h_t, .ref h_u])).length) Slot.unset).toArray = ls at hl ⊢
  have hl : lv_has ls 6 [(0, .ref h_t), (1, .ref h_u)] := hl
  have hf := ho
  have hw_103 : ∀ (t_size : Int32) (t_next : Int32) (t_token : Int32) (t_tokens : Nat → Int32) (t_places : Nat → Int32), jn_X3_start_103 u_size u_bytes t_size t_next t_token t_tokens t_places = some o → ∀ (H : Heap) (locs : List Loc), va_P G.1 vwCl [(h_t, .inr (3, [.ref h_t_tokens, .ref h_t_places, .int t_size, .int t_next, .int t_token, .long t_when, .long t_then])), (h_t_tokens, .inl (G.2.1.2.1, 401, .inl t_tokens)), (h_t_places, .inl (G.2.1.2.1, 401, .inl t_places)), (h_u, .inr (6, [.ref h_u_bytes, .int u_size])), (h_u_bytes, .inl (G.2.1.1, 400, .inl u_bytes))] H → va_D A [(h_t, .inr (3, [.ref h_t_tokens, .ref h_t_places, .int t_size, .int t_next, .int t_token, .long t_when, .long t_then])), (h_t_tokens, .inl (G.2.1.2.1, 401, .inl t_tokens)), (h_t_places, .inl (G.2.1.2.1, 401, .inl t_places)), (h_u, .inr (6, [.ref h_u_bytes, .int u_size])), (h_u_bytes, .inl (G.2.1.1, 400, .inl u_bytes))] → va_S A s.heap H locs → ∀ (ls : Array Slot), lv_has ls 6 [(0, .ref h_t), (1, .ref h_u)] → W p l e (headSpec wsX3_start ({ frames := 6, cells := 0, slots := 0, locals := 132 } : Room)).room s m ([.ref h_t, .ref h_u] : List Value).toArray below meth c H locs 0 0 (MQ below (qcV Unit G (fun _ => True) (fun _ => [(h_t, .inr (3, [.ref h_t_tokens, .ref h_t_places, .int o.1, .int o.2.1, .int o.2.2.1, .long t_when, .long t_then])), (h_t_tokens, .inl (G.2.1.2.1, 401, .inl o.2.2.2.1)), (h_t_places, .inl (G.2.1.2.1, 401, .inl o.2.2.2.2)), (h_u, .inr (6, [.ref h_u_bytes, .int u_size])), (h_u_bytes, .inl (G.2.1.1, 400, .inl u_bytes))]) A) ([.ref h_t, .ref h_u] : List Value).toArray s 0 0 A) (F0 m 103 ls []) := by
    intro t_size t_next t_token t_tokens t_places hf H locs hP hD hS ls hl
    unfold jn_X3_start_103 at hf
    refine lv_aload_n hx hb dX3_start_103 rfl (lv_at hl 0 rfl) ?_
    refine lv_sipush (v := (256 : Int32)) hx hb dX3_start_104 (by decide) ?_
    refine lv_aload_n hx hb dX3_start_107 rfl (lv_at hl 1 rfl) ?_
    obtain ⟨o1, ho1, hf⟩ := bd_e hf
    refine af_i (wr := [(h_t, .inr (3, [.ref h_t_tokens, .ref h_t_places, .int t_size, .int t_next, .int t_token, .long t_when, .long t_then])), (h_t_tokens, .inl (G.2.1.2.1, 401, .inl t_tokens)), (h_t_places, .inl (G.2.1.2.1, 401, .inl t_places)), (h_u_bytes, .inl (G.2.1.1, 400, .inl u_bytes))]) (va_runV (As := []) (rest := [.int (256 : Int32), .ref h_t]) ⟨hx, hb, hml, hown, hts⟩ (c_X6_size l G h_u h_u_bytes H.size u_size o1 ho1) (cwV 0 hts gX3_start_X6_size rfl rfl rfl (by decide +kernel) ⟨Nat.le_of_ble_eq_true rfl, Nat.le_of_ble_eq_true rfl⟩) (pcA_preV hg hc hP hD hS hA [3] rfl (by decide) (q0 := 3) (ci := 6) rfl rfl rfl) rfl rfl hl.1 rfl (lv_room (Nat.le_of_ble_eq_true rfl)) dX3_start_108 ⟨Nat.zero_le _, Nat.zero_le _⟩) hP hD hS hA [3] [0, 1, 2, 4] rfl rfl (by decide) (by decide) (fun _ H locs _ hP hD hS => ?_)
    have hP : va_P G.1 vwCl [(h_t, .inr (3, [.ref h_t_tokens, .ref h_t_places, .int t_size, .int t_next, .int t_token, .long t_when, .long t_then])), (h_t_tokens, .inl (G.2.1.2.1, 401, .inl t_tokens)), (h_t_places, .inl (G.2.1.2.1, 401, .inl t_places)), (h_u, .inr (6, [.ref h_u_bytes, .int u_size])), (h_u_bytes, .inl (G.2.1.1, 400, .inl u_bytes))] H := hP.sub [0, 1, 2, 4, 3] rfl
    have hD : va_D A [(h_t, .inr (3, [.ref h_t_tokens, .ref h_t_places, .int t_size, .int t_next, .int t_token, .long t_when, .long t_then])), (h_t_tokens, .inl (G.2.1.2.1, 401, .inl t_tokens)), (h_t_places, .inl (G.2.1.2.1, 401, .inl t_places)), (h_u, .inr (6, [.ref h_u_bytes, .int u_size])), (h_u_bytes, .inl (G.2.1.1, 400, .inl u_bytes))] := hD.sub [0, 1, 2, 4, 3] (by decide) rfl
    obtain ⟨o2, ho2, hf⟩ := bd_e hf
    refine af_v (wr := [(h_u, .inr (6, [.ref h_u_bytes, .int u_size])), (h_u_bytes, .inl (G.2.1.1, 400, .inl u_bytes))]) (va_runV (As := [.int (256 : Int32), .int o1]) (rest := []) ⟨hx, hb, hml, hown, hts⟩ (c_X3_put l G h_t h_t_tokens h_t_places H.size t_size t_next t_token t_when t_then t_tokens t_places (256 : Int32) o1 o2 ho2) (cwV 2 hts gX3_start_X3_put rfl rfl rfl (by decide +kernel) ⟨Nat.le_of_ble_eq_true rfl, Nat.le_of_ble_eq_true rfl⟩) (pcA_preV hg hc hP hD hS hA [0, 1, 2] rfl (by decide) (q0 := 0) (ci := 3) rfl rfl rfl) rfl rfl hl.1 rfl (lv_room (Nat.le_of_ble_eq_true rfl)) dX3_start_111 ⟨Nat.zero_le _, Nat.zero_le _⟩) hP hD hS hA [0, 1, 2] [3, 4] rfl rfl (by decide) (by decide) (fun _ H locs _ hP hD hS => ?_)
    have hP : va_P G.1 vwCl [(h_t, .inr (3, [.ref h_t_tokens, .ref h_t_places, .int o2.1, .int t_next, .int t_token, .long t_when, .long t_then])), (h_t_tokens, .inl (G.2.1.2.1, 401, .inl o2.2.1)), (h_t_places, .inl (G.2.1.2.1, 401, .inl o2.2.2)), (h_u, .inr (6, [.ref h_u_bytes, .int u_size])), (h_u_bytes, .inl (G.2.1.1, 400, .inl u_bytes))] H := hP.sub [2, 3, 4, 0, 1] rfl
    have hD : va_D A [(h_t, .inr (3, [.ref h_t_tokens, .ref h_t_places, .int o2.1, .int t_next, .int t_token, .long t_when, .long t_then])), (h_t_tokens, .inl (G.2.1.2.1, 401, .inl o2.2.1)), (h_t_places, .inl (G.2.1.2.1, 401, .inl o2.2.2)), (h_u, .inr (6, [.ref h_u_bytes, .int u_size])), (h_u_bytes, .inl (G.2.1.1, 400, .inl u_bytes))] := hD.sub [2, 3, 4, 0, 1] (by decide) rfl
    refine lv_aload_n hx hb dX3_start_114 rfl (lv_at hl 0 rfl) ?_
    refine lv_iconst (v := (-1 : Int32)) hx hb dX3_start_115 (by decide) ?_
    refine va_put (D := G.1) (ci := 3) (v := .int (-1 : Int32)) (ty := .int) (C := RX3) (T := TX3) (N := 7) hx hb hts hiX3 tyX3 tyX3_ok nmX3 hown hg.1 hP hD hS 0 rfl rfl 3 (by decide) (hts (.fieldLink RX3 22 "AsARule$Reader" "next" "I") (by decide +kernel)) (fun _ h9 => h9) rfl (by decide +kernel) rfl rfl (Nat.le_of_ble_eq_true rfl) dX3_start_116 (fun H locs hP hD hS => ?_)
    have hP : va_P G.1 vwCl [(h_t, .inr (3, [.ref h_t_tokens, .ref h_t_places, .int o2.1, .int (-1 : Int32), .int t_token, .long t_when, .long t_then])), (h_t_tokens, .inl (G.2.1.2.1, 401, .inl o2.2.1)), (h_t_places, .inl (G.2.1.2.1, 401, .inl o2.2.2)), (h_u, .inr (6, [.ref h_u_bytes, .int u_size])), (h_u_bytes, .inl (G.2.1.1, 400, .inl u_bytes))] H := hP
    have hD : va_D A [(h_t, .inr (3, [.ref h_t_tokens, .ref h_t_places, .int o2.1, .int (-1 : Int32), .int t_token, .long t_when, .long t_then])), (h_t_tokens, .inl (G.2.1.2.1, 401, .inl o2.2.1)), (h_t_places, .inl (G.2.1.2.1, 401, .inl o2.2.2)), (h_u, .inr (6, [.ref h_u_bytes, .int u_size])), (h_u_bytes, .inl (G.2.1.1, 400, .inl u_bytes))] := hD
    refine lv_aload_n hx hb dX3_start_119 rfl (lv_at hl 0 rfl) ?_
    obtain ⟨o3, ho3, hf⟩ := bd_e hf
    refine af_v (wr := [(h_t_places, .inl (G.2.1.2.1, 401, .inl o2.2.2)), (h_u, .inr (6, [.ref h_u_bytes, .int u_size])), (h_u_bytes, .inl (G.2.1.1, 400, .inl u_bytes))]) (va_runV (As := []) (rest := []) ⟨hx, hb, hml, hown, hts⟩ (c_X3_take l G h_t h_t_tokens h_t_places H.size o2.1 (-1 : Int32) t_token t_when t_then o2.2.1 o3 ho3) (cwV 0 hts gX3_start_X3_take rfl rfl rfl (by decide +kernel) ⟨Nat.le_of_ble_eq_true rfl, Nat.le_of_ble_eq_true rfl⟩) (pcA_preV hg hc hP hD hS hA [0, 1] rfl (by decide) (q0 := 0) (ci := 3) rfl rfl rfl) rfl rfl hl.1 rfl (lv_room (Nat.le_of_ble_eq_true rfl)) dX3_start_120 ⟨Nat.zero_le _, Nat.zero_le _⟩) hP hD hS hA [0, 1] [2, 3, 4] rfl rfl (by decide) (by decide) (fun _ H locs _ hP hD hS => ?_)
    have hP : va_P G.1 vwCl [(h_t, .inr (3, [.ref h_t_tokens, .ref h_t_places, .int o2.1, .int o3.1, .int o3.2, .long t_when, .long t_then])), (h_t_tokens, .inl (G.2.1.2.1, 401, .inl o2.2.1)), (h_t_places, .inl (G.2.1.2.1, 401, .inl o2.2.2)), (h_u, .inr (6, [.ref h_u_bytes, .int u_size])), (h_u_bytes, .inl (G.2.1.1, 400, .inl u_bytes))] H := hP.sub [3, 4, 0, 1, 2] rfl
    have hD : va_D A [(h_t, .inr (3, [.ref h_t_tokens, .ref h_t_places, .int o2.1, .int o3.1, .int o3.2, .long t_when, .long t_then])), (h_t_tokens, .inl (G.2.1.2.1, 401, .inl o2.2.1)), (h_t_places, .inl (G.2.1.2.1, 401, .inl o2.2.2)), (h_u, .inr (6, [.ref h_u_bytes, .int u_size])), (h_u_bytes, .inl (G.2.1.1, 400, .inl u_bytes))] := hD.sub [3, 4, 0, 1, 2] (by decide) rfl
    rw [← Option.some.inj hf]
    exact rt_v (u := ()) hx hb hr hlocks hP hD trivial hS dX3_start_123
  have hw_88 : ∀ (t_next : Int32) (t_token : Int32) (k_9 : Int32 → (Nat → Int32) → (Nat → Int32) → Int32 → Int32 → Option (Int32 × Int32 × Int32 × (Nat → Int32) × (Nat → Int32))) (hk_9 : ∀ (t_size : Int32) (t_tokens : Nat → Int32) (t_places : Nat → Int32) (v2 : Int32) (v3 : Int32), k_9 t_size t_tokens t_places v2 v3 = some o → ∀ (H : Heap) (locs : List Loc), va_P G.1 vwCl [(h_t, .inr (3, [.ref h_t_tokens, .ref h_t_places, .int t_size, .int t_next, .int t_token, .long t_when, .long t_then])), (h_t_tokens, .inl (G.2.1.2.1, 401, .inl t_tokens)), (h_t_places, .inl (G.2.1.2.1, 401, .inl t_places)), (h_u, .inr (6, [.ref h_u_bytes, .int u_size])), (h_u_bytes, .inl (G.2.1.1, 400, .inl u_bytes))] H → va_D A [(h_t, .inr (3, [.ref h_t_tokens, .ref h_t_places, .int t_size, .int t_next, .int t_token, .long t_when, .long t_then])), (h_t_tokens, .inl (G.2.1.2.1, 401, .inl t_tokens)), (h_t_places, .inl (G.2.1.2.1, 401, .inl t_places)), (h_u, .inr (6, [.ref h_u_bytes, .int u_size])), (h_u_bytes, .inl (G.2.1.1, 400, .inl u_bytes))] → va_S A s.heap H locs → ∀ (ls : Array Slot), lv_has ls 6 [(0, .ref h_t), (1, .ref h_u), (2, .int v2), (3, .int v3)] → W p l e (headSpec wsX3_start ({ frames := 6, cells := 0, slots := 0, locals := 132 } : Room)).room s m ([.ref h_t, .ref h_u] : List Value).toArray below meth c H locs 0 0 (MQ below (qcV Unit G (fun _ => True) (fun _ => [(h_t, .inr (3, [.ref h_t_tokens, .ref h_t_places, .int o.1, .int o.2.1, .int o.2.2.1, .long t_when, .long t_then])), (h_t_tokens, .inl (G.2.1.2.1, 401, .inl o.2.2.2.1)), (h_t_places, .inl (G.2.1.2.1, 401, .inl o.2.2.2.2)), (h_u, .inr (6, [.ref h_u_bytes, .int u_size])), (h_u_bytes, .inl (G.2.1.1, 400, .inl u_bytes))]) A) ([.ref h_t, .ref h_u] : List Value).toArray s 0 0 A) (F0 m 9 ls [])) (t_size : Int32) (t_tokens : Nat → Int32) (t_places : Nat → Int32) (v2 : Int32) (v3 : Int32) (v5 : Int32) (s1 : Int32), jn_X3_start_88 u_size u_bytes t_next t_token k_9 t_size t_tokens t_places v2 v3 v5 s1 = some o → ∀ (H : Heap) (locs : List Loc), va_P G.1 vwCl [(h_t, .inr (3, [.ref h_t_tokens, .ref h_t_places, .int t_size, .int t_next, .int t_token, .long t_when, .long t_then])), (h_t_tokens, .inl (G.2.1.2.1, 401, .inl t_tokens)), (h_t_places, .inl (G.2.1.2.1, 401, .inl t_places)), (h_u, .inr (6, [.ref h_u_bytes, .int u_size])), (h_u_bytes, .inl (G.2.1.1, 400, .inl u_bytes))] H → va_D A [(h_t, .inr (3, [.ref h_t_tokens, .ref h_t_places, .int t_size, .int t_next, .int t_token, .long t_when, .long t_then])), (h_t_tokens, .inl (G.2.1.2.1, 401, .inl t_tokens)), (h_t_places, .inl (G.2.1.2.1, 401, .inl t_places)), (h_u, .inr (6, [.ref h_u_bytes, .int u_size])), (h_u_bytes, .inl (G.2.1.1, 400, .inl u_bytes))] → va_S A s.heap H locs → ∀ (ls : Array Slot), lv_has ls 6 [(0, .ref h_t), (1, .ref h_u), (2, .int v2), (3, .int v3), (5, .int v5)] → W p l e (headSpec wsX3_start ({ frames := 6, cells := 0, slots := 0, locals := 132 } : Room)).room s m ([.ref h_t, .ref h_u] : List Value).toArray below meth c H locs 0 0 (MQ below (qcV Unit G (fun _ => True) (fun _ => [(h_t, .inr (3, [.ref h_t_tokens, .ref h_t_places, .int o.1, .int o.2.1, .int o.2.2.1, .long t_when, .long t_then])), (h_t_tokens, .inl (G.2.1.2.1, 401, .inl o.2.2.2.1)), (h_t_places, .inl (G.2.1.2.1, 401, .inl o.2.2.2.2)), (h_u, .inr (6, [.ref h_u_bytes, .int u_size])), (h_u_bytes, .inl (G.2.1.1, 400, .inl u_bytes))]) A) ([.ref h_t, .ref h_u] : List Value).toArray s 0 0 A) (F0 m 88 ls [.int s1, .ref h_t]) := by
    intro t_next t_token k_9 hk_9 t_size t_tokens t_places v2 v3 v5 s1 hf H locs hP hD hS ls hl
    unfold jn_X3_start_88 at hf
    refine lv_iload_n hx hb dX3_start_88 rfl (lv_at hl 2 rfl) ?_
    obtain ⟨o4, ho4, hf⟩ := bd_e hf
    refine af_v (wr := [(h_u, .inr (6, [.ref h_u_bytes, .int u_size])), (h_u_bytes, .inl (G.2.1.1, 400, .inl u_bytes))]) (va_runV (As := [.int s1, .int v2]) (rest := []) ⟨hx, hb, hml, hown, hts⟩ (c_X3_put l G h_t h_t_tokens h_t_places H.size t_size t_next t_token t_when t_then t_tokens t_places s1 v2 o4 ho4) (cwV 2 hts gX3_start_X3_put rfl rfl rfl (by decide +kernel) ⟨Nat.le_of_ble_eq_true rfl, Nat.le_of_ble_eq_true rfl⟩) (pcA_preV hg hc hP hD hS hA [0, 1, 2] rfl (by decide) (q0 := 0) (ci := 3) rfl rfl rfl) rfl rfl hl.1 rfl (lv_room (Nat.le_of_ble_eq_true rfl)) dX3_start_89 ⟨Nat.zero_le _, Nat.zero_le _⟩) hP hD hS hA [0, 1, 2] [3, 4] rfl rfl (by decide) (by decide) (fun _ H locs _ hP hD hS => ?_)
    have hP : va_P G.1 vwCl [(h_t, .inr (3, [.ref h_t_tokens, .ref h_t_places, .int o4.1, .int t_next, .int t_token, .long t_when, .long t_then])), (h_t_tokens, .inl (G.2.1.2.1, 401, .inl o4.2.1)), (h_t_places, .inl (G.2.1.2.1, 401, .inl o4.2.2)), (h_u, .inr (6, [.ref h_u_bytes, .int u_size])), (h_u_bytes, .inl (G.2.1.1, 400, .inl u_bytes))] H := hP.sub [2, 3, 4, 0, 1] rfl
    have hD : va_D A [(h_t, .inr (3, [.ref h_t_tokens, .ref h_t_places, .int o4.1, .int t_next, .int t_token, .long t_when, .long t_then])), (h_t_tokens, .inl (G.2.1.2.1, 401, .inl o4.2.1)), (h_t_places, .inl (G.2.1.2.1, 401, .inl o4.2.2)), (h_u, .inr (6, [.ref h_u_bytes, .int u_size])), (h_u_bytes, .inl (G.2.1.1, 400, .inl u_bytes))] := hD.sub [2, 3, 4, 0, 1] (by decide) rfl
    refine lv_iload_n hx hb dX3_start_92 rfl (lv_at hl 2 rfl) ?_
    refine lv_iload hx hb dX3_start_93 (lv_at hl 4 rfl) ?_
    refine lv_iadd hx hb dX3_start_95 ?_
    refine lv_topi (fun x5 ex5 => ?_)
    have hf := lt_n hf x5 ex5
    refine lv_istore_n (lv' := [(2, .int x5), (0, .ref h_t), (1, .ref h_u), (3, .int v3), (5, .int v5)]) hx hb dX3_start_96 rfl hl (by decide) rfl (fun ls hl => ?_)
    obtain ⟨x6, ex6⟩ : ∃ y : Int32, y = (v3 + (1 : Int32)) := ⟨_, rfl⟩
    have hf := lt_n hf x6 ex6
    refine lv_iinc (v := x6) (lv' := [(3, .int x6), (2, .int x5), (0, .ref h_t), (1, .ref h_u), (5, .int v5)]) hx hb dX3_start_97 hl (k := 3) rfl (by rw [ex6]; rfl) (by decide) rfl (fun ls hl => ?_)
    refine lv_goto (tgt := 9) hx hb dX3_start_100 (by decide) ?_
    exact hk_9 o4.1 o4.2.1 o4.2.2 x5 x6 hf _ _ hP hD hS _ (lv_sub hl [2, 3, 1, 0] rfl)
  have hw_9 : ∀ (t_next : Int32) (t_token : Int32) (n : Nat) (t_size : Int32) (t_tokens : Nat → Int32) (t_places : Nat → Int32) (v2 : Int32) (v3 : Int32), lp_X3_start_9 u_size u_bytes t_next t_token n t_size t_tokens t_places v2 v3 = some o → ∀ (H : Heap) (locs : List Loc), va_P G.1 vwCl [(h_t, .inr (3, [.ref h_t_tokens, .ref h_t_places, .int t_size, .int t_next, .int t_token, .long t_when, .long t_then])), (h_t_tokens, .inl (G.2.1.2.1, 401, .inl t_tokens)), (h_t_places, .inl (G.2.1.2.1, 401, .inl t_places)), (h_u, .inr (6, [.ref h_u_bytes, .int u_size])), (h_u_bytes, .inl (G.2.1.1, 400, .inl u_bytes))] H → va_D A [(h_t, .inr (3, [.ref h_t_tokens, .ref h_t_places, .int t_size, .int t_next, .int t_token, .long t_when, .long t_then])), (h_t_tokens, .inl (G.2.1.2.1, 401, .inl t_tokens)), (h_t_places, .inl (G.2.1.2.1, 401, .inl t_places)), (h_u, .inr (6, [.ref h_u_bytes, .int u_size])), (h_u_bytes, .inl (G.2.1.1, 400, .inl u_bytes))] → va_S A s.heap H locs → ∀ (ls : Array Slot), lv_has ls 6 [(0, .ref h_t), (1, .ref h_u), (2, .int v2), (3, .int v3)] → W p l e (headSpec wsX3_start ({ frames := 6, cells := 0, slots := 0, locals := 132 } : Room)).room s m ([.ref h_t, .ref h_u] : List Value).toArray below meth c H locs 0 0 (MQ below (qcV Unit G (fun _ => True) (fun _ => [(h_t, .inr (3, [.ref h_t_tokens, .ref h_t_places, .int o.1, .int o.2.1, .int o.2.2.1, .long t_when, .long t_then])), (h_t_tokens, .inl (G.2.1.2.1, 401, .inl o.2.2.2.1)), (h_t_places, .inl (G.2.1.2.1, 401, .inl o.2.2.2.2)), (h_u, .inr (6, [.ref h_u_bytes, .int u_size])), (h_u_bytes, .inl (G.2.1.1, 400, .inl u_bytes))]) A) ([.ref h_t, .ref h_u] : List Value).toArray s 0 0 A) (F0 m 9 ls []) := by
    intro t_next t_token
    intro n
    induction n with
    | zero =>
      intro t_size t_tokens t_places v2 v3 hf
      exact absurd hf (by rw [lp_X3_start_9]; intro h; cases h)
    | succ n ih =>
      intro t_size t_tokens t_places v2 v3 hf H locs hP hD hS ls hl
      rw [lp_X3_start_9] at hf
      refine lv_iload_n hx hb dX3_start_9 rfl (lv_at hl 3 rfl) ?_
      refine lv_sipush (v := (400 : Int32)) hx hb dX3_start_10 (by decide) ?_
      refine lv_icmp_ge (tgt := 103) hx hb dX3_start_13 (by decide) (fun c7 => ?_) (fun c7 => ?_)
      · have hf := it_t c7 hf
        exact hw_103 t_size t_next t_token t_tokens t_places hf _ _ hP hD hS _ (lv_sub hl [0, 1] rfl)
      · have hf := it_f c7 hf
        refine lv_iload_n hx hb dX3_start_16 rfl (lv_at hl 2 rfl) ?_
        refine lv_aload_n hx hb dX3_start_17 rfl (lv_at hl 1 rfl) ?_
        obtain ⟨o8, ho8, hf⟩ := bd_e hf
        refine af_i (wr := [(h_t, .inr (3, [.ref h_t_tokens, .ref h_t_places, .int t_size, .int t_next, .int t_token, .long t_when, .long t_then])), (h_t_tokens, .inl (G.2.1.2.1, 401, .inl t_tokens)), (h_t_places, .inl (G.2.1.2.1, 401, .inl t_places)), (h_u_bytes, .inl (G.2.1.1, 400, .inl u_bytes))]) (va_runV (As := []) (rest := [.int v2]) ⟨hx, hb, hml, hown, hts⟩ (c_X6_size l G h_u h_u_bytes H.size u_size o8 ho8) (cwV 0 hts gX3_start_X6_size rfl rfl rfl (by decide +kernel) ⟨Nat.le_of_ble_eq_true rfl, Nat.le_of_ble_eq_true rfl⟩) (pcA_preV hg hc hP hD hS hA [3] rfl (by decide) (q0 := 3) (ci := 6) rfl rfl rfl) rfl rfl hl.1 rfl (lv_room (Nat.le_of_ble_eq_true rfl)) dX3_start_18 ⟨Nat.zero_le _, Nat.zero_le _⟩) hP hD hS hA [3] [0, 1, 2, 4] rfl rfl (by decide) (by decide) (fun _ H locs _ hP hD hS => ?_)
        have hP : va_P G.1 vwCl [(h_t, .inr (3, [.ref h_t_tokens, .ref h_t_places, .int t_size, .int t_next, .int t_token, .long t_when, .long t_then])), (h_t_tokens, .inl (G.2.1.2.1, 401, .inl t_tokens)), (h_t_places, .inl (G.2.1.2.1, 401, .inl t_places)), (h_u, .inr (6, [.ref h_u_bytes, .int u_size])), (h_u_bytes, .inl (G.2.1.1, 400, .inl u_bytes))] H := hP.sub [0, 1, 2, 4, 3] rfl
        have hD : va_D A [(h_t, .inr (3, [.ref h_t_tokens, .ref h_t_places, .int t_size, .int t_next, .int t_token, .long t_when, .long t_then])), (h_t_tokens, .inl (G.2.1.2.1, 401, .inl t_tokens)), (h_t_places, .inl (G.2.1.2.1, 401, .inl t_places)), (h_u, .inr (6, [.ref h_u_bytes, .int u_size])), (h_u_bytes, .inl (G.2.1.1, 400, .inl u_bytes))] := hD.sub [0, 1, 2, 4, 3] (by decide) rfl
        refine lv_icmp_ge (tgt := 103) hx hb dX3_start_21 (by decide) (fun c9 => ?_) (fun c9 => ?_)
        · have hf := it_t c9 hf
          exact hw_103 t_size t_next t_token t_tokens t_places hf _ _ hP hD hS _ (lv_sub hl [0, 1] rfl)
        · have hf := it_f c9 hf
          refine lv_aload_n hx hb dX3_start_24 rfl (lv_at hl 1 rfl) ?_
          refine lv_iload_n hx hb dX3_start_25 rfl (lv_at hl 2 rfl) ?_
          obtain ⟨o10, ho10, hf⟩ := bd_e hf
          refine af_i (wr := [(h_t, .inr (3, [.ref h_t_tokens, .ref h_t_places, .int t_size, .int t_next, .int t_token, .long t_when, .long t_then])), (h_t_tokens, .inl (G.2.1.2.1, 401, .inl t_tokens)), (h_t_places, .inl (G.2.1.2.1, 401, .inl t_places))]) (va_runV (As := [.int v2]) (rest := []) ⟨hx, hb, hml, hown, hts⟩ (c_X6_at l G h_u h_u_bytes H.size u_size u_bytes v2 o10 ho10) (cwV 1 hts gX3_start_X6_at rfl rfl rfl (by decide +kernel) ⟨Nat.le_of_ble_eq_true rfl, Nat.le_of_ble_eq_true rfl⟩) (pcA_preV hg hc hP hD hS hA [3, 4] rfl (by decide) (q0 := 3) (ci := 6) rfl rfl rfl) rfl rfl hl.1 rfl (lv_room (Nat.le_of_ble_eq_true rfl)) dX3_start_26 ⟨Nat.zero_le _, Nat.zero_le _⟩) hP hD hS hA [3, 4] [0, 1, 2] rfl rfl (by decide) (by decide) (fun _ H locs _ hP hD hS => ?_)
          have hP : va_P G.1 vwCl [(h_t, .inr (3, [.ref h_t_tokens, .ref h_t_places, .int t_size, .int t_next, .int t_token, .long t_when, .long t_then])), (h_t_tokens, .inl (G.2.1.2.1, 401, .inl t_tokens)), (h_t_places, .inl (G.2.1.2.1, 401, .inl t_places)), (h_u, .inr (6, [.ref h_u_bytes, .int u_size])), (h_u_bytes, .inl (G.2.1.1, 400, .inl u_bytes))] H := hP
          have hD : va_D A [(h_t, .inr (3, [.ref h_t_tokens, .ref h_t_places, .int t_size, .int t_next, .int t_token, .long t_when, .long t_then])), (h_t_tokens, .inl (G.2.1.2.1, 401, .inl t_tokens)), (h_t_places, .inl (G.2.1.2.1, 401, .inl t_places)), (h_u, .inr (6, [.ref h_u_bytes, .int u_size])), (h_u_bytes, .inl (G.2.1.1, 400, .inl u_bytes))] := hD
          refine lv_istore (lv' := [(4, .int o10), (0, .ref h_t), (1, .ref h_u), (2, .int v2), (3, .int v3)]) hx hb dX3_start_29 hl (by decide) rfl (fun ls hl => ?_)
          refine lv_iconst (v := (1 : Int32)) hx hb dX3_start_31 (by decide) ?_
          refine lv_istore (lv' := [(5, .int (1 : Int32)), (4, .int o10), (0, .ref h_t), (1, .ref h_u), (2, .int v2), (3, .int v3)]) hx hb dX3_start_32 hl (by decide) rfl (fun ls hl => ?_)
          refine lv_iload hx hb dX3_start_34 (lv_at hl 1 rfl) ?_
          obtain ⟨o11, ho11, hf⟩ := bd_e hf
          refine af0_i (va_runS (As := [.int o10]) (rest := []) ⟨hx, hb, hml, hown, hts⟩ (c_X3_isSmall l G H.size o10 o11 ho11) (va_cwS 1 hts gX3_start_X3_isSmall rfl rfl rfl (by decide +kernel) ⟨Nat.le_of_ble_eq_true rfl, Nat.le_of_ble_eq_true rfl⟩) (pcA_pre hg hc hP hD hS hA [] rfl rfl [.int o10]) rfl rfl hl.1 rfl (lv_room (Nat.le_of_ble_eq_true rfl)) dX3_start_36 ⟨Nat.zero_le _, Nat.zero_le _⟩) hP hD hS hA (fun H locs hP hD hS => ?_)
          refine lv_if_eq (tgt := 64) hx hb dX3_start_39 (by decide) (fun c12 => ?_) (fun c12 => ?_)
          · have hf := it_t c12 hf
            refine lv_iload hx hb dX3_start_64 (lv_at hl 1 rfl) ?_
            refine lv_bipush (v := (32 : Int32)) hx hb dX3_start_66 (by decide) ?_
            refine lv_icmp_eq (tgt := 92) hx hb dX3_start_68 (by decide) (fun c13 => ?_) (fun c13 => ?_)
            · have hf := it_t c13 hf
              refine lv_iload_n hx hb dX3_start_92 rfl (lv_at hl 4 rfl) ?_
              refine lv_iload hx hb dX3_start_93 (lv_at hl 0 rfl) ?_
              refine lv_iadd hx hb dX3_start_95 ?_
              refine lv_topi (fun x14 ex14 => ?_)
              have hf := lt_n hf x14 ex14
              refine lv_istore_n (lv' := [(2, .int x14), (5, .int (1 : Int32)), (4, .int o10), (0, .ref h_t), (1, .ref h_u), (3, .int v3)]) hx hb dX3_start_96 rfl hl (by decide) rfl (fun ls hl => ?_)
              obtain ⟨x15, ex15⟩ : ∃ y : Int32, y = (v3 + (1 : Int32)) := ⟨_, rfl⟩
              have hf := lt_n hf x15 ex15
              refine lv_iinc (v := x15) (lv' := [(3, .int x15), (2, .int x14), (5, .int (1 : Int32)), (4, .int o10), (0, .ref h_t), (1, .ref h_u)]) hx hb dX3_start_97 hl (k := 5) rfl (by rw [ex15]; rfl) (by decide) rfl (fun ls hl => ?_)
              refine lv_goto (tgt := 9) hx hb dX3_start_100 (by decide) ?_
              exact ih t_size t_tokens t_places x14 x15 hf _ _ hP hD hS _ (lv_sub hl [4, 5, 1, 0] rfl)
            · have hf := it_f c13 hf
              refine lv_aload_n hx hb dX3_start_71 rfl (lv_at hl 2 rfl) ?_
              refine lv_iload hx hb dX3_start_72 (lv_at hl 1 rfl) ?_
              obtain ⟨o16, ho16, hf⟩ := bd_e hf
              refine af0_i (va_runS (As := [.int o10]) (rest := [.ref h_t]) ⟨hx, hb, hml, hown, hts⟩ (c_X3_isSign l G H.size o10 o16 ho16) (va_cwS 1 hts gX3_start_X3_isSign rfl rfl rfl (by decide +kernel) ⟨Nat.le_of_ble_eq_true rfl, Nat.le_of_ble_eq_true rfl⟩) (pcA_pre hg hc hP hD hS hA [] rfl rfl [.int o10]) rfl rfl hl.1 rfl (lv_room (Nat.le_of_ble_eq_true rfl)) dX3_start_74 ⟨Nat.zero_le _, Nat.zero_le _⟩) hP hD hS hA (fun H locs hP hD hS => ?_)
              refine lv_if_eq (tgt := 85) hx hb dX3_start_77 (by decide) (fun c17 => ?_) (fun c17 => ?_)
              · have hf := it_t c17 hf
                refine lv_sipush (v := (257 : Int32)) hx hb dX3_start_85 (by decide) ?_
                exact hw_88 t_next t_token _ ih t_size t_tokens t_places v2 v3 (1 : Int32) (257 : Int32) hf _ _ hP hD hS _ (lv_sub hl [2, 3, 4, 5, 0] rfl)
              · have hf := it_f c17 hf
                refine lv_iload hx hb dX3_start_80 (lv_at hl 1 rfl) ?_
                refine lv_goto (tgt := 88) hx hb dX3_start_82 (by decide) ?_
                exact hw_88 t_next t_token _ ih t_size t_tokens t_places v2 v3 (1 : Int32) o10 hf _ _ hP hD hS _ (lv_sub hl [2, 3, 4, 5, 0] rfl)
          · have hf := it_f c12 hf
            refine lv_aload_n hx hb dX3_start_42 rfl (lv_at hl 3 rfl) ?_
            refine lv_iload_n hx hb dX3_start_43 rfl (lv_at hl 4 rfl) ?_
            obtain ⟨o18, ho18, hf⟩ := bd_e hf
            refine af_i (wr := [(h_t, .inr (3, [.ref h_t_tokens, .ref h_t_places, .int t_size, .int t_next, .int t_token, .long t_when, .long t_then])), (h_t_tokens, .inl (G.2.1.2.1, 401, .inl t_tokens)), (h_t_places, .inl (G.2.1.2.1, 401, .inl t_places))]) (va_runS (As := [.ref h_u, .int v2]) (rest := []) ⟨hx, hb, hml, hown, hts⟩ (c_X3_wordLength l G h_u h_u_bytes H.size u_size u_bytes v2 o18 ho18) (va_cwS 2 hts gX3_start_X3_wordLength rfl rfl rfl (by decide +kernel) ⟨Nat.le_of_ble_eq_true rfl, Nat.le_of_ble_eq_true rfl⟩) (pcA_pre hg hc hP hD hS hA [3, 4] rfl (by decide) [.ref h_u, .int v2]) rfl rfl hl.1 rfl (lv_room (Nat.le_of_ble_eq_true rfl)) dX3_start_44 ⟨Nat.zero_le _, Nat.zero_le _⟩) hP hD hS hA [3, 4] [0, 1, 2] rfl rfl (by decide) (by decide) (fun _ H locs _ hP hD hS => ?_)
            have hP : va_P G.1 vwCl [(h_t, .inr (3, [.ref h_t_tokens, .ref h_t_places, .int t_size, .int t_next, .int t_token, .long t_when, .long t_then])), (h_t_tokens, .inl (G.2.1.2.1, 401, .inl t_tokens)), (h_t_places, .inl (G.2.1.2.1, 401, .inl t_places)), (h_u, .inr (6, [.ref h_u_bytes, .int u_size])), (h_u_bytes, .inl (G.2.1.1, 400, .inl u_bytes))] H := hP
            have hD : va_D A [(h_t, .inr (3, [.ref h_t_tokens, .ref h_t_places, .int t_size, .int t_next, .int t_token, .long t_when, .long t_then])), (h_t_tokens, .inl (G.2.1.2.1, 401, .inl t_tokens)), (h_t_places, .inl (G.2.1.2.1, 401, .inl t_places)), (h_u, .inr (6, [.ref h_u_bytes, .int u_size])), (h_u_bytes, .inl (G.2.1.1, 400, .inl u_bytes))] := hD
            refine lv_istore (lv' := [(5, .int o18), (4, .int o10), (0, .ref h_t), (1, .ref h_u), (2, .int v2), (3, .int v3)]) hx hb dX3_start_47 hl (by decide) rfl (fun ls hl => ?_)
            refine lv_aload_n hx hb dX3_start_49 rfl (lv_at hl 2 rfl) ?_
            refine lv_aload_n hx hb dX3_start_50 rfl (lv_at hl 3 rfl) ?_
            refine lv_iload_n hx hb dX3_start_51 rfl (lv_at hl 4 rfl) ?_
            refine lv_iload hx hb dX3_start_52 (lv_at hl 0 rfl) ?_
            obtain ⟨o19, ho19, hf⟩ := bd_e hf
            refine af_i (wr := [(h_t, .inr (3, [.ref h_t_tokens, .ref h_t_places, .int t_size, .int t_next, .int t_token, .long t_when, .long t_then])), (h_t_tokens, .inl (G.2.1.2.1, 401, .inl t_tokens)), (h_t_places, .inl (G.2.1.2.1, 401, .inl t_places))]) (va_runS (As := [.ref h_u, .int v2, .int o18]) (rest := [.ref h_t]) ⟨hx, hb, hml, hown, hts⟩ (c_X3_wordToken l G h_u h_u_bytes H.size u_size u_bytes v2 o18 o19 ho19) (va_cwS 3 hts gX3_start_X3_wordToken rfl rfl rfl (by decide +kernel) ⟨Nat.le_of_ble_eq_true rfl, Nat.le_of_ble_eq_true rfl⟩) (pcA_pre hg hc hP hD hS hA [3, 4] rfl (by decide) [.ref h_u, .int v2, .int o18]) rfl rfl hl.1 rfl (lv_room (Nat.le_of_ble_eq_true rfl)) dX3_start_54 ⟨Nat.zero_le _, Nat.zero_le _⟩) hP hD hS hA [3, 4] [0, 1, 2] rfl rfl (by decide) (by decide) (fun _ H locs _ hP hD hS => ?_)
            have hP : va_P G.1 vwCl [(h_t, .inr (3, [.ref h_t_tokens, .ref h_t_places, .int t_size, .int t_next, .int t_token, .long t_when, .long t_then])), (h_t_tokens, .inl (G.2.1.2.1, 401, .inl t_tokens)), (h_t_places, .inl (G.2.1.2.1, 401, .inl t_places)), (h_u, .inr (6, [.ref h_u_bytes, .int u_size])), (h_u_bytes, .inl (G.2.1.1, 400, .inl u_bytes))] H := hP
            have hD : va_D A [(h_t, .inr (3, [.ref h_t_tokens, .ref h_t_places, .int t_size, .int t_next, .int t_token, .long t_when, .long t_then])), (h_t_tokens, .inl (G.2.1.2.1, 401, .inl t_tokens)), (h_t_places, .inl (G.2.1.2.1, 401, .inl t_places)), (h_u, .inr (6, [.ref h_u_bytes, .int u_size])), (h_u_bytes, .inl (G.2.1.1, 400, .inl u_bytes))] := hD
            refine lv_iload_n hx hb dX3_start_57 rfl (lv_at hl 4 rfl) ?_
            obtain ⟨o20, ho20, hf⟩ := bd_e hf
            refine af_v (wr := [(h_u, .inr (6, [.ref h_u_bytes, .int u_size])), (h_u_bytes, .inl (G.2.1.1, 400, .inl u_bytes))]) (va_runV (As := [.int o19, .int v2]) (rest := []) ⟨hx, hb, hml, hown, hts⟩ (c_X3_put l G h_t h_t_tokens h_t_places H.size t_size t_next t_token t_when t_then t_tokens t_places o19 v2 o20 ho20) (cwV 2 hts gX3_start_X3_put rfl rfl rfl (by decide +kernel) ⟨Nat.le_of_ble_eq_true rfl, Nat.le_of_ble_eq_true rfl⟩) (pcA_preV hg hc hP hD hS hA [0, 1, 2] rfl (by decide) (q0 := 0) (ci := 3) rfl rfl rfl) rfl rfl hl.1 rfl (lv_room (Nat.le_of_ble_eq_true rfl)) dX3_start_58 ⟨Nat.zero_le _, Nat.zero_le _⟩) hP hD hS hA [0, 1, 2] [3, 4] rfl rfl (by decide) (by decide) (fun _ H locs _ hP hD hS => ?_)
            have hP : va_P G.1 vwCl [(h_t, .inr (3, [.ref h_t_tokens, .ref h_t_places, .int o20.1, .int t_next, .int t_token, .long t_when, .long t_then])), (h_t_tokens, .inl (G.2.1.2.1, 401, .inl o20.2.1)), (h_t_places, .inl (G.2.1.2.1, 401, .inl o20.2.2)), (h_u, .inr (6, [.ref h_u_bytes, .int u_size])), (h_u_bytes, .inl (G.2.1.1, 400, .inl u_bytes))] H := hP.sub [2, 3, 4, 0, 1] rfl
            have hD : va_D A [(h_t, .inr (3, [.ref h_t_tokens, .ref h_t_places, .int o20.1, .int t_next, .int t_token, .long t_when, .long t_then])), (h_t_tokens, .inl (G.2.1.2.1, 401, .inl o20.2.1)), (h_t_places, .inl (G.2.1.2.1, 401, .inl o20.2.2)), (h_u, .inr (6, [.ref h_u_bytes, .int u_size])), (h_u_bytes, .inl (G.2.1.1, 400, .inl u_bytes))] := hD.sub [2, 3, 4, 0, 1] (by decide) rfl
            refine lv_goto (tgt := 92) hx hb dX3_start_61 (by decide) ?_
            refine lv_iload_n hx hb dX3_start_92 rfl (lv_at hl 4 rfl) ?_
            refine lv_iload hx hb dX3_start_93 (lv_at hl 0 rfl) ?_
            refine lv_iadd hx hb dX3_start_95 ?_
            refine lv_topi (fun x21 ex21 => ?_)
            have hf := lt_n hf x21 ex21
            refine lv_istore_n (lv' := [(2, .int x21), (5, .int o18), (4, .int o10), (0, .ref h_t), (1, .ref h_u), (3, .int v3)]) hx hb dX3_start_96 rfl hl (by decide) rfl (fun ls hl => ?_)
            obtain ⟨x22, ex22⟩ : ∃ y : Int32, y = (v3 + (1 : Int32)) := ⟨_, rfl⟩
            have hf := lt_n hf x22 ex22
            refine lv_iinc (v := x22) (lv' := [(3, .int x22), (2, .int x21), (5, .int o18), (4, .int o10), (0, .ref h_t), (1, .ref h_u)]) hx hb dX3_start_97 hl (k := 5) rfl (by rw [ex22]; rfl) (by decide) rfl (fun ls hl => ?_)
            refine lv_goto (tgt := 9) hx hb dX3_start_100 (by decide) ?_
            exact ih o20.1 o20.2.1 o20.2.2 x21 x22 hf _ _ hP hD hS _ (lv_sub hl [4, 5, 1, 0] rfl)
  unfold f_X3_start at hf
  refine en (fun H locs hP hD hS => ?_) hP hD
  refine lv_aload_n hx hb dX3_start_0 rfl (lv_at hl 0 rfl) ?_
  refine lv_iconst (v := (0 : Int32)) hx hb dX3_start_1 (by decide) ?_
  refine va_put (D := G.1) (ci := 3) (v := .int (0 : Int32)) (ty := .int) (C := RX3) (T := TX3) (N := 7) hx hb hts hiX3 tyX3 tyX3_ok nmX3 hown hg.1 hP hD hS 0 rfl rfl 2 (by decide) (hts (.fieldLink RX3 18 "AsARule$Reader" "size" "I") (by decide +kernel)) (fun _ h9 => h9) rfl (by decide +kernel) rfl rfl (Nat.le_of_ble_eq_true rfl) dX3_start_2 (fun H locs hP hD hS => ?_)
  have hP : va_P G.1 vwCl [(h_t, .inr (3, [.ref h_t_tokens, .ref h_t_places, .int (0 : Int32), .int t_next, .int t_token, .long t_when, .long t_then])), (h_t_tokens, .inl (G.2.1.2.1, 401, .inl t_tokens)), (h_t_places, .inl (G.2.1.2.1, 401, .inl t_places)), (h_u, .inr (6, [.ref h_u_bytes, .int u_size])), (h_u_bytes, .inl (G.2.1.1, 400, .inl u_bytes))] H := hP
  have hD : va_D A [(h_t, .inr (3, [.ref h_t_tokens, .ref h_t_places, .int (0 : Int32), .int t_next, .int t_token, .long t_when, .long t_then])), (h_t_tokens, .inl (G.2.1.2.1, 401, .inl t_tokens)), (h_t_places, .inl (G.2.1.2.1, 401, .inl t_places)), (h_u, .inr (6, [.ref h_u_bytes, .int u_size])), (h_u_bytes, .inl (G.2.1.1, 400, .inl u_bytes))] := hD
  refine lv_iconst (v := (0 : Int32)) hx hb dX3_start_5 (by decide) ?_
  refine lv_istore_n (lv' := [(2, .int (0 : Int32)), (0, .ref h_t), (1, .ref h_u)]) hx hb dX3_start_6 rfl hl (by decide) rfl (fun ls hl => ?_)
  refine lv_iconst (v := (0 : Int32)) hx hb dX3_start_7 (by decide) ?_
  refine lv_istore_n (lv' := [(3, .int (0 : Int32)), (2, .int (0 : Int32)), (0, .ref h_t), (1, .ref h_u)]) hx hb dX3_start_8 rfl hl (by decide) rfl (fun ls hl => ?_)
  exact hw_9 t_next t_token fu (0 : Int32) t_tokens t_places (0 : Int32) (0 : Int32) hf _ _ hP hD hS _ (lv_sub hl [2, 3, 1, 0] rfl)
-- method X3_readListed
def f_X3_readListed (t_size : Int32) (t_next : Int32) (t_token : Int32) (t_tokens : Nat → Int32) (u_most : Int32) (u_size : Int32) (u_kept : Nat → Int64) : Option (Int32 × Int32 × Int32 × (Nat → Int64)) :=
  bd (f_X5_isFull u_most u_size) (fun o1 => if o1 = (0 : Int32) then bd (f_X3_take t_size t_next t_token t_tokens) (fun o3 => bd (f_X3_saying (f_one 9) t_size o3.1 o3.2 t_tokens (0 : Int32)) (fun o4 => bd (f_X5_add u_most u_size u_kept o4.1) (fun o5 => bd (f_X3_expect t_size o4.2.1 o4.2.2 t_tokens (59 : Int32)) (fun o6 => some (o6.1, o6.2, o5.1, o5.2))))) else bd (f_X3_refuse t_token) (fun o7 => some (t_next, o7, u_size, u_kept)))
set_option maxHeartbeats 4000000 in
set_option maxRecDepth 100000 in
theorem c_X3_readListed (l : Launch) (G : GG) (h_t h_t_tokens h_t_places h_u h_u_kept : Nat) (sz : Nat) (t_size : Int32) (t_next : Int32) (t_token : Int32) (t_when : Int64) (t_then : Int64) (t_tokens : Nat → Int32) (u_most : Int32) (u_size : Int32) (u_kept : Nat → Int64)  (o : Int32 × Int32 × Int32 × (Nat → Int64)) (ho : f_X3_readListed t_size t_next t_token t_tokens u_most u_size u_kept = some o)  : Met l yX3_readListed wsX3_readListed ({ frames := 32, cells := 0, slots := 0, locals := 761 } : Room) (pcA G [.ref h_t, .ref h_u] [(h_t, .inr (3, [.ref h_t_tokens, .ref h_t_places, .int t_size, .int t_next, .int t_token, .long t_when, .long t_then])), (h_t_tokens, .inl (G.2.1.2.1, 401, .inl t_tokens)), (h_u, .inr (5, [.ref h_u_kept, .int u_most, .int u_size])), (h_u_kept, .inl (G.2.1.2.2, 9, .inr (.inl u_kept)))] sz) (qcV Unit G (fun _ => True) (fun _ => [(h_t, .inr (3, [.ref h_t_tokens, .ref h_t_places, .int t_size, .int o.1, .int o.2.1, .long t_when, .long t_then])), (h_t_tokens, .inl (G.2.1.2.1, 401, .inl t_tokens)), (h_u, .inr (5, [.ref h_u_kept, .int u_most, .int o.2.2.1])), (h_u_kept, .inl (G.2.1.2.2, 9, .inr (.inl o.2.2.2)))]) (va_A [(h_t, .inr (3, [.ref h_t_tokens, .ref h_t_places, .int t_size, .int t_next, .int t_token, .long t_when, .long t_then])), (h_t_tokens, .inl (G.2.1.2.1, 401, .inl t_tokens)), (h_u, .inr (5, [.ref h_u_kept, .int u_most, .int u_size])), (h_u_kept, .inl (G.2.1.2.2, 9, .inr (.inl u_kept)))] sz)) 0 0 (va_A [(h_t, .inr (3, [.ref h_t_tokens, .ref h_t_places, .int t_size, .int t_next, .int t_token, .long t_when, .long t_then])), (h_t_tokens, .inl (G.2.1.2.1, 401, .inl t_tokens)), (h_u, .inr (5, [.ref h_u_kept, .int u_most, .int u_size])), (h_u_kept, .inl (G.2.1.2.2, 9, .inr (.inl u_kept)))] sz) := by
  refine Met.ofW (cc := cX3_readListed) (maxL := 2) (ret := none) (by decide) rfl ?_
  intro p e s m args below meth c s₁ B hml hv
  obtain ⟨rfl, hsz, hP, hg, hD0, hc⟩ := hv
  have hx := B.exec
  have hb := B.bytes
  have hr := B.returns
  have hts := atoms_spec (ws := wsX3_readListed) B.pre
  have hown : s.vm.findClass RX3 = some m.cls := findClass_of_methodNamed B.named
  have hlocks := B.notSynchronized
  subst hsz
  have hD := hD0.self (sz := s.heap.size)
  generalize hAe : va_A [(h_t, .inr (3, [.ref h_t_tokens, .ref h_t_places, .int t_size, .int t_next, .int t_token, .long t_when, .long t_then])), (h_t_tokens, .inl (G.2.1.2.1, 401, .inl t_tokens)), (h_u, .inr (5, [.ref h_u_kept, .int u_most, .int u_size])), (h_u_kept, .inl (G.2.1.2.2, 9, .inr (.inl u_kept)))] s.heap.size = A at hD hc ⊢
  have hA : ∀ q : Nat, s.heap.size ≤ q → A q := fun q h => by rw [← hAe]; exact Or.inr h
  have hl := lv_entry ([.ref h_t, .ref h_u]) (n := 2) (Nat.le_of_ble_eq_true rfl)
  rw [lg_entry_eq]
  generalize (lg_sl ([.ref h_t, .ref h_u]) ++ List.replicate (2 - (lg_sl ([.ref h_t, .ref h_u])).length) Slot.unset).toArray = ls at hl ⊢
  have hl : lv_has ls 2 [(0, .ref h_t), (1, .ref h_u)] := hl
  have hf := ho
  unfold f_X3_readListed at hf
  refine en (fun H locs hP hD hS => ?_) hP hD
  refine lv_aload_n hx hb dX3_readListed_0 rfl (lv_at hl 1 rfl) ?_
  obtain ⟨o1, ho1, hf⟩ := bd_e hf
  refine af_i (wr := [(h_t, .inr (3, [.ref h_t_tokens, .ref h_t_places, .int t_size, .int t_next, .int t_token, .long t_when, .long t_then])), (h_t_tokens, .inl (G.2.1.2.1, 401, .inl t_tokens)), (h_u_kept, .inl (G.2.1.2.2, 9, .inr (.inl u_kept)))]) (va_runV (As := []) (rest := []) ⟨hx, hb, hml, hown, hts⟩ (c_X5_isFull l G h_u h_u_kept H.size u_most u_size o1 ho1) (cwV 0 hts gX3_readListed_X5_isFull rfl rfl rfl (by decide +kernel) ⟨Nat.le_of_ble_eq_true rfl, Nat.le_of_ble_eq_true rfl⟩) (pcA_preV hg hc hP hD hS hA [2] rfl (by decide) (q0 := 2) (ci := 5) rfl rfl rfl) rfl rfl hl.1 rfl (lv_room (Nat.le_of_ble_eq_true rfl)) dX3_readListed_1 ⟨Nat.zero_le _, Nat.zero_le _⟩) hP hD hS hA [2] [0, 1, 3] rfl rfl (by decide) (by decide) (fun _ H locs _ hP hD hS => ?_)
  have hP : va_P G.1 vwCl [(h_t, .inr (3, [.ref h_t_tokens, .ref h_t_places, .int t_size, .int t_next, .int t_token, .long t_when, .long t_then])), (h_t_tokens, .inl (G.2.1.2.1, 401, .inl t_tokens)), (h_u, .inr (5, [.ref h_u_kept, .int u_most, .int u_size])), (h_u_kept, .inl (G.2.1.2.2, 9, .inr (.inl u_kept)))] H := hP.sub [0, 1, 3, 2] rfl
  have hD : va_D A [(h_t, .inr (3, [.ref h_t_tokens, .ref h_t_places, .int t_size, .int t_next, .int t_token, .long t_when, .long t_then])), (h_t_tokens, .inl (G.2.1.2.1, 401, .inl t_tokens)), (h_u, .inr (5, [.ref h_u_kept, .int u_most, .int u_size])), (h_u_kept, .inl (G.2.1.2.2, 9, .inr (.inl u_kept)))] := hD.sub [0, 1, 3, 2] (by decide) rfl
  refine lv_if_eq (tgt := 12) hx hb dX3_readListed_4 (by decide) (fun c2 => ?_) (fun c2 => ?_)
  · have hf := it_t c2 hf
    refine lv_aload_n hx hb dX3_readListed_12 rfl (lv_at hl 0 rfl) ?_
    obtain ⟨o3, ho3, hf⟩ := bd_e hf
    refine af_v (wr := [(h_u, .inr (5, [.ref h_u_kept, .int u_most, .int u_size])), (h_u_kept, .inl (G.2.1.2.2, 9, .inr (.inl u_kept)))]) (va_runV (As := []) (rest := []) ⟨hx, hb, hml, hown, hts⟩ (c_X3_take l G h_t h_t_tokens h_t_places H.size t_size t_next t_token t_when t_then t_tokens o3 ho3) (cwV 0 hts gX3_readListed_X3_take rfl rfl rfl (by decide +kernel) ⟨Nat.le_of_ble_eq_true rfl, Nat.le_of_ble_eq_true rfl⟩) (pcA_preV hg hc hP hD hS hA [0, 1] rfl (by decide) (q0 := 0) (ci := 3) rfl rfl rfl) rfl rfl hl.1 rfl (lv_room (Nat.le_of_ble_eq_true rfl)) dX3_readListed_13 ⟨Nat.zero_le _, Nat.zero_le _⟩) hP hD hS hA [0, 1] [2, 3] rfl rfl (by decide) (by decide) (fun _ H locs _ hP hD hS => ?_)
    have hP : va_P G.1 vwCl [(h_t, .inr (3, [.ref h_t_tokens, .ref h_t_places, .int t_size, .int o3.1, .int o3.2, .long t_when, .long t_then])), (h_t_tokens, .inl (G.2.1.2.1, 401, .inl t_tokens)), (h_u, .inr (5, [.ref h_u_kept, .int u_most, .int u_size])), (h_u_kept, .inl (G.2.1.2.2, 9, .inr (.inl u_kept)))] H := hP.sub [2, 3, 0, 1] rfl
    have hD : va_D A [(h_t, .inr (3, [.ref h_t_tokens, .ref h_t_places, .int t_size, .int o3.1, .int o3.2, .long t_when, .long t_then])), (h_t_tokens, .inl (G.2.1.2.1, 401, .inl t_tokens)), (h_u, .inr (5, [.ref h_u_kept, .int u_most, .int u_size])), (h_u_kept, .inl (G.2.1.2.2, 9, .inr (.inl u_kept)))] := hD.sub [2, 3, 0, 1] (by decide) rfl
    refine lv_aload_n hx hb dX3_readListed_16 rfl (lv_at hl 1 rfl) ?_
    refine lv_aload_n hx hb dX3_readListed_17 rfl (lv_at hl 0 rfl) ?_
    refine lv_iconst (v := (0 : Int32)) hx hb dX3_readListed_18 (by decide) ?_
    obtain ⟨o4, ho4, hf⟩ := bd_e hf
    refine af_l (wr := [(h_u, .inr (5, [.ref h_u_kept, .int u_most, .int u_size])), (h_u_kept, .inl (G.2.1.2.2, 9, .inr (.inl u_kept)))]) (va_runV (As := [.int (0 : Int32)]) (rest := [.ref h_u]) ⟨hx, hb, hml, hown, hts⟩ (c_X3_saying l G 9 (f_one 9) (c_one l G 9) h_t h_t_tokens h_t_places H.size t_size o3.1 o3.2 t_when t_then t_tokens (0 : Int32) o4 ho4) (cwV 1 hts gX3_readListed_X3_saying rfl rfl rfl (by decide +kernel) ⟨Nat.le_of_ble_eq_true rfl, Nat.le_of_ble_eq_true rfl⟩) (pcA_preV hg hc hP hD hS hA [0, 1] rfl (by decide) (q0 := 0) (ci := 3) rfl rfl rfl) rfl rfl hl.1 rfl (lv_room (Nat.le_of_ble_eq_true rfl)) dX3_readListed_19 ⟨Nat.zero_le _, Nat.zero_le _⟩) hP hD hS hA [0, 1] [2, 3] rfl rfl (by decide) (by decide) (fun _ H locs _ hP hD hS => ?_)
    have hP : va_P G.1 vwCl [(h_t, .inr (3, [.ref h_t_tokens, .ref h_t_places, .int t_size, .int o4.2.1, .int o4.2.2, .long t_when, .long t_then])), (h_t_tokens, .inl (G.2.1.2.1, 401, .inl t_tokens)), (h_u, .inr (5, [.ref h_u_kept, .int u_most, .int u_size])), (h_u_kept, .inl (G.2.1.2.2, 9, .inr (.inl u_kept)))] H := hP.sub [2, 3, 0, 1] rfl
    have hD : va_D A [(h_t, .inr (3, [.ref h_t_tokens, .ref h_t_places, .int t_size, .int o4.2.1, .int o4.2.2, .long t_when, .long t_then])), (h_t_tokens, .inl (G.2.1.2.1, 401, .inl t_tokens)), (h_u, .inr (5, [.ref h_u_kept, .int u_most, .int u_size])), (h_u_kept, .inl (G.2.1.2.2, 9, .inr (.inl u_kept)))] := hD.sub [2, 3, 0, 1] (by decide) rfl
    obtain ⟨o5, ho5, hf⟩ := bd_e hf
    refine af_v (wr := [(h_t, .inr (3, [.ref h_t_tokens, .ref h_t_places, .int t_size, .int o4.2.1, .int o4.2.2, .long t_when, .long t_then])), (h_t_tokens, .inl (G.2.1.2.1, 401, .inl t_tokens))]) (va_runV (As := [.long o4.1]) (rest := []) ⟨hx, hb, hml, hown, hts⟩ (c_X5_add l G h_u h_u_kept H.size u_most u_size u_kept o4.1 o5 ho5) (cwV 1 hts gX3_readListed_X5_add rfl rfl rfl (by decide +kernel) ⟨Nat.le_of_ble_eq_true rfl, Nat.le_of_ble_eq_true rfl⟩) (pcA_preV hg hc hP hD hS hA [2, 3] rfl (by decide) (q0 := 2) (ci := 5) rfl rfl rfl) rfl rfl hl.1 rfl (lv_room (Nat.le_of_ble_eq_true rfl)) dX3_readListed_22 ⟨Nat.zero_le _, Nat.zero_le _⟩) hP hD hS hA [2, 3] [0, 1] rfl rfl (by decide) (by decide) (fun _ H locs _ hP hD hS => ?_)
    have hP : va_P G.1 vwCl [(h_t, .inr (3, [.ref h_t_tokens, .ref h_t_places, .int t_size, .int o4.2.1, .int o4.2.2, .long t_when, .long t_then])), (h_t_tokens, .inl (G.2.1.2.1, 401, .inl t_tokens)), (h_u, .inr (5, [.ref h_u_kept, .int u_most, .int o5.1])), (h_u_kept, .inl (G.2.1.2.2, 9, .inr (.inl o5.2)))] H := hP
    have hD : va_D A [(h_t, .inr (3, [.ref h_t_tokens, .ref h_t_places, .int t_size, .int o4.2.1, .int o4.2.2, .long t_when, .long t_then])), (h_t_tokens, .inl (G.2.1.2.1, 401, .inl t_tokens)), (h_u, .inr (5, [.ref h_u_kept, .int u_most, .int o5.1])), (h_u_kept, .inl (G.2.1.2.2, 9, .inr (.inl o5.2)))] := hD
    refine lv_aload_n hx hb dX3_readListed_25 rfl (lv_at hl 0 rfl) ?_
    refine lv_bipush (v := (59 : Int32)) hx hb dX3_readListed_26 (by decide) ?_
    obtain ⟨o6, ho6, hf⟩ := bd_e hf
    refine af_v (wr := [(h_u, .inr (5, [.ref h_u_kept, .int u_most, .int o5.1])), (h_u_kept, .inl (G.2.1.2.2, 9, .inr (.inl o5.2)))]) (va_runV (As := [.int (59 : Int32)]) (rest := []) ⟨hx, hb, hml, hown, hts⟩ (c_X3_expect l G h_t h_t_tokens h_t_places H.size t_size o4.2.1 o4.2.2 t_when t_then t_tokens (59 : Int32) o6 ho6) (cwV 1 hts gX3_readListed_X3_expect rfl rfl rfl (by decide +kernel) ⟨Nat.le_of_ble_eq_true rfl, Nat.le_of_ble_eq_true rfl⟩) (pcA_preV hg hc hP hD hS hA [0, 1] rfl (by decide) (q0 := 0) (ci := 3) rfl rfl rfl) rfl rfl hl.1 rfl (lv_room (Nat.le_of_ble_eq_true rfl)) dX3_readListed_28 ⟨Nat.zero_le _, Nat.zero_le _⟩) hP hD hS hA [0, 1] [2, 3] rfl rfl (by decide) (by decide) (fun _ H locs _ hP hD hS => ?_)
    have hP : va_P G.1 vwCl [(h_t, .inr (3, [.ref h_t_tokens, .ref h_t_places, .int t_size, .int o6.1, .int o6.2, .long t_when, .long t_then])), (h_t_tokens, .inl (G.2.1.2.1, 401, .inl t_tokens)), (h_u, .inr (5, [.ref h_u_kept, .int u_most, .int o5.1])), (h_u_kept, .inl (G.2.1.2.2, 9, .inr (.inl o5.2)))] H := hP.sub [2, 3, 0, 1] rfl
    have hD : va_D A [(h_t, .inr (3, [.ref h_t_tokens, .ref h_t_places, .int t_size, .int o6.1, .int o6.2, .long t_when, .long t_then])), (h_t_tokens, .inl (G.2.1.2.1, 401, .inl t_tokens)), (h_u, .inr (5, [.ref h_u_kept, .int u_most, .int o5.1])), (h_u_kept, .inl (G.2.1.2.2, 9, .inr (.inl o5.2)))] := hD.sub [2, 3, 0, 1] (by decide) rfl
    rw [← Option.some.inj hf]
    exact rt_v (u := ()) hx hb hr hlocks hP hD trivial hS dX3_readListed_31
  · have hf := it_f c2 hf
    refine lv_aload_n hx hb dX3_readListed_7 rfl (lv_at hl 0 rfl) ?_
    obtain ⟨o7, ho7, hf⟩ := bd_e hf
    refine af_v (wr := [(h_t_tokens, .inl (G.2.1.2.1, 401, .inl t_tokens)), (h_u, .inr (5, [.ref h_u_kept, .int u_most, .int u_size])), (h_u_kept, .inl (G.2.1.2.2, 9, .inr (.inl u_kept)))]) (va_runV (As := []) (rest := []) ⟨hx, hb, hml, hown, hts⟩ (c_X3_refuse l G h_t h_t_tokens h_t_places H.size t_size t_next t_token t_when t_then o7 ho7) (cwV 0 hts gX3_readListed_X3_refuse rfl rfl rfl (by decide +kernel) ⟨Nat.le_of_ble_eq_true rfl, Nat.le_of_ble_eq_true rfl⟩) (pcA_preV hg hc hP hD hS hA [0] rfl (by decide) (q0 := 0) (ci := 3) rfl rfl rfl) rfl rfl hl.1 rfl (lv_room (Nat.le_of_ble_eq_true rfl)) dX3_readListed_8 ⟨Nat.zero_le _, Nat.zero_le _⟩) hP hD hS hA [0] [1, 2, 3] rfl rfl (by decide) (by decide) (fun _ H locs _ hP hD hS => ?_)
    have hP : va_P G.1 vwCl [(h_t, .inr (3, [.ref h_t_tokens, .ref h_t_places, .int t_size, .int t_next, .int o7, .long t_when, .long t_then])), (h_t_tokens, .inl (G.2.1.2.1, 401, .inl t_tokens)), (h_u, .inr (5, [.ref h_u_kept, .int u_most, .int u_size])), (h_u_kept, .inl (G.2.1.2.2, 9, .inr (.inl u_kept)))] H := hP.sub [3, 0, 1, 2] rfl
    have hD : va_D A [(h_t, .inr (3, [.ref h_t_tokens, .ref h_t_places, .int t_size, .int t_next, .int o7, .long t_when, .long t_then])), (h_t_tokens, .inl (G.2.1.2.1, 401, .inl t_tokens)), (h_u, .inr (5, [.ref h_u_kept, .int u_most, .int u_size])), (h_u_kept, .inl (G.2.1.2.2, 9, .inr (.inl u_kept)))] := hD.sub [3, 0, 1, 2] (by decide) rfl
    rw [← Option.some.inj hf]
    exact rt_v (u := ()) hx hb hr hlocks hP hD trivial hS dX3_readListed_11
-- method X3_readRule
def f_X3_readRule (t_size : Int32) (t_next : Int32) (t_token : Int32) (t_tokens : Nat → Int32) (u_whens_most : Int32) (u_whens_size : Int32) (u_whens_kept : Nat → Int64) (u_thens_most : Int32) (u_thens_size : Int32) (u_thens_kept : Nat → Int64) : Option (Int32 × Int32 × Int32 × (Nat → Int64) × Int32 × (Nat → Int64)) :=
  bd (f_X4_isFull u_whens_most u_whens_size) (fun o1 => if o1 = (0 : Int32) then bd (f_X3_take t_size t_next t_token t_tokens) (fun o3 => bd (f_X3_saying (f_one 9) t_size o3.1 o3.2 t_tokens (0 : Int32)) (fun o4 => bd (f_X3_expect t_size o4.2.1 o4.2.2 t_tokens (260 : Int32)) (fun o5 => bd (f_X3_saying (f_one 9) t_size o5.1 o5.2 t_tokens (0 : Int32)) (fun o6 => bd (f_X4_add u_whens_most u_whens_size u_whens_kept u_thens_most u_thens_size u_thens_kept o4.1 o6.1) (fun o7 => bd (f_X3_expect t_size o6.2.1 o6.2.2 t_tokens (59 : Int32)) (fun o8 => some (o8.1, o8.2, o7.1, o7.2.1, o7.2.2.1, o7.2.2.2))))))) else bd (f_X3_refuse t_token) (fun o9 => some (t_next, o9, u_whens_size, u_whens_kept, u_thens_size, u_thens_kept)))
set_option maxHeartbeats 4000000 in
set_option maxRecDepth 100000 in
theorem c_X3_readRule (l : Launch) (G : GG) (h_t h_t_tokens h_t_places h_u h_u_whens h_u_thens h_u_grades h_u_whens_kept h_u_thens_kept : Nat) (sz : Nat) (t_size : Int32) (t_next : Int32) (t_token : Int32) (t_when : Int64) (t_then : Int64) (t_tokens : Nat → Int32) (u_quarrel : Int32) (u_whens_most : Int32) (u_whens_size : Int32) (u_whens_kept : Nat → Int64) (u_thens_most : Int32) (u_thens_size : Int32) (u_thens_kept : Nat → Int64)  (o : Int32 × Int32 × Int32 × (Nat → Int64) × Int32 × (Nat → Int64)) (ho : f_X3_readRule t_size t_next t_token t_tokens u_whens_most u_whens_size u_whens_kept u_thens_most u_thens_size u_thens_kept = some o)  : Met l yX3_readRule wsX3_readRule ({ frames := 32, cells := 0, slots := 0, locals := 761 } : Room) (pcA G [.ref h_t, .ref h_u] [(h_t, .inr (3, [.ref h_t_tokens, .ref h_t_places, .int t_size, .int t_next, .int t_token, .long t_when, .long t_then])), (h_t_tokens, .inl (G.2.1.2.1, 401, .inl t_tokens)), (h_u, .inr (4, [.ref h_u_whens, .ref h_u_thens, .ref h_u_grades, .int u_quarrel])), (h_u_whens, .inr (5, [.ref h_u_whens_kept, .int u_whens_most, .int u_whens_size])), (h_u_whens_kept, .inl (G.2.1.2.2, 9, .inr (.inl u_whens_kept))), (h_u_thens, .inr (5, [.ref h_u_thens_kept, .int u_thens_most, .int u_thens_size])), (h_u_thens_kept, .inl (G.2.1.2.2, 9, .inr (.inl u_thens_kept)))] sz) (qcV Unit G (fun _ => True) (fun _ => [(h_t, .inr (3, [.ref h_t_tokens, .ref h_t_places, .int t_size, .int o.1, .int o.2.1, .long t_when, .long t_then])), (h_t_tokens, .inl (G.2.1.2.1, 401, .inl t_tokens)), (h_u, .inr (4, [.ref h_u_whens, .ref h_u_thens, .ref h_u_grades, .int u_quarrel])), (h_u_whens, .inr (5, [.ref h_u_whens_kept, .int u_whens_most, .int o.2.2.1])), (h_u_whens_kept, .inl (G.2.1.2.2, 9, .inr (.inl o.2.2.2.1))), (h_u_thens, .inr (5, [.ref h_u_thens_kept, .int u_thens_most, .int o.2.2.2.2.1])), (h_u_thens_kept, .inl (G.2.1.2.2, 9, .inr (.inl o.2.2.2.2.2)))]) (va_A [(h_t, .inr (3, [.ref h_t_tokens, .ref h_t_places, .int t_size, .int t_next, .int t_token, .long t_when, .long t_then])), (h_t_tokens, .inl (G.2.1.2.1, 401, .inl t_tokens)), (h_u, .inr (4, [.ref h_u_whens, .ref h_u_thens, .ref h_u_grades, .int u_quarrel])), (h_u_whens, .inr (5, [.ref h_u_whens_kept, .int u_whens_most, .int u_whens_size])), (h_u_whens_kept, .inl (G.2.1.2.2, 9, .inr (.inl u_whens_kept))), (h_u_thens, .inr (5, [.ref h_u_thens_kept, .int u_thens_most, .int u_thens_size])), (h_u_thens_kept, .inl (G.2.1.2.2, 9, .inr (.inl u_thens_kept)))] sz)) 0 0 (va_A [(h_t, .inr (3, [.ref h_t_tokens, .ref h_t_places, .int t_size, .int t_next, .int t_token, .long t_when, .long t_then])), (h_t_tokens, .inl (G.2.1.2.1, 401, .inl t_tokens)), (h_u, .inr (4, [.ref h_u_whens, .ref h_u_thens, .ref h_u_grades, .int u_quarrel])), (h_u_whens, .inr (5, [.ref h_u_whens_kept, .int u_whens_most, .int u_whens_size])), (h_u_whens_kept, .inl (G.2.1.2.2, 9, .inr (.inl u_whens_kept))), (h_u_thens, .inr (5, [.ref h_u_thens_kept, .int u_thens_most, .int u_thens_size])), (h_u_thens_kept, .inl (G.2.1.2.2, 9, .inr (.inl u_thens_kept)))] sz) := by
  refine Met.ofW (cc := cX3_readRule) (maxL := 4) (ret := none) (by decide) rfl ?_
  intro p e s m args below meth c s₁ B hml hv
  obtain ⟨rfl, hsz, hP, hg, hD0, hc⟩ := hv
  have hx := B.exec
  have hb := B.bytes
  have hr := B.returns
  have hts := atoms_spec (ws := wsX3_readRule) B.pre
  have hown : s.vm.findClass RX3 = some m.cls := findClass_of_methodNamed B.named
  have hlocks := B.notSynchronized
  subst hsz
  have hD := hD0.self (sz := s.heap.size)
  generalize hAe : va_A [(h_t, .inr (3, [.ref h_t_tokens, .ref h_t_places, .int t_size, .int t_next, .int t_token, .long t_when, .long t_then])), (h_t_tokens, .inl (G.2.1.2.1, 401, .inl t_tokens)), (h_u, .inr (4, [.ref h_u_whens, .ref h_u_thens, .ref h_u_grades, .int u_quarrel])), (h_u_whens, .inr (5, [.ref h_u_whens_kept, .int u_whens_most, .int u_whens_size])), (h_u_whens_kept, .inl (G.2.1.2.2, 9, .inr (.inl u_whens_kept))), (h_u_thens, .inr (5, [.ref h_u_thens_kept, .int u_thens_most, .int u_thens_size])), (h_u_thens_kept, .inl (G.2.1.2.2, 9, .inr (.inl u_thens_kept)))] s.heap.size = A at hD hc ⊢
  have hA : ∀ q : Nat, s.heap.size ≤ q → A q := fun q h => by rw [← hAe]; exact Or.inr h
  have hl := lv_entry ([.ref h_t, .ref h_u]) (n := 4) (Nat.le_of_ble_eq_true rfl)
  rw [lg_entry_eq]
  generalize (lg_sl ([.ref h_t, .ref h_u]) ++ List.replicate (4 - (lg_sl ([.ref h_t, .ref h_u])).length) Slot.unset).toArray = ls at hl ⊢
  have hl : lv_has ls 4 [(0, .ref h_t), (1, .ref h_u)] := hl
  have hf := ho
  unfold f_X3_readRule at hf
  refine en (fun H locs hP hD hS => ?_) hP hD
  refine lv_aload_n hx hb dX3_readRule_0 rfl (lv_at hl 1 rfl) ?_
  obtain ⟨o1, ho1, hf⟩ := bd_e hf
  refine af_i (wr := [(h_t, .inr (3, [.ref h_t_tokens, .ref h_t_places, .int t_size, .int t_next, .int t_token, .long t_when, .long t_then])), (h_t_tokens, .inl (G.2.1.2.1, 401, .inl t_tokens)), (h_u_whens_kept, .inl (G.2.1.2.2, 9, .inr (.inl u_whens_kept))), (h_u_thens, .inr (5, [.ref h_u_thens_kept, .int u_thens_most, .int u_thens_size])), (h_u_thens_kept, .inl (G.2.1.2.2, 9, .inr (.inl u_thens_kept)))]) (va_runV (As := []) (rest := []) ⟨hx, hb, hml, hown, hts⟩ (c_X4_isFull l G h_u h_u_whens h_u_thens h_u_grades h_u_whens_kept H.size u_quarrel u_whens_most u_whens_size o1 ho1) (cwV 0 hts gX3_readRule_X4_isFull rfl rfl rfl (by decide +kernel) ⟨Nat.le_of_ble_eq_true rfl, Nat.le_of_ble_eq_true rfl⟩) (pcA_preV hg hc hP hD hS hA [2, 3] rfl (by decide) (q0 := 2) (ci := 4) rfl rfl rfl) rfl rfl hl.1 rfl (lv_room (Nat.le_of_ble_eq_true rfl)) dX3_readRule_1 ⟨Nat.zero_le _, Nat.zero_le _⟩) hP hD hS hA [2, 3] [0, 1, 4, 5, 6] rfl rfl (by decide) (by decide) (fun _ H locs _ hP hD hS => ?_)
  have hP : va_P G.1 vwCl [(h_t, .inr (3, [.ref h_t_tokens, .ref h_t_places, .int t_size, .int t_next, .int t_token, .long t_when, .long t_then])), (h_t_tokens, .inl (G.2.1.2.1, 401, .inl t_tokens)), (h_u, .inr (4, [.ref h_u_whens, .ref h_u_thens, .ref h_u_grades, .int u_quarrel])), (h_u_whens, .inr (5, [.ref h_u_whens_kept, .int u_whens_most, .int u_whens_size])), (h_u_whens_kept, .inl (G.2.1.2.2, 9, .inr (.inl u_whens_kept))), (h_u_thens, .inr (5, [.ref h_u_thens_kept, .int u_thens_most, .int u_thens_size])), (h_u_thens_kept, .inl (G.2.1.2.2, 9, .inr (.inl u_thens_kept)))] H := hP.sub [0, 1, 5, 6, 2, 3, 4] rfl
  have hD : va_D A [(h_t, .inr (3, [.ref h_t_tokens, .ref h_t_places, .int t_size, .int t_next, .int t_token, .long t_when, .long t_then])), (h_t_tokens, .inl (G.2.1.2.1, 401, .inl t_tokens)), (h_u, .inr (4, [.ref h_u_whens, .ref h_u_thens, .ref h_u_grades, .int u_quarrel])), (h_u_whens, .inr (5, [.ref h_u_whens_kept, .int u_whens_most, .int u_whens_size])), (h_u_whens_kept, .inl (G.2.1.2.2, 9, .inr (.inl u_whens_kept))), (h_u_thens, .inr (5, [.ref h_u_thens_kept, .int u_thens_most, .int u_thens_size])), (h_u_thens_kept, .inl (G.2.1.2.2, 9, .inr (.inl u_thens_kept)))] := hD.sub [0, 1, 5, 6, 2, 3, 4] (by decide) rfl
  refine lv_if_eq (tgt := 12) hx hb dX3_readRule_4 (by decide) (fun c2 => ?_) (fun c2 => ?_)
  · have hf := it_t c2 hf
    refine lv_aload_n hx hb dX3_readRule_12 rfl (lv_at hl 0 rfl) ?_
    obtain ⟨o3, ho3, hf⟩ := bd_e hf
    refine af_v (wr := [(h_u, .inr (4, [.ref h_u_whens, .ref h_u_thens, .ref h_u_grades, .int u_quarrel])), (h_u_whens, .inr (5, [.ref h_u_whens_kept, .int u_whens_most, .int u_whens_size])), (h_u_whens_kept, .inl (G.2.1.2.2, 9, .inr (.inl u_whens_kept))), (h_u_thens, .inr (5, [.ref h_u_thens_kept, .int u_thens_most, .int u_thens_size])), (h_u_thens_kept, .inl (G.2.1.2.2, 9, .inr (.inl u_thens_kept)))]) (va_runV (As := []) (rest := []) ⟨hx, hb, hml, hown, hts⟩ (c_X3_take l G h_t h_t_tokens h_t_places H.size t_size t_next t_token t_when t_then t_tokens o3 ho3) (cwV 0 hts gX3_readRule_X3_take rfl rfl rfl (by decide +kernel) ⟨Nat.le_of_ble_eq_true rfl, Nat.le_of_ble_eq_true rfl⟩) (pcA_preV hg hc hP hD hS hA [0, 1] rfl (by decide) (q0 := 0) (ci := 3) rfl rfl rfl) rfl rfl hl.1 rfl (lv_room (Nat.le_of_ble_eq_true rfl)) dX3_readRule_13 ⟨Nat.zero_le _, Nat.zero_le _⟩) hP hD hS hA [0, 1] [2, 3, 4, 5, 6] rfl rfl (by decide) (by decide) (fun _ H locs _ hP hD hS => ?_)
    have hP : va_P G.1 vwCl [(h_t, .inr (3, [.ref h_t_tokens, .ref h_t_places, .int t_size, .int o3.1, .int o3.2, .long t_when, .long t_then])), (h_t_tokens, .inl (G.2.1.2.1, 401, .inl t_tokens)), (h_u, .inr (4, [.ref h_u_whens, .ref h_u_thens, .ref h_u_grades, .int u_quarrel])), (h_u_whens, .inr (5, [.ref h_u_whens_kept, .int u_whens_most, .int u_whens_size])), (h_u_whens_kept, .inl (G.2.1.2.2, 9, .inr (.inl u_whens_kept))), (h_u_thens, .inr (5, [.ref h_u_thens_kept, .int u_thens_most, .int u_thens_size])), (h_u_thens_kept, .inl (G.2.1.2.2, 9, .inr (.inl u_thens_kept)))] H := hP.sub [5, 6, 0, 1, 2, 3, 4] rfl
    have hD : va_D A [(h_t, .inr (3, [.ref h_t_tokens, .ref h_t_places, .int t_size, .int o3.1, .int o3.2, .long t_when, .long t_then])), (h_t_tokens, .inl (G.2.1.2.1, 401, .inl t_tokens)), (h_u, .inr (4, [.ref h_u_whens, .ref h_u_thens, .ref h_u_grades, .int u_quarrel])), (h_u_whens, .inr (5, [.ref h_u_whens_kept, .int u_whens_most, .int u_whens_size])), (h_u_whens_kept, .inl (G.2.1.2.2, 9, .inr (.inl u_whens_kept))), (h_u_thens, .inr (5, [.ref h_u_thens_kept, .int u_thens_most, .int u_thens_size])), (h_u_thens_kept, .inl (G.2.1.2.2, 9, .inr (.inl u_thens_kept)))] := hD.sub [5, 6, 0, 1, 2, 3, 4] (by decide) rfl
    refine lv_aload_n hx hb dX3_readRule_16 rfl (lv_at hl 0 rfl) ?_
    refine lv_iconst (v := (0 : Int32)) hx hb dX3_readRule_17 (by decide) ?_
    obtain ⟨o4, ho4, hf⟩ := bd_e hf
    refine af_l (wr := [(h_u, .inr (4, [.ref h_u_whens, .ref h_u_thens, .ref h_u_grades, .int u_quarrel])), (h_u_whens, .inr (5, [.ref h_u_whens_kept, .int u_whens_most, .int u_whens_size])), (h_u_whens_kept, .inl (G.2.1.2.2, 9, .inr (.inl u_whens_kept))), (h_u_thens, .inr (5, [.ref h_u_thens_kept, .int u_thens_most, .int u_thens_size])), (h_u_thens_kept, .inl (G.2.1.2.2, 9, .inr (.inl u_thens_kept)))]) (va_runV (As := [.int (0 : Int32)]) (rest := []) ⟨hx, hb, hml, hown, hts⟩ (c_X3_saying l G 9 (f_one 9) (c_one l G 9) h_t h_t_tokens h_t_places H.size t_size o3.1 o3.2 t_when t_then t_tokens (0 : Int32) o4 ho4) (cwV 1 hts gX3_readRule_X3_saying rfl rfl rfl (by decide +kernel) ⟨Nat.le_of_ble_eq_true rfl, Nat.le_of_ble_eq_true rfl⟩) (pcA_preV hg hc hP hD hS hA [0, 1] rfl (by decide) (q0 := 0) (ci := 3) rfl rfl rfl) rfl rfl hl.1 rfl (lv_room (Nat.le_of_ble_eq_true rfl)) dX3_readRule_18 ⟨Nat.zero_le _, Nat.zero_le _⟩) hP hD hS hA [0, 1] [2, 3, 4, 5, 6] rfl rfl (by decide) (by decide) (fun _ H locs _ hP hD hS => ?_)
    have hP : va_P G.1 vwCl [(h_t, .inr (3, [.ref h_t_tokens, .ref h_t_places, .int t_size, .int o4.2.1, .int o4.2.2, .long t_when, .long t_then])), (h_t_tokens, .inl (G.2.1.2.1, 401, .inl t_tokens)), (h_u, .inr (4, [.ref h_u_whens, .ref h_u_thens, .ref h_u_grades, .int u_quarrel])), (h_u_whens, .inr (5, [.ref h_u_whens_kept, .int u_whens_most, .int u_whens_size])), (h_u_whens_kept, .inl (G.2.1.2.2, 9, .inr (.inl u_whens_kept))), (h_u_thens, .inr (5, [.ref h_u_thens_kept, .int u_thens_most, .int u_thens_size])), (h_u_thens_kept, .inl (G.2.1.2.2, 9, .inr (.inl u_thens_kept)))] H := hP.sub [5, 6, 0, 1, 2, 3, 4] rfl
    have hD : va_D A [(h_t, .inr (3, [.ref h_t_tokens, .ref h_t_places, .int t_size, .int o4.2.1, .int o4.2.2, .long t_when, .long t_then])), (h_t_tokens, .inl (G.2.1.2.1, 401, .inl t_tokens)), (h_u, .inr (4, [.ref h_u_whens, .ref h_u_thens, .ref h_u_grades, .int u_quarrel])), (h_u_whens, .inr (5, [.ref h_u_whens_kept, .int u_whens_most, .int u_whens_size])), (h_u_whens_kept, .inl (G.2.1.2.2, 9, .inr (.inl u_whens_kept))), (h_u_thens, .inr (5, [.ref h_u_thens_kept, .int u_thens_most, .int u_thens_size])), (h_u_thens_kept, .inl (G.2.1.2.2, 9, .inr (.inl u_thens_kept)))] := hD.sub [5, 6, 0, 1, 2, 3, 4] (by decide) rfl
    refine lv_lstore_n (lv' := [(2, .long o4.1), (0, .ref h_t), (1, .ref h_u)]) hx hb dX3_readRule_21 rfl hl (by decide) rfl (fun ls hl => ?_)
    refine lv_aload_n hx hb dX3_readRule_22 rfl (lv_at hl 1 rfl) ?_
    refine lv_sipush (v := (260 : Int32)) hx hb dX3_readRule_23 (by decide) ?_
    obtain ⟨o5, ho5, hf⟩ := bd_e hf
    refine af_v (wr := [(h_u, .inr (4, [.ref h_u_whens, .ref h_u_thens, .ref h_u_grades, .int u_quarrel])), (h_u_whens, .inr (5, [.ref h_u_whens_kept, .int u_whens_most, .int u_whens_size])), (h_u_whens_kept, .inl (G.2.1.2.2, 9, .inr (.inl u_whens_kept))), (h_u_thens, .inr (5, [.ref h_u_thens_kept, .int u_thens_most, .int u_thens_size])), (h_u_thens_kept, .inl (G.2.1.2.2, 9, .inr (.inl u_thens_kept)))]) (va_runV (As := [.int (260 : Int32)]) (rest := []) ⟨hx, hb, hml, hown, hts⟩ (c_X3_expect l G h_t h_t_tokens h_t_places H.size t_size o4.2.1 o4.2.2 t_when t_then t_tokens (260 : Int32) o5 ho5) (cwV 1 hts gX3_readRule_X3_expect rfl rfl rfl (by decide +kernel) ⟨Nat.le_of_ble_eq_true rfl, Nat.le_of_ble_eq_true rfl⟩) (pcA_preV hg hc hP hD hS hA [0, 1] rfl (by decide) (q0 := 0) (ci := 3) rfl rfl rfl) rfl rfl hl.1 rfl (lv_room (Nat.le_of_ble_eq_true rfl)) dX3_readRule_26 ⟨Nat.zero_le _, Nat.zero_le _⟩) hP hD hS hA [0, 1] [2, 3, 4, 5, 6] rfl rfl (by decide) (by decide) (fun _ H locs _ hP hD hS => ?_)
    have hP : va_P G.1 vwCl [(h_t, .inr (3, [.ref h_t_tokens, .ref h_t_places, .int t_size, .int o5.1, .int o5.2, .long t_when, .long t_then])), (h_t_tokens, .inl (G.2.1.2.1, 401, .inl t_tokens)), (h_u, .inr (4, [.ref h_u_whens, .ref h_u_thens, .ref h_u_grades, .int u_quarrel])), (h_u_whens, .inr (5, [.ref h_u_whens_kept, .int u_whens_most, .int u_whens_size])), (h_u_whens_kept, .inl (G.2.1.2.2, 9, .inr (.inl u_whens_kept))), (h_u_thens, .inr (5, [.ref h_u_thens_kept, .int u_thens_most, .int u_thens_size])), (h_u_thens_kept, .inl (G.2.1.2.2, 9, .inr (.inl u_thens_kept)))] H := hP.sub [5, 6, 0, 1, 2, 3, 4] rfl
    have hD : va_D A [(h_t, .inr (3, [.ref h_t_tokens, .ref h_t_places, .int t_size, .int o5.1, .int o5.2, .long t_when, .long t_then])), (h_t_tokens, .inl (G.2.1.2.1, 401, .inl t_tokens)), (h_u, .inr (4, [.ref h_u_whens, .ref h_u_thens, .ref h_u_grades, .int u_quarrel])), (h_u_whens, .inr (5, [.ref h_u_whens_kept, .int u_whens_most, .int u_whens_size])), (h_u_whens_kept, .inl (G.2.1.2.2, 9, .inr (.inl u_whens_kept))), (h_u_thens, .inr (5, [.ref h_u_thens_kept, .int u_thens_most, .int u_thens_size])), (h_u_thens_kept, .inl (G.2.1.2.2, 9, .inr (.inl u_thens_kept)))] := hD.sub [5, 6, 0, 1, 2, 3, 4] (by decide) rfl
    refine lv_aload_n hx hb dX3_readRule_29 rfl (lv_at hl 2 rfl) ?_
    refine lv_lload_n hx hb dX3_readRule_30 rfl (lv_at hl 0 rfl) ?_
    refine lv_aload_n hx hb dX3_readRule_31 rfl (lv_at hl 1 rfl) ?_
    refine lv_iconst (v := (0 : Int32)) hx hb dX3_readRule_32 (by decide) ?_
    obtain ⟨o6, ho6, hf⟩ := bd_e hf
    refine af_l (wr := [(h_u, .inr (4, [.ref h_u_whens, .ref h_u_thens, .ref h_u_grades, .int u_quarrel])), (h_u_whens, .inr (5, [.ref h_u_whens_kept, .int u_whens_most, .int u_whens_size])), (h_u_whens_kept, .inl (G.2.1.2.2, 9, .inr (.inl u_whens_kept))), (h_u_thens, .inr (5, [.ref h_u_thens_kept, .int u_thens_most, .int u_thens_size])), (h_u_thens_kept, .inl (G.2.1.2.2, 9, .inr (.inl u_thens_kept)))]) (va_runV (As := [.int (0 : Int32)]) (rest := [.long o4.1, .ref h_u]) ⟨hx, hb, hml, hown, hts⟩ (c_X3_saying l G 9 (f_one 9) (c_one l G 9) h_t h_t_tokens h_t_places H.size t_size o5.1 o5.2 t_when t_then t_tokens (0 : Int32) o6 ho6) (cwV 1 hts gX3_readRule_X3_saying rfl rfl rfl (by decide +kernel) ⟨Nat.le_of_ble_eq_true rfl, Nat.le_of_ble_eq_true rfl⟩) (pcA_preV hg hc hP hD hS hA [0, 1] rfl (by decide) (q0 := 0) (ci := 3) rfl rfl rfl) rfl rfl hl.1 rfl (lv_room (Nat.le_of_ble_eq_true rfl)) dX3_readRule_33 ⟨Nat.zero_le _, Nat.zero_le _⟩) hP hD hS hA [0, 1] [2, 3, 4, 5, 6] rfl rfl (by decide) (by decide) (fun _ H locs _ hP hD hS => ?_)
    have hP : va_P G.1 vwCl [(h_t, .inr (3, [.ref h_t_tokens, .ref h_t_places, .int t_size, .int o6.2.1, .int o6.2.2, .long t_when, .long t_then])), (h_t_tokens, .inl (G.2.1.2.1, 401, .inl t_tokens)), (h_u, .inr (4, [.ref h_u_whens, .ref h_u_thens, .ref h_u_grades, .int u_quarrel])), (h_u_whens, .inr (5, [.ref h_u_whens_kept, .int u_whens_most, .int u_whens_size])), (h_u_whens_kept, .inl (G.2.1.2.2, 9, .inr (.inl u_whens_kept))), (h_u_thens, .inr (5, [.ref h_u_thens_kept, .int u_thens_most, .int u_thens_size])), (h_u_thens_kept, .inl (G.2.1.2.2, 9, .inr (.inl u_thens_kept)))] H := hP.sub [5, 6, 0, 1, 2, 3, 4] rfl
    have hD : va_D A [(h_t, .inr (3, [.ref h_t_tokens, .ref h_t_places, .int t_size, .int o6.2.1, .int o6.2.2, .long t_when, .long t_then])), (h_t_tokens, .inl (G.2.1.2.1, 401, .inl t_tokens)), (h_u, .inr (4, [.ref h_u_whens, .ref h_u_thens, .ref h_u_grades, .int u_quarrel])), (h_u_whens, .inr (5, [.ref h_u_whens_kept, .int u_whens_most, .int u_whens_size])), (h_u_whens_kept, .inl (G.2.1.2.2, 9, .inr (.inl u_whens_kept))), (h_u_thens, .inr (5, [.ref h_u_thens_kept, .int u_thens_most, .int u_thens_size])), (h_u_thens_kept, .inl (G.2.1.2.2, 9, .inr (.inl u_thens_kept)))] := hD.sub [5, 6, 0, 1, 2, 3, 4] (by decide) rfl
    obtain ⟨o7, ho7, hf⟩ := bd_e hf
    refine af_v (wr := [(h_t, .inr (3, [.ref h_t_tokens, .ref h_t_places, .int t_size, .int o6.2.1, .int o6.2.2, .long t_when, .long t_then])), (h_t_tokens, .inl (G.2.1.2.1, 401, .inl t_tokens))]) (va_runV (As := [.long o4.1, .long o6.1]) (rest := []) ⟨hx, hb, hml, hown, hts⟩ (c_X4_add l G h_u h_u_whens h_u_thens h_u_grades h_u_whens_kept h_u_thens_kept H.size u_quarrel u_whens_most u_whens_size u_whens_kept u_thens_most u_thens_size u_thens_kept o4.1 o6.1 o7 ho7) (cwV 2 hts gX3_readRule_X4_add rfl rfl rfl (by decide +kernel) ⟨Nat.le_of_ble_eq_true rfl, Nat.le_of_ble_eq_true rfl⟩) (pcA_preV hg hc hP hD hS hA [2, 3, 4, 5, 6] rfl (by decide) (q0 := 2) (ci := 4) rfl rfl rfl) rfl rfl hl.1 rfl (lv_room (Nat.le_of_ble_eq_true rfl)) dX3_readRule_36 ⟨Nat.zero_le _, Nat.zero_le _⟩) hP hD hS hA [2, 3, 4, 5, 6] [0, 1] rfl rfl (by decide) (by decide) (fun _ H locs _ hP hD hS => ?_)
    have hP : va_P G.1 vwCl [(h_t, .inr (3, [.ref h_t_tokens, .ref h_t_places, .int t_size, .int o6.2.1, .int o6.2.2, .long t_when, .long t_then])), (h_t_tokens, .inl (G.2.1.2.1, 401, .inl t_tokens)), (h_u, .inr (4, [.ref h_u_whens, .ref h_u_thens, .ref h_u_grades, .int u_quarrel])), (h_u_whens, .inr (5, [.ref h_u_whens_kept, .int u_whens_most, .int o7.1])), (h_u_whens_kept, .inl (G.2.1.2.2, 9, .inr (.inl o7.2.1))), (h_u_thens, .inr (5, [.ref h_u_thens_kept, .int u_thens_most, .int o7.2.2.1])), (h_u_thens_kept, .inl (G.2.1.2.2, 9, .inr (.inl o7.2.2.2)))] H := hP
    have hD : va_D A [(h_t, .inr (3, [.ref h_t_tokens, .ref h_t_places, .int t_size, .int o6.2.1, .int o6.2.2, .long t_when, .long t_then])), (h_t_tokens, .inl (G.2.1.2.1, 401, .inl t_tokens)), (h_u, .inr (4, [.ref h_u_whens, .ref h_u_thens, .ref h_u_grades, .int u_quarrel])), (h_u_whens, .inr (5, [.ref h_u_whens_kept, .int u_whens_most, .int o7.1])), (h_u_whens_kept, .inl (G.2.1.2.2, 9, .inr (.inl o7.2.1))), (h_u_thens, .inr (5, [.ref h_u_thens_kept, .int u_thens_most, .int o7.2.2.1])), (h_u_thens_kept, .inl (G.2.1.2.2, 9, .inr (.inl o7.2.2.2)))] := hD
    refine lv_aload_n hx hb dX3_readRule_39 rfl (lv_at hl 1 rfl) ?_
    refine lv_bipush (v := (59 : Int32)) hx hb dX3_readRule_40 (by decide) ?_
    obtain ⟨o8, ho8, hf⟩ := bd_e hf
    refine af_v (wr := [(h_u, .inr (4, [.ref h_u_whens, .ref h_u_thens, .ref h_u_grades, .int u_quarrel])), (h_u_whens, .inr (5, [.ref h_u_whens_kept, .int u_whens_most, .int o7.1])), (h_u_whens_kept, .inl (G.2.1.2.2, 9, .inr (.inl o7.2.1))), (h_u_thens, .inr (5, [.ref h_u_thens_kept, .int u_thens_most, .int o7.2.2.1])), (h_u_thens_kept, .inl (G.2.1.2.2, 9, .inr (.inl o7.2.2.2)))]) (va_runV (As := [.int (59 : Int32)]) (rest := []) ⟨hx, hb, hml, hown, hts⟩ (c_X3_expect l G h_t h_t_tokens h_t_places H.size t_size o6.2.1 o6.2.2 t_when t_then t_tokens (59 : Int32) o8 ho8) (cwV 1 hts gX3_readRule_X3_expect rfl rfl rfl (by decide +kernel) ⟨Nat.le_of_ble_eq_true rfl, Nat.le_of_ble_eq_true rfl⟩) (pcA_preV hg hc hP hD hS hA [0, 1] rfl (by decide) (q0 := 0) (ci := 3) rfl rfl rfl) rfl rfl hl.1 rfl (lv_room (Nat.le_of_ble_eq_true rfl)) dX3_readRule_42 ⟨Nat.zero_le _, Nat.zero_le _⟩) hP hD hS hA [0, 1] [2, 3, 4, 5, 6] rfl rfl (by decide) (by decide) (fun _ H locs _ hP hD hS => ?_)
    have hP : va_P G.1 vwCl [(h_t, .inr (3, [.ref h_t_tokens, .ref h_t_places, .int t_size, .int o8.1, .int o8.2, .long t_when, .long t_then])), (h_t_tokens, .inl (G.2.1.2.1, 401, .inl t_tokens)), (h_u, .inr (4, [.ref h_u_whens, .ref h_u_thens, .ref h_u_grades, .int u_quarrel])), (h_u_whens, .inr (5, [.ref h_u_whens_kept, .int u_whens_most, .int o7.1])), (h_u_whens_kept, .inl (G.2.1.2.2, 9, .inr (.inl o7.2.1))), (h_u_thens, .inr (5, [.ref h_u_thens_kept, .int u_thens_most, .int o7.2.2.1])), (h_u_thens_kept, .inl (G.2.1.2.2, 9, .inr (.inl o7.2.2.2)))] H := hP.sub [5, 6, 0, 1, 2, 3, 4] rfl
    have hD : va_D A [(h_t, .inr (3, [.ref h_t_tokens, .ref h_t_places, .int t_size, .int o8.1, .int o8.2, .long t_when, .long t_then])), (h_t_tokens, .inl (G.2.1.2.1, 401, .inl t_tokens)), (h_u, .inr (4, [.ref h_u_whens, .ref h_u_thens, .ref h_u_grades, .int u_quarrel])), (h_u_whens, .inr (5, [.ref h_u_whens_kept, .int u_whens_most, .int o7.1])), (h_u_whens_kept, .inl (G.2.1.2.2, 9, .inr (.inl o7.2.1))), (h_u_thens, .inr (5, [.ref h_u_thens_kept, .int u_thens_most, .int o7.2.2.1])), (h_u_thens_kept, .inl (G.2.1.2.2, 9, .inr (.inl o7.2.2.2)))] := hD.sub [5, 6, 0, 1, 2, 3, 4] (by decide) rfl
    rw [← Option.some.inj hf]
    exact rt_v (u := ()) hx hb hr hlocks hP hD trivial hS dX3_readRule_45
  · have hf := it_f c2 hf
    refine lv_aload_n hx hb dX3_readRule_7 rfl (lv_at hl 0 rfl) ?_
    obtain ⟨o9, ho9, hf⟩ := bd_e hf
    refine af_v (wr := [(h_t_tokens, .inl (G.2.1.2.1, 401, .inl t_tokens)), (h_u, .inr (4, [.ref h_u_whens, .ref h_u_thens, .ref h_u_grades, .int u_quarrel])), (h_u_whens, .inr (5, [.ref h_u_whens_kept, .int u_whens_most, .int u_whens_size])), (h_u_whens_kept, .inl (G.2.1.2.2, 9, .inr (.inl u_whens_kept))), (h_u_thens, .inr (5, [.ref h_u_thens_kept, .int u_thens_most, .int u_thens_size])), (h_u_thens_kept, .inl (G.2.1.2.2, 9, .inr (.inl u_thens_kept)))]) (va_runV (As := []) (rest := []) ⟨hx, hb, hml, hown, hts⟩ (c_X3_refuse l G h_t h_t_tokens h_t_places H.size t_size t_next t_token t_when t_then o9 ho9) (cwV 0 hts gX3_readRule_X3_refuse rfl rfl rfl (by decide +kernel) ⟨Nat.le_of_ble_eq_true rfl, Nat.le_of_ble_eq_true rfl⟩) (pcA_preV hg hc hP hD hS hA [0] rfl (by decide) (q0 := 0) (ci := 3) rfl rfl rfl) rfl rfl hl.1 rfl (lv_room (Nat.le_of_ble_eq_true rfl)) dX3_readRule_8 ⟨Nat.zero_le _, Nat.zero_le _⟩) hP hD hS hA [0] [1, 2, 3, 4, 5, 6] rfl rfl (by decide) (by decide) (fun _ H locs _ hP hD hS => ?_)
    have hP : va_P G.1 vwCl [(h_t, .inr (3, [.ref h_t_tokens, .ref h_t_places, .int t_size, .int t_next, .int o9, .long t_when, .long t_then])), (h_t_tokens, .inl (G.2.1.2.1, 401, .inl t_tokens)), (h_u, .inr (4, [.ref h_u_whens, .ref h_u_thens, .ref h_u_grades, .int u_quarrel])), (h_u_whens, .inr (5, [.ref h_u_whens_kept, .int u_whens_most, .int u_whens_size])), (h_u_whens_kept, .inl (G.2.1.2.2, 9, .inr (.inl u_whens_kept))), (h_u_thens, .inr (5, [.ref h_u_thens_kept, .int u_thens_most, .int u_thens_size])), (h_u_thens_kept, .inl (G.2.1.2.2, 9, .inr (.inl u_thens_kept)))] H := hP.sub [6, 0, 1, 2, 3, 4, 5] rfl
    have hD : va_D A [(h_t, .inr (3, [.ref h_t_tokens, .ref h_t_places, .int t_size, .int t_next, .int o9, .long t_when, .long t_then])), (h_t_tokens, .inl (G.2.1.2.1, 401, .inl t_tokens)), (h_u, .inr (4, [.ref h_u_whens, .ref h_u_thens, .ref h_u_grades, .int u_quarrel])), (h_u_whens, .inr (5, [.ref h_u_whens_kept, .int u_whens_most, .int u_whens_size])), (h_u_whens_kept, .inl (G.2.1.2.2, 9, .inr (.inl u_whens_kept))), (h_u_thens, .inr (5, [.ref h_u_thens_kept, .int u_thens_most, .int u_thens_size])), (h_u_thens_kept, .inl (G.2.1.2.2, 9, .inr (.inl u_thens_kept)))] := hD.sub [6, 0, 1, 2, 3, 4, 5] (by decide) rfl
    rw [← Option.some.inj hf]
    exact rt_v (u := ()) hx hb hr hlocks hP hD trivial hS dX3_readRule_11
-- method X3_readItems
def lp_X3_readItems_6 (t_size : Int32) (t_tokens : Nat → Int32) (u_always_most : Int32) (u_rules_whens_most : Int32) (u_rules_thens_most : Int32) (u_facts_most : Int32) (u_guesses_most : Int32) : Nat → Int32 → Int32 → Int32 → (Nat → Int64) → Int32 → (Nat → Int64) → Int32 → (Nat → Int64) → Int32 → (Nat → Int64) → Int32 → (Nat → Int64) → Int32 → Option (Int32 × Int32 × Int32 × (Nat → Int64) × Int32 × (Nat → Int64) × Int32 × (Nat → Int64) × Int32 × (Nat → Int64) × Int32 × (Nat → Int64))
  | 0, _, _, _, _, _, _, _, _, _, _, _, _, _ => none
  | n + 1, t_next, t_token, u_always_size, u_always_kept, u_rules_whens_size, u_rules_whens_kept, u_rules_thens_size, u_rules_thens_kept, u_facts_size, u_facts_kept, u_guesses_size, u_guesses_kept, v2 => if (400 : Int32) ≤ v2 then some (t_next, t_token, u_always_size, u_always_kept, u_rules_whens_size, u_rules_whens_kept, u_rules_thens_size, u_rules_thens_kept, u_facts_size, u_facts_kept, u_guesses_size, u_guesses_kept) else if t_token = (256 : Int32) then some (t_next, t_token, u_always_size, u_always_kept, u_rules_whens_size, u_rules_whens_kept, u_rules_thens_size, u_rules_thens_kept, u_facts_size, u_facts_kept, u_guesses_size, u_guesses_kept) else if t_token = (257 : Int32) then some (t_next, t_token, u_always_size, u_always_kept, u_rules_whens_size, u_rules_whens_kept, u_rules_thens_size, u_rules_thens_kept, u_facts_size, u_facts_kept, u_guesses_size, u_guesses_kept) else if t_token = (258 : Int32) then bd (f_X3_readListed t_size t_next t_token t_tokens u_always_most u_always_size u_always_kept) (fun o5 => lt (v2 + (1 : Int32)) (fun x6 => lp_X3_readItems_6 t_size t_tokens u_always_most u_rules_whens_most u_rules_thens_most u_facts_most u_guesses_most n o5.1 o5.2.1 o5.2.2.1 o5.2.2.2 u_rules_whens_size u_rules_whens_kept u_rules_thens_size u_rules_thens_kept u_facts_size u_facts_kept u_guesses_size u_guesses_kept x6)) else if t_token = (259 : Int32) then bd (f_X3_readRule t_size t_next t_token t_tokens u_rules_whens_most u_rules_whens_size u_rules_whens_kept u_rules_thens_most u_rules_thens_size u_rules_thens_kept) (fun o8 => lt (v2 + (1 : Int32)) (fun x9 => lp_X3_readItems_6 t_size t_tokens u_always_most u_rules_whens_most u_rules_thens_most u_facts_most u_guesses_most n o8.1 o8.2.1 u_always_size u_always_kept o8.2.2.1 o8.2.2.2.1 o8.2.2.2.2.1 o8.2.2.2.2.2 u_facts_size u_facts_kept u_guesses_size u_guesses_kept x9)) else if t_token = (260 : Int32) then bd (f_X3_refuse t_token) (fun o11 => lt (v2 + (1 : Int32)) (fun x12 => lp_X3_readItems_6 t_size t_tokens u_always_most u_rules_whens_most u_rules_thens_most u_facts_most u_guesses_most n t_next o11 u_always_size u_always_kept u_rules_whens_size u_rules_whens_kept u_rules_thens_size u_rules_thens_kept u_facts_size u_facts_kept u_guesses_size u_guesses_kept x12)) else if t_token = (261 : Int32) then bd (f_X3_readListed t_size t_next t_token t_tokens u_facts_most u_facts_size u_facts_kept) (fun o14 => lt (v2 + (1 : Int32)) (fun x15 => lp_X3_readItems_6 t_size t_tokens u_always_most u_rules_whens_most u_rules_thens_most u_facts_most u_guesses_most n o14.1 o14.2.1 u_always_size u_always_kept u_rules_whens_size u_rules_whens_kept u_rules_thens_size u_rules_thens_kept o14.2.2.1 o14.2.2.2 u_guesses_size u_guesses_kept x15)) else if t_token = (262 : Int32) then bd (f_X3_readListed t_size t_next t_token t_tokens u_guesses_most u_guesses_size u_guesses_kept) (fun o17 => lt (v2 + (1 : Int32)) (fun x18 => lp_X3_readItems_6 t_size t_tokens u_always_most u_rules_whens_most u_rules_thens_most u_facts_most u_guesses_most n o17.1 o17.2.1 u_always_size u_always_kept u_rules_whens_size u_rules_whens_kept u_rules_thens_size u_rules_thens_kept u_facts_size u_facts_kept o17.2.2.1 o17.2.2.2 x18)) else bd (f_X3_refuse t_token) (fun o19 => lt (v2 + (1 : Int32)) (fun x20 => lp_X3_readItems_6 t_size t_tokens u_always_most u_rules_whens_most u_rules_thens_most u_facts_most u_guesses_most n t_next o19 u_always_size u_always_kept u_rules_whens_size u_rules_whens_kept u_rules_thens_size u_rules_thens_kept u_facts_size u_facts_kept u_guesses_size u_guesses_kept x20))
def f_X3_readItems (t_size : Int32) (t_next : Int32) (t_token : Int32) (t_tokens : Nat → Int32) (u_always_most : Int32) (u_always_size : Int32) (u_always_kept : Nat → Int64) (u_rules_whens_most : Int32) (u_rules_whens_size : Int32) (u_rules_whens_kept : Nat → Int64) (u_rules_thens_most : Int32) (u_rules_thens_size : Int32) (u_rules_thens_kept : Nat → Int64) (u_facts_most : Int32) (u_facts_size : Int32) (u_facts_kept : Nat → Int64) (u_guesses_most : Int32) (u_guesses_size : Int32) (u_guesses_kept : Nat → Int64) : Option (Int32 × Int32 × Int32 × (Nat → Int64) × Int32 × (Nat → Int64) × Int32 × (Nat → Int64) × Int32 × (Nat → Int64) × Int32 × (Nat → Int64)) :=
  bd (f_X2_empty u_always_size u_rules_whens_size u_rules_thens_size u_facts_size u_guesses_size) (fun o21 => lp_X3_readItems_6 t_size t_tokens u_always_most u_rules_whens_most u_rules_thens_most u_facts_most u_guesses_most fu t_next t_token o21.1 u_always_kept o21.2.1 u_rules_whens_kept o21.2.2.1 u_rules_thens_kept o21.2.2.2.1 u_facts_kept o21.2.2.2.2 u_guesses_kept (0 : Int32))
set_option maxHeartbeats 4000000 in
set_option maxRecDepth 100000 in
theorem c_X3_readItems (l : Launch) (G : GG) (h_t h_t_tokens h_t_places h_u h_u_always h_u_rules h_u_facts h_u_guesses h_u_always_kept h_u_rules_whens h_u_rules_thens h_u_rules_grades h_u_rules_whens_kept h_u_rules_thens_kept h_u_facts_kept h_u_guesses_kept : Nat) (sz : Nat) (t_size : Int32) (t_next : Int32) (t_token : Int32) (t_when : Int64) (t_then : Int64) (t_tokens : Nat → Int32) (u_there : Int64) (u_ground : Int64) (u_always_most : Int32) (u_always_size : Int32) (u_always_kept : Nat → Int64) (u_rules_quarrel : Int32) (u_rules_whens_most : Int32) (u_rules_whens_size : Int32) (u_rules_whens_kept : Nat → Int64) (u_rules_thens_most : Int32) (u_rules_thens_size : Int32) (u_rules_thens_kept : Nat → Int64) (u_facts_most : Int32) (u_facts_size : Int32) (u_facts_kept : Nat → Int64) (u_guesses_most : Int32) (u_guesses_size : Int32) (u_guesses_kept : Nat → Int64)  (o : Int32 × Int32 × Int32 × (Nat → Int64) × Int32 × (Nat → Int64) × Int32 × (Nat → Int64) × Int32 × (Nat → Int64) × Int32 × (Nat → Int64)) (ho : f_X3_readItems t_size t_next t_token t_tokens u_always_most u_always_size u_always_kept u_rules_whens_most u_rules_whens_size u_rules_whens_kept u_rules_thens_most u_rules_thens_size u_rules_thens_kept u_facts_most u_facts_size u_facts_kept u_guesses_most u_guesses_size u_guesses_kept = some o)  : Met l yX3_readItems wsX3_readItems ({ frames := 33, cells := 0, slots := 0, locals := 784 } : Room) (pcA G [.ref h_t, .ref h_u] [(h_t, .inr (3, [.ref h_t_tokens, .ref h_t_places, .int t_size, .int t_next, .int t_token, .long t_when, .long t_then])), (h_t_tokens, .inl (G.2.1.2.1, 401, .inl t_tokens)), (h_u, .inr (2, [.ref h_u_always, .ref h_u_rules, .ref h_u_facts, .ref h_u_guesses, .long u_there, .long u_ground])), (h_u_always, .inr (5, [.ref h_u_always_kept, .int u_always_most, .int u_always_size])), (h_u_always_kept, .inl (G.2.1.2.2, 9, .inr (.inl u_always_kept))), (h_u_rules, .inr (4, [.ref h_u_rules_whens, .ref h_u_rules_thens, .ref h_u_rules_grades, .int u_rules_quarrel])), (h_u_rules_whens, .inr (5, [.ref h_u_rules_whens_kept, .int u_rules_whens_most, .int u_rules_whens_size])), (h_u_rules_whens_kept, .inl (G.2.1.2.2, 9, .inr (.inl u_rules_whens_kept))), (h_u_rules_thens, .inr (5, [.ref h_u_rules_thens_kept, .int u_rules_thens_most, .int u_rules_thens_size])), (h_u_rules_thens_kept, .inl (G.2.1.2.2, 9, .inr (.inl u_rules_thens_kept))), (h_u_facts, .inr (5, [.ref h_u_facts_kept, .int u_facts_most, .int u_facts_size])), (h_u_facts_kept, .inl (G.2.1.2.2, 9, .inr (.inl u_facts_kept))), (h_u_guesses, .inr (5, [.ref h_u_guesses_kept, .int u_guesses_most, .int u_guesses_size])), (h_u_guesses_kept, .inl (G.2.1.2.2, 9, .inr (.inl u_guesses_kept)))] sz) (qcV Unit G (fun _ => True) (fun _ => [(h_t, .inr (3, [.ref h_t_tokens, .ref h_t_places, .int t_size, .int o.1, .int o.2.1, .long t_when, .long t_then])), (h_t_tokens, .inl (G.2.1.2.1, 401, .inl t_tokens)), (h_u, .inr (2, [.ref h_u_always, .ref h_u_rules, .ref h_u_facts, .ref h_u_guesses, .long u_there, .long u_ground])), (h_u_always, .inr (5, [.ref h_u_always_kept, .int u_always_most, .int o.2.2.1])), (h_u_always_kept, .inl (G.2.1.2.2, 9, .inr (.inl o.2.2.2.1))), (h_u_rules, .inr (4, [.ref h_u_rules_whens, .ref h_u_rules_thens, .ref h_u_rules_grades, .int u_rules_quarrel])), (h_u_rules_whens, .inr (5, [.ref h_u_rules_whens_kept, .int u_rules_whens_most, .int o.2.2.2.2.1])), (h_u_rules_whens_kept, .inl (G.2.1.2.2, 9, .inr (.inl o.2.2.2.2.2.1))), (h_u_rules_thens, .inr (5, [.ref h_u_rules_thens_kept, .int u_rules_thens_most, .int o.2.2.2.2.2.2.1])), (h_u_rules_thens_kept, .inl (G.2.1.2.2, 9, .inr (.inl o.2.2.2.2.2.2.2.1))), (h_u_facts, .inr (5, [.ref h_u_facts_kept, .int u_facts_most, .int o.2.2.2.2.2.2.2.2.1])), (h_u_facts_kept, .inl (G.2.1.2.2, 9, .inr (.inl o.2.2.2.2.2.2.2.2.2.1))), (h_u_guesses, .inr (5, [.ref h_u_guesses_kept, .int u_guesses_most, .int o.2.2.2.2.2.2.2.2.2.2.1])), (h_u_guesses_kept, .inl (G.2.1.2.2, 9, .inr (.inl o.2.2.2.2.2.2.2.2.2.2.2)))]) (va_A [(h_t, .inr (3, [.ref h_t_tokens, .ref h_t_places, .int t_size, .int t_next, .int t_token, .long t_when, .long t_then])), (h_t_tokens, .inl (G.2.1.2.1, 401, .inl t_tokens)), (h_u, .inr (2, [.ref h_u_always, .ref h_u_rules, .ref h_u_facts, .ref h_u_guesses, .long u_there, .long u_ground])), (h_u_always, .inr (5, [.ref h_u_always_kept, .int u_always_most, .int u_always_size])), (h_u_always_kept, .inl (G.2.1.2.2, 9, .inr (.inl u_always_kept))), (h_u_rules, .inr (4, [.ref h_u_rules_whens, .ref h_u_rules_thens, .ref h_u_rules_grades, .int u_rules_quarrel])), (h_u_rules_whens, .inr (5, [.ref h_u_rules_whens_kept, .int u_rules_whens_most, .int u_rules_whens_size])), (h_u_rules_whens_kept, .inl (G.2.1.2.2, 9, .inr (.inl u_rules_whens_kept))), (h_u_rules_thens, .inr (5, [.ref h_u_rules_thens_kept, .int u_rules_thens_most, .int u_rules_thens_size])), (h_u_rules_thens_kept, .inl (G.2.1.2.2, 9, .inr (.inl u_rules_thens_kept))), (h_u_facts, .inr (5, [.ref h_u_facts_kept, .int u_facts_most, .int u_facts_size])), (h_u_facts_kept, .inl (G.2.1.2.2, 9, .inr (.inl u_facts_kept))), (h_u_guesses, .inr (5, [.ref h_u_guesses_kept, .int u_guesses_most, .int u_guesses_size])), (h_u_guesses_kept, .inl (G.2.1.2.2, 9, .inr (.inl u_guesses_kept)))] sz)) 0 0 (va_A [(h_t, .inr (3, [.ref h_t_tokens, .ref h_t_places, .int t_size, .int t_next, .int t_token, .long t_when, .long t_then])), (h_t_tokens, .inl (G.2.1.2.1, 401, .inl t_tokens)), (h_u, .inr (2, [.ref h_u_always, .ref h_u_rules, .ref h_u_facts, .ref h_u_guesses, .long u_there, .long u_ground])), (h_u_always, .inr (5, [.ref h_u_always_kept, .int u_always_most, .int u_always_size])), (h_u_always_kept, .inl (G.2.1.2.2, 9, .inr (.inl u_always_kept))), (h_u_rules, .inr (4, [.ref h_u_rules_whens, .ref h_u_rules_thens, .ref h_u_rules_grades, .int u_rules_quarrel])), (h_u_rules_whens, .inr (5, [.ref h_u_rules_whens_kept, .int u_rules_whens_most, .int u_rules_whens_size])), (h_u_rules_whens_kept, .inl (G.2.1.2.2, 9, .inr (.inl u_rules_whens_kept))), (h_u_rules_thens, .inr (5, [.ref h_u_rules_thens_kept, .int u_rules_thens_most, .int u_rules_thens_size])), (h_u_rules_thens_kept, .inl (G.2.1.2.2, 9, .inr (.inl u_rules_thens_kept))), (h_u_facts, .inr (5, [.ref h_u_facts_kept, .int u_facts_most, .int u_facts_size])), (h_u_facts_kept, .inl (G.2.1.2.2, 9, .inr (.inl u_facts_kept))), (h_u_guesses, .inr (5, [.ref h_u_guesses_kept, .int u_guesses_most, .int u_guesses_size])), (h_u_guesses_kept, .inl (G.2.1.2.2, 9, .inr (.inl u_guesses_kept)))] sz) := by
  refine Met.ofW (cc := cX3_readItems) (maxL := 3) (ret := none) (by decide) rfl ?_
  intro p e s m args below meth c s₁ B hml hv
  obtain ⟨rfl, hsz, hP, hg, hD0, hc⟩ := hv
  have hx := B.exec
  have hb := B.bytes
  have hr := B.returns
  have hts := atoms_spec (ws := wsX3_readItems) B.pre
  have hown : s.vm.findClass RX3 = some m.cls := findClass_of_methodNamed B.named
  have hlocks := B.notSynchronized
  subst hsz
  have hD := hD0.self (sz := s.heap.size)
  generalize hAe : va_A [(h_t, .inr (3, [.ref h_t_tokens, .ref h_t_places, .int t_size, .int t_next, .int t_token, .long t_when, .long t_then])), (h_t_tokens, .inl (G.2.1.2.1, 401, .inl t_tokens)), (h_u, .inr (2, [.ref h_u_always, .ref h_u_rules, .ref h_u_facts, .ref h_u_guesses, .long u_there, .long u_ground])), (h_u_always, .inr (5, [.ref h_u_always_kept, .int u_always_most, .int u_always_size])), (h_u_always_kept, .inl (G.2.1.2.2, 9, .inr (.inl u_always_kept))), (h_u_rules, .inr (4, [.ref h_u_rules_whens, .ref h_u_rules_thens, .ref h_u_rules_grades, .int u_rules_quarrel])), (h_u_rules_whens, .inr (5, [.ref h_u_rules_whens_kept, .int u_rules_whens_most, .int u_rules_whens_size])), (h_u_rules_whens_kept, .inl (G.2.1.2.2, 9, .inr (.inl u_rules_whens_kept))), (h_u_rules_thens, .inr (5, [.ref h_u_rules_thens_kept, .int u_rules_thens_most, .int u_rules_thens_size])), (h_u_rules_thens_kept, .inl (G.2.1.2.2, 9, .inr (.inl u_rules_thens_kept))), (h_u_facts, .inr (5, [.ref h_u_facts_kept, .int u_facts_most, .int u_facts_size])), (h_u_facts_kept, .inl (G.2.1.2.2, 9, .inr (.inl u_facts_kept))), (h_u_guesses, .inr (5, [.ref h_u_guesses_kept, .int u_guesses_most, .int u_guesses_size])), (h_u_guesses_kept, .inl (G.2.1.2.2, 9, .inr (.inl u_guesses_kept)))] s.heap.size = A at hD hc ⊢
  have hA : ∀ q : Nat, s.heap.size ≤ q → A q := fun q h => by rw [← hAe]; exact Or.inr h
  have hiX2 : ∀ w ∈ wsX20, w ∈ wsX3_readItems := by decide +kernel
  have hiX3 : ∀ w ∈ wsX30, w ∈ wsX3_readItems := by decide +kernel
  have hl := lv_entry ([.ref h_t, .ref h_u]) (n := 3) (Nat.le_of_ble_eq_true rfl)
  rw [lg_entry_eq]
  generalize (lg_sl ([.ref h_t, .ref h_u]) ++ List.replicate (3 - (lg_sl ([.ref h_t, .ref h_u])).length) Slot.unset).toArray = ls at hl ⊢
  have hl : lv_has ls 3 [(0, .ref h_t), (1, .ref h_u)] := hl
  have hf := ho
  have hw_6 : ∀  (n : Nat) (t_next : Int32) (t_token : Int32) (u_always_size : Int32) (u_always_kept : Nat → Int64) (u_rules_whens_size : Int32) (u_rules_whens_kept : Nat → Int64) (u_rules_thens_size : Int32) (u_rules_thens_kept : Nat → Int64) (u_facts_size : Int32) (u_facts_kept : Nat → Int64) (u_guesses_size : Int32) (u_guesses_kept : Nat → Int64) (v2 : Int32), lp_X3_readItems_6 t_size t_tokens u_always_most u_rules_whens_most u_rules_thens_most u_facts_most u_guesses_most n t_next t_token u_always_size u_always_kept u_rules_whens_size u_rules_whens_kept u_rules_thens_size u_rules_thens_kept u_facts_size u_facts_kept u_guesses_size u_guesses_kept v2 = some o → ∀ (H : Heap) (locs : List Loc), va_P G.1 vwCl [(h_t, .inr (3, [.ref h_t_tokens, .ref h_t_places, .int t_size, .int t_next, .int t_token, .long t_when, .long t_then])), (h_t_tokens, .inl (G.2.1.2.1, 401, .inl t_tokens)), (h_u, .inr (2, [.ref h_u_always, .ref h_u_rules, .ref h_u_facts, .ref h_u_guesses, .long u_there, .long u_ground])), (h_u_always, .inr (5, [.ref h_u_always_kept, .int u_always_most, .int u_always_size])), (h_u_always_kept, .inl (G.2.1.2.2, 9, .inr (.inl u_always_kept))), (h_u_rules, .inr (4, [.ref h_u_rules_whens, .ref h_u_rules_thens, .ref h_u_rules_grades, .int u_rules_quarrel])), (h_u_rules_whens, .inr (5, [.ref h_u_rules_whens_kept, .int u_rules_whens_most, .int u_rules_whens_size])), (h_u_rules_whens_kept, .inl (G.2.1.2.2, 9, .inr (.inl u_rules_whens_kept))), (h_u_rules_thens, .inr (5, [.ref h_u_rules_thens_kept, .int u_rules_thens_most, .int u_rules_thens_size])), (h_u_rules_thens_kept, .inl (G.2.1.2.2, 9, .inr (.inl u_rules_thens_kept))), (h_u_facts, .inr (5, [.ref h_u_facts_kept, .int u_facts_most, .int u_facts_size])), (h_u_facts_kept, .inl (G.2.1.2.2, 9, .inr (.inl u_facts_kept))), (h_u_guesses, .inr (5, [.ref h_u_guesses_kept, .int u_guesses_most, .int u_guesses_size])), (h_u_guesses_kept, .inl (G.2.1.2.2, 9, .inr (.inl u_guesses_kept)))] H → va_D A [(h_t, .inr (3, [.ref h_t_tokens, .ref h_t_places, .int t_size, .int t_next, .int t_token, .long t_when, .long t_then])), (h_t_tokens, .inl (G.2.1.2.1, 401, .inl t_tokens)), (h_u, .inr (2, [.ref h_u_always, .ref h_u_rules, .ref h_u_facts, .ref h_u_guesses, .long u_there, .long u_ground])), (h_u_always, .inr (5, [.ref h_u_always_kept, .int u_always_most, .int u_always_size])), (h_u_always_kept, .inl (G.2.1.2.2, 9, .inr (.inl u_always_kept))), (h_u_rules, .inr (4, [.ref h_u_rules_whens, .ref h_u_rules_thens, .ref h_u_rules_grades, .int u_rules_quarrel])), (h_u_rules_whens, .inr (5, [.ref h_u_rules_whens_kept, .int u_rules_whens_most, .int u_rules_whens_size])), (h_u_rules_whens_kept, .inl (G.2.1.2.2, 9, .inr (.inl u_rules_whens_kept))), (h_u_rules_thens, .inr (5, [.ref h_u_rules_thens_kept, .int u_rules_thens_most, .int u_rules_thens_size])), (h_u_rules_thens_kept, .inl (G.2.1.2.2, 9, .inr (.inl u_rules_thens_kept))), (h_u_facts, .inr (5, [.ref h_u_facts_kept, .int u_facts_most, .int u_facts_size])), (h_u_facts_kept, .inl (G.2.1.2.2, 9, .inr (.inl u_facts_kept))), (h_u_guesses, .inr (5, [.ref h_u_guesses_kept, .int u_guesses_most, .int u_guesses_size])), (h_u_guesses_kept, .inl (G.2.1.2.2, 9, .inr (.inl u_guesses_kept)))] → va_S A s.heap H locs → ∀ (ls : Array Slot), lv_has ls 3 [(0, .ref h_t), (1, .ref h_u), (2, .int v2)] → W p l e (headSpec wsX3_readItems ({ frames := 33, cells := 0, slots := 0, locals := 784 } : Room)).room s m ([.ref h_t, .ref h_u] : List Value).toArray below meth c H locs 0 0 (MQ below (qcV Unit G (fun _ => True) (fun _ => [(h_t, .inr (3, [.ref h_t_tokens, .ref h_t_places, .int t_size, .int o.1, .int o.2.1, .long t_when, .long t_then])), (h_t_tokens, .inl (G.2.1.2.1, 401, .inl t_tokens)), (h_u, .inr (2, [.ref h_u_always, .ref h_u_rules, .ref h_u_facts, .ref h_u_guesses, .long u_there, .long u_ground])), (h_u_always, .inr (5, [.ref h_u_always_kept, .int u_always_most, .int o.2.2.1])), (h_u_always_kept, .inl (G.2.1.2.2, 9, .inr (.inl o.2.2.2.1))), (h_u_rules, .inr (4, [.ref h_u_rules_whens, .ref h_u_rules_thens, .ref h_u_rules_grades, .int u_rules_quarrel])), (h_u_rules_whens, .inr (5, [.ref h_u_rules_whens_kept, .int u_rules_whens_most, .int o.2.2.2.2.1])), (h_u_rules_whens_kept, .inl (G.2.1.2.2, 9, .inr (.inl o.2.2.2.2.2.1))), (h_u_rules_thens, .inr (5, [.ref h_u_rules_thens_kept, .int u_rules_thens_most, .int o.2.2.2.2.2.2.1])), (h_u_rules_thens_kept, .inl (G.2.1.2.2, 9, .inr (.inl o.2.2.2.2.2.2.2.1))), (h_u_facts, .inr (5, [.ref h_u_facts_kept, .int u_facts_most, .int o.2.2.2.2.2.2.2.2.1])), (h_u_facts_kept, .inl (G.2.1.2.2, 9, .inr (.inl o.2.2.2.2.2.2.2.2.2.1))), (h_u_guesses, .inr (5, [.ref h_u_guesses_kept, .int u_guesses_most, .int o.2.2.2.2.2.2.2.2.2.2.1])), (h_u_guesses_kept, .inl (G.2.1.2.2, 9, .inr (.inl o.2.2.2.2.2.2.2.2.2.2.2)))]) A) ([.ref h_t, .ref h_u] : List Value).toArray s 0 0 A) (F0 m 6 ls []) := by
    intro n
    induction n with
    | zero =>
      intro t_next t_token u_always_size u_always_kept u_rules_whens_size u_rules_whens_kept u_rules_thens_size u_rules_thens_kept u_facts_size u_facts_kept u_guesses_size u_guesses_kept v2 hf
      exact absurd hf (by rw [lp_X3_readItems_6]; intro h; cases h)
    | succ n ih =>
      intro t_next t_token u_always_size u_always_kept u_rules_whens_size u_rules_whens_kept u_rules_thens_size u_rules_thens_kept u_facts_size u_facts_kept u_guesses_size u_guesses_kept v2 hf H locs hP hD hS ls hl
      rw [lp_X3_readItems_6] at hf
      refine lv_iload_n hx hb dX3_readItems_6 rfl (lv_at hl 2 rfl) ?_
      refine lv_sipush (v := (400 : Int32)) hx hb dX3_readItems_7 (by decide) ?_
      refine lv_icmp_ge (tgt := 126) hx hb dX3_readItems_10 (by decide) (fun c1 => ?_) (fun c1 => ?_)
      · have hf := it_t c1 hf
        rw [← Option.some.inj hf]
        exact rt_v (u := ()) hx hb hr hlocks hP hD trivial hS dX3_readItems_126
      · have hf := it_f c1 hf
        refine lv_aload_n hx hb dX3_readItems_13 rfl (lv_at hl 0 rfl) ?_
        refine va_get (D := G.1) (ci := 3) (v := .int t_token) (C := RX3) (T := TX3) (N := 7) hx hb hts hiX3 hown hg.1 hP 0 rfl rfl 4 (by decide) (hts (.fieldLink RX3 25 "AsARule$Reader" "token" "I") (by decide +kernel)) (fun _ h9 => h9) rfl dX3_readItems_14 ?_
        refine lv_sipush (v := (256 : Int32)) hx hb dX3_readItems_17 (by decide) ?_
        refine lv_icmp_eq (tgt := 126) hx hb dX3_readItems_20 (by decide) (fun c2 => ?_) (fun c2 => ?_)
        · have hf := it_t c2 hf
          rw [← Option.some.inj hf]
          exact rt_v (u := ()) hx hb hr hlocks hP hD trivial hS dX3_readItems_126
        · have hf := it_f c2 hf
          refine lv_aload_n hx hb dX3_readItems_23 rfl (lv_at hl 0 rfl) ?_
          refine va_get (D := G.1) (ci := 3) (v := .int t_token) (C := RX3) (T := TX3) (N := 7) hx hb hts hiX3 hown hg.1 hP 0 rfl rfl 4 (by decide) (hts (.fieldLink RX3 25 "AsARule$Reader" "token" "I") (by decide +kernel)) (fun _ h9 => h9) rfl dX3_readItems_24 ?_
          refine lv_sipush (v := (257 : Int32)) hx hb dX3_readItems_27 (by decide) ?_
          refine lv_icmp_eq (tgt := 126) hx hb dX3_readItems_30 (by decide) (fun c3 => ?_) (fun c3 => ?_)
          · have hf := it_t c3 hf
            rw [← Option.some.inj hf]
            exact rt_v (u := ()) hx hb hr hlocks hP hD trivial hS dX3_readItems_126
          · have hf := it_f c3 hf
            refine lv_aload_n hx hb dX3_readItems_33 rfl (lv_at hl 0 rfl) ?_
            refine va_get (D := G.1) (ci := 3) (v := .int t_token) (C := RX3) (T := TX3) (N := 7) hx hb hts hiX3 hown hg.1 hP 0 rfl rfl 4 (by decide) (hts (.fieldLink RX3 25 "AsARule$Reader" "token" "I") (by decide +kernel)) (fun _ h9 => h9) rfl dX3_readItems_34 ?_
            by_cases c4 : t_token = (258 : Int32)
            · have hf := it_t c4 hf
              refine lv_tableIn (off := 35) (tgt := 72) hx hb dX3_readItems_37 (by rw [c4]; decide) (by rw [c4]; decide) (by rw [c4]; rfl) (by decide) ?_
              refine lv_aload_n hx hb dX3_readItems_72 rfl (lv_at hl 0 rfl) ?_
              refine lv_aload_n hx hb dX3_readItems_73 rfl (lv_at hl 1 rfl) ?_
              refine va_get (D := G.1) (ci := 2) (v := .ref h_u_always) (C := RX2) (T := TX2) (N := 6) hx hb hts hiX2 hown hg.1 hP 2 rfl rfl 0 (by decide) (hts (.fieldLink RX3 98 "AsARule$Items" "always" "LAsARule$Sayings;") (by decide +kernel)) (fun _ h9 => h9) rfl dX3_readItems_74 ?_
              obtain ⟨o5, ho5, hf⟩ := bd_e hf
              refine af_v (wr := [(h_u, .inr (2, [.ref h_u_always, .ref h_u_rules, .ref h_u_facts, .ref h_u_guesses, .long u_there, .long u_ground])), (h_u_rules, .inr (4, [.ref h_u_rules_whens, .ref h_u_rules_thens, .ref h_u_rules_grades, .int u_rules_quarrel])), (h_u_rules_whens, .inr (5, [.ref h_u_rules_whens_kept, .int u_rules_whens_most, .int u_rules_whens_size])), (h_u_rules_whens_kept, .inl (G.2.1.2.2, 9, .inr (.inl u_rules_whens_kept))), (h_u_rules_thens, .inr (5, [.ref h_u_rules_thens_kept, .int u_rules_thens_most, .int u_rules_thens_size])), (h_u_rules_thens_kept, .inl (G.2.1.2.2, 9, .inr (.inl u_rules_thens_kept))), (h_u_facts, .inr (5, [.ref h_u_facts_kept, .int u_facts_most, .int u_facts_size])), (h_u_facts_kept, .inl (G.2.1.2.2, 9, .inr (.inl u_facts_kept))), (h_u_guesses, .inr (5, [.ref h_u_guesses_kept, .int u_guesses_most, .int u_guesses_size])), (h_u_guesses_kept, .inl (G.2.1.2.2, 9, .inr (.inl u_guesses_kept)))]) (va_runV (As := [.ref h_u_always]) (rest := []) ⟨hx, hb, hml, hown, hts⟩ (c_X3_readListed l G h_t h_t_tokens h_t_places h_u_always h_u_always_kept H.size t_size t_next t_token t_when t_then t_tokens u_always_most u_always_size u_always_kept o5 ho5) (cwV 1 hts gX3_readItems_X3_readListed rfl rfl rfl (by decide +kernel) ⟨Nat.le_of_ble_eq_true rfl, Nat.le_of_ble_eq_true rfl⟩) (pcA_preV hg hc hP hD hS hA [0, 1, 3, 4] rfl (by decide) (q0 := 0) (ci := 3) rfl rfl rfl) rfl rfl hl.1 rfl (lv_room (Nat.le_of_ble_eq_true rfl)) dX3_readItems_77 ⟨Nat.zero_le _, Nat.zero_le _⟩) hP hD hS hA [0, 1, 3, 4] [2, 5, 6, 7, 8, 9, 10, 11, 12, 13] rfl rfl (by decide) (by decide) (fun _ H locs _ hP hD hS => ?_)
              have hP : va_P G.1 vwCl [(h_t, .inr (3, [.ref h_t_tokens, .ref h_t_places, .int t_size, .int o5.1, .int o5.2.1, .long t_when, .long t_then])), (h_t_tokens, .inl (G.2.1.2.1, 401, .inl t_tokens)), (h_u, .inr (2, [.ref h_u_always, .ref h_u_rules, .ref h_u_facts, .ref h_u_guesses, .long u_there, .long u_ground])), (h_u_always, .inr (5, [.ref h_u_always_kept, .int u_always_most, .int o5.2.2.1])), (h_u_always_kept, .inl (G.2.1.2.2, 9, .inr (.inl o5.2.2.2))), (h_u_rules, .inr (4, [.ref h_u_rules_whens, .ref h_u_rules_thens, .ref h_u_rules_grades, .int u_rules_quarrel])), (h_u_rules_whens, .inr (5, [.ref h_u_rules_whens_kept, .int u_rules_whens_most, .int u_rules_whens_size])), (h_u_rules_whens_kept, .inl (G.2.1.2.2, 9, .inr (.inl u_rules_whens_kept))), (h_u_rules_thens, .inr (5, [.ref h_u_rules_thens_kept, .int u_rules_thens_most, .int u_rules_thens_size])), (h_u_rules_thens_kept, .inl (G.2.1.2.2, 9, .inr (.inl u_rules_thens_kept))), (h_u_facts, .inr (5, [.ref h_u_facts_kept, .int u_facts_most, .int u_facts_size])), (h_u_facts_kept, .inl (G.2.1.2.2, 9, .inr (.inl u_facts_kept))), (h_u_guesses, .inr (5, [.ref h_u_guesses_kept, .int u_guesses_most, .int u_guesses_size])), (h_u_guesses_kept, .inl (G.2.1.2.2, 9, .inr (.inl u_guesses_kept)))] H := hP.sub [10, 11, 0, 12, 13, 1, 2, 3, 4, 5, 6, 7, 8, 9] rfl
              have hD : va_D A [(h_t, .inr (3, [.ref h_t_tokens, .ref h_t_places, .int t_size, .int o5.1, .int o5.2.1, .long t_when, .long t_then])), (h_t_tokens, .inl (G.2.1.2.1, 401, .inl t_tokens)), (h_u, .inr (2, [.ref h_u_always, .ref h_u_rules, .ref h_u_facts, .ref h_u_guesses, .long u_there, .long u_ground])), (h_u_always, .inr (5, [.ref h_u_always_kept, .int u_always_most, .int o5.2.2.1])), (h_u_always_kept, .inl (G.2.1.2.2, 9, .inr (.inl o5.2.2.2))), (h_u_rules, .inr (4, [.ref h_u_rules_whens, .ref h_u_rules_thens, .ref h_u_rules_grades, .int u_rules_quarrel])), (h_u_rules_whens, .inr (5, [.ref h_u_rules_whens_kept, .int u_rules_whens_most, .int u_rules_whens_size])), (h_u_rules_whens_kept, .inl (G.2.1.2.2, 9, .inr (.inl u_rules_whens_kept))), (h_u_rules_thens, .inr (5, [.ref h_u_rules_thens_kept, .int u_rules_thens_most, .int u_rules_thens_size])), (h_u_rules_thens_kept, .inl (G.2.1.2.2, 9, .inr (.inl u_rules_thens_kept))), (h_u_facts, .inr (5, [.ref h_u_facts_kept, .int u_facts_most, .int u_facts_size])), (h_u_facts_kept, .inl (G.2.1.2.2, 9, .inr (.inl u_facts_kept))), (h_u_guesses, .inr (5, [.ref h_u_guesses_kept, .int u_guesses_most, .int u_guesses_size])), (h_u_guesses_kept, .inl (G.2.1.2.2, 9, .inr (.inl u_guesses_kept)))] := hD.sub [10, 11, 0, 12, 13, 1, 2, 3, 4, 5, 6, 7, 8, 9] (by decide) rfl
              refine lv_goto (tgt := 120) hx hb dX3_readItems_80 (by decide) ?_
              obtain ⟨x6, ex6⟩ : ∃ y : Int32, y = (v2 + (1 : Int32)) := ⟨_, rfl⟩
              have hf := lt_n hf x6 ex6
              refine lv_iinc (v := x6) (lv' := [(2, .int x6), (0, .ref h_t), (1, .ref h_u)]) hx hb dX3_readItems_120 hl (k := 2) rfl (by rw [ex6]; rfl) (by decide) rfl (fun ls hl => ?_)
              refine lv_goto (tgt := 6) hx hb dX3_readItems_123 (by decide) ?_
              exact ih o5.1 o5.2.1 o5.2.2.1 o5.2.2.2 u_rules_whens_size u_rules_whens_kept u_rules_thens_size u_rules_thens_kept u_facts_size u_facts_kept u_guesses_size u_guesses_kept x6 hf _ _ hP hD hS _ (lv_sub hl [1, 2, 0] rfl)
            · have hf := it_f c4 hf
              by_cases c7 : t_token = (259 : Int32)
              · have hf := it_t c7 hf
                refine lv_tableIn (off := 46) (tgt := 83) hx hb dX3_readItems_37 (by rw [c7]; decide) (by rw [c7]; decide) (by rw [c7]; rfl) (by decide) ?_
                refine lv_aload_n hx hb dX3_readItems_83 rfl (lv_at hl 0 rfl) ?_
                refine lv_aload_n hx hb dX3_readItems_84 rfl (lv_at hl 1 rfl) ?_
                refine va_get (D := G.1) (ci := 2) (v := .ref h_u_rules) (C := RX2) (T := TX2) (N := 6) hx hb hts hiX2 hown hg.1 hP 2 rfl rfl 1 (by decide) (hts (.fieldLink RX3 105 "AsARule$Items" "rules" "LAsARule$Rules;") (by decide +kernel)) (fun _ h9 => h9) rfl dX3_readItems_85 ?_
                obtain ⟨o8, ho8, hf⟩ := bd_e hf
                refine af_v (wr := [(h_u, .inr (2, [.ref h_u_always, .ref h_u_rules, .ref h_u_facts, .ref h_u_guesses, .long u_there, .long u_ground])), (h_u_always, .inr (5, [.ref h_u_always_kept, .int u_always_most, .int u_always_size])), (h_u_always_kept, .inl (G.2.1.2.2, 9, .inr (.inl u_always_kept))), (h_u_facts, .inr (5, [.ref h_u_facts_kept, .int u_facts_most, .int u_facts_size])), (h_u_facts_kept, .inl (G.2.1.2.2, 9, .inr (.inl u_facts_kept))), (h_u_guesses, .inr (5, [.ref h_u_guesses_kept, .int u_guesses_most, .int u_guesses_size])), (h_u_guesses_kept, .inl (G.2.1.2.2, 9, .inr (.inl u_guesses_kept)))]) (va_runV (As := [.ref h_u_rules]) (rest := []) ⟨hx, hb, hml, hown, hts⟩ (c_X3_readRule l G h_t h_t_tokens h_t_places h_u_rules h_u_rules_whens h_u_rules_thens h_u_rules_grades h_u_rules_whens_kept h_u_rules_thens_kept H.size t_size t_next t_token t_when t_then t_tokens u_rules_quarrel u_rules_whens_most u_rules_whens_size u_rules_whens_kept u_rules_thens_most u_rules_thens_size u_rules_thens_kept o8 ho8) (cwV 1 hts gX3_readItems_X3_readRule rfl rfl rfl (by decide +kernel) ⟨Nat.le_of_ble_eq_true rfl, Nat.le_of_ble_eq_true rfl⟩) (pcA_preV hg hc hP hD hS hA [0, 1, 5, 6, 7, 8, 9] rfl (by decide) (q0 := 0) (ci := 3) rfl rfl rfl) rfl rfl hl.1 rfl (lv_room (Nat.le_of_ble_eq_true rfl)) dX3_readItems_88 ⟨Nat.zero_le _, Nat.zero_le _⟩) hP hD hS hA [0, 1, 5, 6, 7, 8, 9] [2, 3, 4, 10, 11, 12, 13] rfl rfl (by decide) (by decide) (fun _ H locs _ hP hD hS => ?_)
                have hP : va_P G.1 vwCl [(h_t, .inr (3, [.ref h_t_tokens, .ref h_t_places, .int t_size, .int o8.1, .int o8.2.1, .long t_when, .long t_then])), (h_t_tokens, .inl (G.2.1.2.1, 401, .inl t_tokens)), (h_u, .inr (2, [.ref h_u_always, .ref h_u_rules, .ref h_u_facts, .ref h_u_guesses, .long u_there, .long u_ground])), (h_u_always, .inr (5, [.ref h_u_always_kept, .int u_always_most, .int u_always_size])), (h_u_always_kept, .inl (G.2.1.2.2, 9, .inr (.inl u_always_kept))), (h_u_rules, .inr (4, [.ref h_u_rules_whens, .ref h_u_rules_thens, .ref h_u_rules_grades, .int u_rules_quarrel])), (h_u_rules_whens, .inr (5, [.ref h_u_rules_whens_kept, .int u_rules_whens_most, .int o8.2.2.1])), (h_u_rules_whens_kept, .inl (G.2.1.2.2, 9, .inr (.inl o8.2.2.2.1))), (h_u_rules_thens, .inr (5, [.ref h_u_rules_thens_kept, .int u_rules_thens_most, .int o8.2.2.2.2.1])), (h_u_rules_thens_kept, .inl (G.2.1.2.2, 9, .inr (.inl o8.2.2.2.2.2))), (h_u_facts, .inr (5, [.ref h_u_facts_kept, .int u_facts_most, .int u_facts_size])), (h_u_facts_kept, .inl (G.2.1.2.2, 9, .inr (.inl u_facts_kept))), (h_u_guesses, .inr (5, [.ref h_u_guesses_kept, .int u_guesses_most, .int u_guesses_size])), (h_u_guesses_kept, .inl (G.2.1.2.2, 9, .inr (.inl u_guesses_kept)))] H := hP.sub [7, 8, 0, 1, 2, 9, 10, 11, 12, 13, 3, 4, 5, 6] rfl
                have hD : va_D A [(h_t, .inr (3, [.ref h_t_tokens, .ref h_t_places, .int t_size, .int o8.1, .int o8.2.1, .long t_when, .long t_then])), (h_t_tokens, .inl (G.2.1.2.1, 401, .inl t_tokens)), (h_u, .inr (2, [.ref h_u_always, .ref h_u_rules, .ref h_u_facts, .ref h_u_guesses, .long u_there, .long u_ground])), (h_u_always, .inr (5, [.ref h_u_always_kept, .int u_always_most, .int u_always_size])), (h_u_always_kept, .inl (G.2.1.2.2, 9, .inr (.inl u_always_kept))), (h_u_rules, .inr (4, [.ref h_u_rules_whens, .ref h_u_rules_thens, .ref h_u_rules_grades, .int u_rules_quarrel])), (h_u_rules_whens, .inr (5, [.ref h_u_rules_whens_kept, .int u_rules_whens_most, .int o8.2.2.1])), (h_u_rules_whens_kept, .inl (G.2.1.2.2, 9, .inr (.inl o8.2.2.2.1))), (h_u_rules_thens, .inr (5, [.ref h_u_rules_thens_kept, .int u_rules_thens_most, .int o8.2.2.2.2.1])), (h_u_rules_thens_kept, .inl (G.2.1.2.2, 9, .inr (.inl o8.2.2.2.2.2))), (h_u_facts, .inr (5, [.ref h_u_facts_kept, .int u_facts_most, .int u_facts_size])), (h_u_facts_kept, .inl (G.2.1.2.2, 9, .inr (.inl u_facts_kept))), (h_u_guesses, .inr (5, [.ref h_u_guesses_kept, .int u_guesses_most, .int u_guesses_size])), (h_u_guesses_kept, .inl (G.2.1.2.2, 9, .inr (.inl u_guesses_kept)))] := hD.sub [7, 8, 0, 1, 2, 9, 10, 11, 12, 13, 3, 4, 5, 6] (by decide) rfl
                refine lv_goto (tgt := 120) hx hb dX3_readItems_91 (by decide) ?_
                obtain ⟨x9, ex9⟩ : ∃ y : Int32, y = (v2 + (1 : Int32)) := ⟨_, rfl⟩
                have hf := lt_n hf x9 ex9
                refine lv_iinc (v := x9) (lv' := [(2, .int x9), (0, .ref h_t), (1, .ref h_u)]) hx hb dX3_readItems_120 hl (k := 2) rfl (by rw [ex9]; rfl) (by decide) rfl (fun ls hl => ?_)
                refine lv_goto (tgt := 6) hx hb dX3_readItems_123 (by decide) ?_
                exact ih o8.1 o8.2.1 u_always_size u_always_kept o8.2.2.1 o8.2.2.2.1 o8.2.2.2.2.1 o8.2.2.2.2.2 u_facts_size u_facts_kept u_guesses_size u_guesses_kept x9 hf _ _ hP hD hS _ (lv_sub hl [1, 2, 0] rfl)
              · have hf := it_f c7 hf
                by_cases c10 : t_token = (260 : Int32)
                · have hf := it_t c10 hf
                  refine lv_tableIn (off := 79) (tgt := 116) hx hb dX3_readItems_37 (by rw [c10]; decide) (by rw [c10]; decide) (by rw [c10]; rfl) (by decide) ?_
                  refine lv_aload_n hx hb dX3_readItems_116 rfl (lv_at hl 0 rfl) ?_
                  obtain ⟨o11, ho11, hf⟩ := bd_e hf
                  refine af_v (wr := [(h_t_tokens, .inl (G.2.1.2.1, 401, .inl t_tokens)), (h_u, .inr (2, [.ref h_u_always, .ref h_u_rules, .ref h_u_facts, .ref h_u_guesses, .long u_there, .long u_ground])), (h_u_always, .inr (5, [.ref h_u_always_kept, .int u_always_most, .int u_always_size])), (h_u_always_kept, .inl (G.2.1.2.2, 9, .inr (.inl u_always_kept))), (h_u_rules, .inr (4, [.ref h_u_rules_whens, .ref h_u_rules_thens, .ref h_u_rules_grades, .int u_rules_quarrel])), (h_u_rules_whens, .inr (5, [.ref h_u_rules_whens_kept, .int u_rules_whens_most, .int u_rules_whens_size])), (h_u_rules_whens_kept, .inl (G.2.1.2.2, 9, .inr (.inl u_rules_whens_kept))), (h_u_rules_thens, .inr (5, [.ref h_u_rules_thens_kept, .int u_rules_thens_most, .int u_rules_thens_size])), (h_u_rules_thens_kept, .inl (G.2.1.2.2, 9, .inr (.inl u_rules_thens_kept))), (h_u_facts, .inr (5, [.ref h_u_facts_kept, .int u_facts_most, .int u_facts_size])), (h_u_facts_kept, .inl (G.2.1.2.2, 9, .inr (.inl u_facts_kept))), (h_u_guesses, .inr (5, [.ref h_u_guesses_kept, .int u_guesses_most, .int u_guesses_size])), (h_u_guesses_kept, .inl (G.2.1.2.2, 9, .inr (.inl u_guesses_kept)))]) (va_runV (As := []) (rest := []) ⟨hx, hb, hml, hown, hts⟩ (c_X3_refuse l G h_t h_t_tokens h_t_places H.size t_size t_next t_token t_when t_then o11 ho11) (cwV 0 hts gX3_readItems_X3_refuse rfl rfl rfl (by decide +kernel) ⟨Nat.le_of_ble_eq_true rfl, Nat.le_of_ble_eq_true rfl⟩) (pcA_preV hg hc hP hD hS hA [0] rfl (by decide) (q0 := 0) (ci := 3) rfl rfl rfl) rfl rfl hl.1 rfl (lv_room (Nat.le_of_ble_eq_true rfl)) dX3_readItems_117 ⟨Nat.zero_le _, Nat.zero_le _⟩) hP hD hS hA [0] [1, 2, 3, 4, 5, 6, 7, 8, 9, 10, 11, 12, 13] rfl rfl (by decide) (by decide) (fun _ H locs _ hP hD hS => ?_)
                  have hP : va_P G.1 vwCl [(h_t, .inr (3, [.ref h_t_tokens, .ref h_t_places, .int t_size, .int t_next, .int o11, .long t_when, .long t_then])), (h_t_tokens, .inl (G.2.1.2.1, 401, .inl t_tokens)), (h_u, .inr (2, [.ref h_u_always, .ref h_u_rules, .ref h_u_facts, .ref h_u_guesses, .long u_there, .long u_ground])), (h_u_always, .inr (5, [.ref h_u_always_kept, .int u_always_most, .int u_always_size])), (h_u_always_kept, .inl (G.2.1.2.2, 9, .inr (.inl u_always_kept))), (h_u_rules, .inr (4, [.ref h_u_rules_whens, .ref h_u_rules_thens, .ref h_u_rules_grades, .int u_rules_quarrel])), (h_u_rules_whens, .inr (5, [.ref h_u_rules_whens_kept, .int u_rules_whens_most, .int u_rules_whens_size])), (h_u_rules_whens_kept, .inl (G.2.1.2.2, 9, .inr (.inl u_rules_whens_kept))), (h_u_rules_thens, .inr (5, [.ref h_u_rules_thens_kept, .int u_rules_thens_most, .int u_rules_thens_size])), (h_u_rules_thens_kept, .inl (G.2.1.2.2, 9, .inr (.inl u_rules_thens_kept))), (h_u_facts, .inr (5, [.ref h_u_facts_kept, .int u_facts_most, .int u_facts_size])), (h_u_facts_kept, .inl (G.2.1.2.2, 9, .inr (.inl u_facts_kept))), (h_u_guesses, .inr (5, [.ref h_u_guesses_kept, .int u_guesses_most, .int u_guesses_size])), (h_u_guesses_kept, .inl (G.2.1.2.2, 9, .inr (.inl u_guesses_kept)))] H := hP.sub [13, 0, 1, 2, 3, 4, 5, 6, 7, 8, 9, 10, 11, 12] rfl
                  have hD : va_D A [(h_t, .inr (3, [.ref h_t_tokens, .ref h_t_places, .int t_size, .int t_next, .int o11, .long t_when, .long t_then])), (h_t_tokens, .inl (G.2.1.2.1, 401, .inl t_tokens)), (h_u, .inr (2, [.ref h_u_always, .ref h_u_rules, .ref h_u_facts, .ref h_u_guesses, .long u_there, .long u_ground])), (h_u_always, .inr (5, [.ref h_u_always_kept, .int u_always_most, .int u_always_size])), (h_u_always_kept, .inl (G.2.1.2.2, 9, .inr (.inl u_always_kept))), (h_u_rules, .inr (4, [.ref h_u_rules_whens, .ref h_u_rules_thens, .ref h_u_rules_grades, .int u_rules_quarrel])), (h_u_rules_whens, .inr (5, [.ref h_u_rules_whens_kept, .int u_rules_whens_most, .int u_rules_whens_size])), (h_u_rules_whens_kept, .inl (G.2.1.2.2, 9, .inr (.inl u_rules_whens_kept))), (h_u_rules_thens, .inr (5, [.ref h_u_rules_thens_kept, .int u_rules_thens_most, .int u_rules_thens_size])), (h_u_rules_thens_kept, .inl (G.2.1.2.2, 9, .inr (.inl u_rules_thens_kept))), (h_u_facts, .inr (5, [.ref h_u_facts_kept, .int u_facts_most, .int u_facts_size])), (h_u_facts_kept, .inl (G.2.1.2.2, 9, .inr (.inl u_facts_kept))), (h_u_guesses, .inr (5, [.ref h_u_guesses_kept, .int u_guesses_most, .int u_guesses_size])), (h_u_guesses_kept, .inl (G.2.1.2.2, 9, .inr (.inl u_guesses_kept)))] := hD.sub [13, 0, 1, 2, 3, 4, 5, 6, 7, 8, 9, 10, 11, 12] (by decide) rfl
                  obtain ⟨x12, ex12⟩ : ∃ y : Int32, y = (v2 + (1 : Int32)) := ⟨_, rfl⟩
                  have hf := lt_n hf x12 ex12
                  refine lv_iinc (v := x12) (lv' := [(2, .int x12), (0, .ref h_t), (1, .ref h_u)]) hx hb dX3_readItems_120 hl (k := 2) rfl (by rw [ex12]; rfl) (by decide) rfl (fun ls hl => ?_)
                  refine lv_goto (tgt := 6) hx hb dX3_readItems_123 (by decide) ?_
                  exact ih t_next o11 u_always_size u_always_kept u_rules_whens_size u_rules_whens_kept u_rules_thens_size u_rules_thens_kept u_facts_size u_facts_kept u_guesses_size u_guesses_kept x12 hf _ _ hP hD hS _ (lv_sub hl [1, 2, 0] rfl)
                · have hf := it_f c10 hf
                  by_cases c13 : t_token = (261 : Int32)
                  · have hf := it_t c13 hf
                    refine lv_tableIn (off := 57) (tgt := 94) hx hb dX3_readItems_37 (by rw [c13]; decide) (by rw [c13]; decide) (by rw [c13]; rfl) (by decide) ?_
                    refine lv_aload_n hx hb dX3_readItems_94 rfl (lv_at hl 0 rfl) ?_
                    refine lv_aload_n hx hb dX3_readItems_95 rfl (lv_at hl 1 rfl) ?_
                    refine va_get (D := G.1) (ci := 2) (v := .ref h_u_facts) (C := RX2) (T := TX2) (N := 6) hx hb hts hiX2 hown hg.1 hP 2 rfl rfl 2 (by decide) (hts (.fieldLink RX3 113 "AsARule$Items" "facts" "LAsARule$Sayings;") (by decide +kernel)) (fun _ h9 => h9) rfl dX3_readItems_96 ?_
                    obtain ⟨o14, ho14, hf⟩ := bd_e hf
                    refine af_v (wr := [(h_u, .inr (2, [.ref h_u_always, .ref h_u_rules, .ref h_u_facts, .ref h_u_guesses, .long u_there, .long u_ground])), (h_u_always, .inr (5, [.ref h_u_always_kept, .int u_always_most, .int u_always_size])), (h_u_always_kept, .inl (G.2.1.2.2, 9, .inr (.inl u_always_kept))), (h_u_rules, .inr (4, [.ref h_u_rules_whens, .ref h_u_rules_thens, .ref h_u_rules_grades, .int u_rules_quarrel])), (h_u_rules_whens, .inr (5, [.ref h_u_rules_whens_kept, .int u_rules_whens_most, .int u_rules_whens_size])), (h_u_rules_whens_kept, .inl (G.2.1.2.2, 9, .inr (.inl u_rules_whens_kept))), (h_u_rules_thens, .inr (5, [.ref h_u_rules_thens_kept, .int u_rules_thens_most, .int u_rules_thens_size])), (h_u_rules_thens_kept, .inl (G.2.1.2.2, 9, .inr (.inl u_rules_thens_kept))), (h_u_guesses, .inr (5, [.ref h_u_guesses_kept, .int u_guesses_most, .int u_guesses_size])), (h_u_guesses_kept, .inl (G.2.1.2.2, 9, .inr (.inl u_guesses_kept)))]) (va_runV (As := [.ref h_u_facts]) (rest := []) ⟨hx, hb, hml, hown, hts⟩ (c_X3_readListed l G h_t h_t_tokens h_t_places h_u_facts h_u_facts_kept H.size t_size t_next t_token t_when t_then t_tokens u_facts_most u_facts_size u_facts_kept o14 ho14) (cwV 1 hts gX3_readItems_X3_readListed rfl rfl rfl (by decide +kernel) ⟨Nat.le_of_ble_eq_true rfl, Nat.le_of_ble_eq_true rfl⟩) (pcA_preV hg hc hP hD hS hA [0, 1, 10, 11] rfl (by decide) (q0 := 0) (ci := 3) rfl rfl rfl) rfl rfl hl.1 rfl (lv_room (Nat.le_of_ble_eq_true rfl)) dX3_readItems_99 ⟨Nat.zero_le _, Nat.zero_le _⟩) hP hD hS hA [0, 1, 10, 11] [2, 3, 4, 5, 6, 7, 8, 9, 12, 13] rfl rfl (by decide) (by decide) (fun _ H locs _ hP hD hS => ?_)
                    have hP : va_P G.1 vwCl [(h_t, .inr (3, [.ref h_t_tokens, .ref h_t_places, .int t_size, .int o14.1, .int o14.2.1, .long t_when, .long t_then])), (h_t_tokens, .inl (G.2.1.2.1, 401, .inl t_tokens)), (h_u, .inr (2, [.ref h_u_always, .ref h_u_rules, .ref h_u_facts, .ref h_u_guesses, .long u_there, .long u_ground])), (h_u_always, .inr (5, [.ref h_u_always_kept, .int u_always_most, .int u_always_size])), (h_u_always_kept, .inl (G.2.1.2.2, 9, .inr (.inl u_always_kept))), (h_u_rules, .inr (4, [.ref h_u_rules_whens, .ref h_u_rules_thens, .ref h_u_rules_grades, .int u_rules_quarrel])), (h_u_rules_whens, .inr (5, [.ref h_u_rules_whens_kept, .int u_rules_whens_most, .int u_rules_whens_size])), (h_u_rules_whens_kept, .inl (G.2.1.2.2, 9, .inr (.inl u_rules_whens_kept))), (h_u_rules_thens, .inr (5, [.ref h_u_rules_thens_kept, .int u_rules_thens_most, .int u_rules_thens_size])), (h_u_rules_thens_kept, .inl (G.2.1.2.2, 9, .inr (.inl u_rules_thens_kept))), (h_u_facts, .inr (5, [.ref h_u_facts_kept, .int u_facts_most, .int o14.2.2.1])), (h_u_facts_kept, .inl (G.2.1.2.2, 9, .inr (.inl o14.2.2.2))), (h_u_guesses, .inr (5, [.ref h_u_guesses_kept, .int u_guesses_most, .int u_guesses_size])), (h_u_guesses_kept, .inl (G.2.1.2.2, 9, .inr (.inl u_guesses_kept)))] H := hP.sub [10, 11, 0, 1, 2, 3, 4, 5, 6, 7, 12, 13, 8, 9] rfl
                    have hD : va_D A [(h_t, .inr (3, [.ref h_t_tokens, .ref h_t_places, .int t_size, .int o14.1, .int o14.2.1, .long t_when, .long t_then])), (h_t_tokens, .inl (G.2.1.2.1, 401, .inl t_tokens)), (h_u, .inr (2, [.ref h_u_always, .ref h_u_rules, .ref h_u_facts, .ref h_u_guesses, .long u_there, .long u_ground])), (h_u_always, .inr (5, [.ref h_u_always_kept, .int u_always_most, .int u_always_size])), (h_u_always_kept, .inl (G.2.1.2.2, 9, .inr (.inl u_always_kept))), (h_u_rules, .inr (4, [.ref h_u_rules_whens, .ref h_u_rules_thens, .ref h_u_rules_grades, .int u_rules_quarrel])), (h_u_rules_whens, .inr (5, [.ref h_u_rules_whens_kept, .int u_rules_whens_most, .int u_rules_whens_size])), (h_u_rules_whens_kept, .inl (G.2.1.2.2, 9, .inr (.inl u_rules_whens_kept))), (h_u_rules_thens, .inr (5, [.ref h_u_rules_thens_kept, .int u_rules_thens_most, .int u_rules_thens_size])), (h_u_rules_thens_kept, .inl (G.2.1.2.2, 9, .inr (.inl u_rules_thens_kept))), (h_u_facts, .inr (5, [.ref h_u_facts_kept, .int u_facts_most, .int o14.2.2.1])), (h_u_facts_kept, .inl (G.2.1.2.2, 9, .inr (.inl o14.2.2.2))), (h_u_guesses, .inr (5, [.ref h_u_guesses_kept, .int u_guesses_most, .int u_guesses_size])), (h_u_guesses_kept, .inl (G.2.1.2.2, 9, .inr (.inl u_guesses_kept)))] := hD.sub [10, 11, 0, 1, 2, 3, 4, 5, 6, 7, 12, 13, 8, 9] (by decide) rfl
                    refine lv_goto (tgt := 120) hx hb dX3_readItems_102 (by decide) ?_
                    obtain ⟨x15, ex15⟩ : ∃ y : Int32, y = (v2 + (1 : Int32)) := ⟨_, rfl⟩
                    have hf := lt_n hf x15 ex15
                    refine lv_iinc (v := x15) (lv' := [(2, .int x15), (0, .ref h_t), (1, .ref h_u)]) hx hb dX3_readItems_120 hl (k := 2) rfl (by rw [ex15]; rfl) (by decide) rfl (fun ls hl => ?_)
                    refine lv_goto (tgt := 6) hx hb dX3_readItems_123 (by decide) ?_
                    exact ih o14.1 o14.2.1 u_always_size u_always_kept u_rules_whens_size u_rules_whens_kept u_rules_thens_size u_rules_thens_kept o14.2.2.1 o14.2.2.2 u_guesses_size u_guesses_kept x15 hf _ _ hP hD hS _ (lv_sub hl [1, 2, 0] rfl)
                  · have hf := it_f c13 hf
                    by_cases c16 : t_token = (262 : Int32)
                    · have hf := it_t c16 hf
                      refine lv_tableIn (off := 68) (tgt := 105) hx hb dX3_readItems_37 (by rw [c16]; decide) (by rw [c16]; decide) (by rw [c16]; rfl) (by decide) ?_
                      refine lv_aload_n hx hb dX3_readItems_105 rfl (lv_at hl 0 rfl) ?_
                      refine lv_aload_n hx hb dX3_readItems_106 rfl (lv_at hl 1 rfl) ?_
                      refine va_get (D := G.1) (ci := 2) (v := .ref h_u_guesses) (C := RX2) (T := TX2) (N := 6) hx hb hts hiX2 hown hg.1 hP 2 rfl rfl 3 (by decide) (hts (.fieldLink RX3 116 "AsARule$Items" "guesses" "LAsARule$Sayings;") (by decide +kernel)) (fun _ h9 => h9) rfl dX3_readItems_107 ?_
                      obtain ⟨o17, ho17, hf⟩ := bd_e hf
                      refine af_v (wr := [(h_u, .inr (2, [.ref h_u_always, .ref h_u_rules, .ref h_u_facts, .ref h_u_guesses, .long u_there, .long u_ground])), (h_u_always, .inr (5, [.ref h_u_always_kept, .int u_always_most, .int u_always_size])), (h_u_always_kept, .inl (G.2.1.2.2, 9, .inr (.inl u_always_kept))), (h_u_rules, .inr (4, [.ref h_u_rules_whens, .ref h_u_rules_thens, .ref h_u_rules_grades, .int u_rules_quarrel])), (h_u_rules_whens, .inr (5, [.ref h_u_rules_whens_kept, .int u_rules_whens_most, .int u_rules_whens_size])), (h_u_rules_whens_kept, .inl (G.2.1.2.2, 9, .inr (.inl u_rules_whens_kept))), (h_u_rules_thens, .inr (5, [.ref h_u_rules_thens_kept, .int u_rules_thens_most, .int u_rules_thens_size])), (h_u_rules_thens_kept, .inl (G.2.1.2.2, 9, .inr (.inl u_rules_thens_kept))), (h_u_facts, .inr (5, [.ref h_u_facts_kept, .int u_facts_most, .int u_facts_size])), (h_u_facts_kept, .inl (G.2.1.2.2, 9, .inr (.inl u_facts_kept)))]) (va_runV (As := [.ref h_u_guesses]) (rest := []) ⟨hx, hb, hml, hown, hts⟩ (c_X3_readListed l G h_t h_t_tokens h_t_places h_u_guesses h_u_guesses_kept H.size t_size t_next t_token t_when t_then t_tokens u_guesses_most u_guesses_size u_guesses_kept o17 ho17) (cwV 1 hts gX3_readItems_X3_readListed rfl rfl rfl (by decide +kernel) ⟨Nat.le_of_ble_eq_true rfl, Nat.le_of_ble_eq_true rfl⟩) (pcA_preV hg hc hP hD hS hA [0, 1, 12, 13] rfl (by decide) (q0 := 0) (ci := 3) rfl rfl rfl) rfl rfl hl.1 rfl (lv_room (Nat.le_of_ble_eq_true rfl)) dX3_readItems_110 ⟨Nat.zero_le _, Nat.zero_le _⟩) hP hD hS hA [0, 1, 12, 13] [2, 3, 4, 5, 6, 7, 8, 9, 10, 11] rfl rfl (by decide) (by decide) (fun _ H locs _ hP hD hS => ?_)
                      have hP : va_P G.1 vwCl [(h_t, .inr (3, [.ref h_t_tokens, .ref h_t_places, .int t_size, .int o17.1, .int o17.2.1, .long t_when, .long t_then])), (h_t_tokens, .inl (G.2.1.2.1, 401, .inl t_tokens)), (h_u, .inr (2, [.ref h_u_always, .ref h_u_rules, .ref h_u_facts, .ref h_u_guesses, .long u_there, .long u_ground])), (h_u_always, .inr (5, [.ref h_u_always_kept, .int u_always_most, .int u_always_size])), (h_u_always_kept, .inl (G.2.1.2.2, 9, .inr (.inl u_always_kept))), (h_u_rules, .inr (4, [.ref h_u_rules_whens, .ref h_u_rules_thens, .ref h_u_rules_grades, .int u_rules_quarrel])), (h_u_rules_whens, .inr (5, [.ref h_u_rules_whens_kept, .int u_rules_whens_most, .int u_rules_whens_size])), (h_u_rules_whens_kept, .inl (G.2.1.2.2, 9, .inr (.inl u_rules_whens_kept))), (h_u_rules_thens, .inr (5, [.ref h_u_rules_thens_kept, .int u_rules_thens_most, .int u_rules_thens_size])), (h_u_rules_thens_kept, .inl (G.2.1.2.2, 9, .inr (.inl u_rules_thens_kept))), (h_u_facts, .inr (5, [.ref h_u_facts_kept, .int u_facts_most, .int u_facts_size])), (h_u_facts_kept, .inl (G.2.1.2.2, 9, .inr (.inl u_facts_kept))), (h_u_guesses, .inr (5, [.ref h_u_guesses_kept, .int u_guesses_most, .int o17.2.2.1])), (h_u_guesses_kept, .inl (G.2.1.2.2, 9, .inr (.inl o17.2.2.2)))] H := hP.sub [10, 11, 0, 1, 2, 3, 4, 5, 6, 7, 8, 9, 12, 13] rfl
                      have hD : va_D A [(h_t, .inr (3, [.ref h_t_tokens, .ref h_t_places, .int t_size, .int o17.1, .int o17.2.1, .long t_when, .long t_then])), (h_t_tokens, .inl (G.2.1.2.1, 401, .inl t_tokens)), (h_u, .inr (2, [.ref h_u_always, .ref h_u_rules, .ref h_u_facts, .ref h_u_guesses, .long u_there, .long u_ground])), (h_u_always, .inr (5, [.ref h_u_always_kept, .int u_always_most, .int u_always_size])), (h_u_always_kept, .inl (G.2.1.2.2, 9, .inr (.inl u_always_kept))), (h_u_rules, .inr (4, [.ref h_u_rules_whens, .ref h_u_rules_thens, .ref h_u_rules_grades, .int u_rules_quarrel])), (h_u_rules_whens, .inr (5, [.ref h_u_rules_whens_kept, .int u_rules_whens_most, .int u_rules_whens_size])), (h_u_rules_whens_kept, .inl (G.2.1.2.2, 9, .inr (.inl u_rules_whens_kept))), (h_u_rules_thens, .inr (5, [.ref h_u_rules_thens_kept, .int u_rules_thens_most, .int u_rules_thens_size])), (h_u_rules_thens_kept, .inl (G.2.1.2.2, 9, .inr (.inl u_rules_thens_kept))), (h_u_facts, .inr (5, [.ref h_u_facts_kept, .int u_facts_most, .int u_facts_size])), (h_u_facts_kept, .inl (G.2.1.2.2, 9, .inr (.inl u_facts_kept))), (h_u_guesses, .inr (5, [.ref h_u_guesses_kept, .int u_guesses_most, .int o17.2.2.1])), (h_u_guesses_kept, .inl (G.2.1.2.2, 9, .inr (.inl o17.2.2.2)))] := hD.sub [10, 11, 0, 1, 2, 3, 4, 5, 6, 7, 8, 9, 12, 13] (by decide) rfl
                      refine lv_goto (tgt := 120) hx hb dX3_readItems_113 (by decide) ?_
                      obtain ⟨x18, ex18⟩ : ∃ y : Int32, y = (v2 + (1 : Int32)) := ⟨_, rfl⟩
                      have hf := lt_n hf x18 ex18
                      refine lv_iinc (v := x18) (lv' := [(2, .int x18), (0, .ref h_t), (1, .ref h_u)]) hx hb dX3_readItems_120 hl (k := 2) rfl (by rw [ex18]; rfl) (by decide) rfl (fun ls hl => ?_)
                      refine lv_goto (tgt := 6) hx hb dX3_readItems_123 (by decide) ?_
                      exact ih o17.1 o17.2.1 u_always_size u_always_kept u_rules_whens_size u_rules_whens_kept u_rules_thens_size u_rules_thens_kept u_facts_size u_facts_kept o17.2.2.1 o17.2.2.2 x18 hf _ _ hP hD hS _ (lv_sub hl [1, 2, 0] rfl)
                    · have hf := it_f c16 hf
                      have q_0 := lv_neT c4 (a := 258) rfl
                      have q_1 := lv_neT c7 (a := 259) rfl
                      have q_2 := lv_neT c10 (a := 260) rfl
                      have q_3 := lv_neT c13 (a := 261) rfl
                      have q_4 := lv_neT c16 (a := 262) rfl
                      refine lv_tableOut (tgt := 116) hx hb dX3_readItems_37 (by omega) (by decide) ?_
                      refine lv_aload_n hx hb dX3_readItems_116 rfl (lv_at hl 0 rfl) ?_
                      obtain ⟨o19, ho19, hf⟩ := bd_e hf
                      refine af_v (wr := [(h_t_tokens, .inl (G.2.1.2.1, 401, .inl t_tokens)), (h_u, .inr (2, [.ref h_u_always, .ref h_u_rules, .ref h_u_facts, .ref h_u_guesses, .long u_there, .long u_ground])), (h_u_always, .inr (5, [.ref h_u_always_kept, .int u_always_most, .int u_always_size])), (h_u_always_kept, .inl (G.2.1.2.2, 9, .inr (.inl u_always_kept))), (h_u_rules, .inr (4, [.ref h_u_rules_whens, .ref h_u_rules_thens, .ref h_u_rules_grades, .int u_rules_quarrel])), (h_u_rules_whens, .inr (5, [.ref h_u_rules_whens_kept, .int u_rules_whens_most, .int u_rules_whens_size])), (h_u_rules_whens_kept, .inl (G.2.1.2.2, 9, .inr (.inl u_rules_whens_kept))), (h_u_rules_thens, .inr (5, [.ref h_u_rules_thens_kept, .int u_rules_thens_most, .int u_rules_thens_size])), (h_u_rules_thens_kept, .inl (G.2.1.2.2, 9, .inr (.inl u_rules_thens_kept))), (h_u_facts, .inr (5, [.ref h_u_facts_kept, .int u_facts_most, .int u_facts_size])), (h_u_facts_kept, .inl (G.2.1.2.2, 9, .inr (.inl u_facts_kept))), (h_u_guesses, .inr (5, [.ref h_u_guesses_kept, .int u_guesses_most, .int u_guesses_size])), (h_u_guesses_kept, .inl (G.2.1.2.2, 9, .inr (.inl u_guesses_kept)))]) (va_runV (As := []) (rest := []) ⟨hx, hb, hml, hown, hts⟩ (c_X3_refuse l G h_t h_t_tokens h_t_places H.size t_size t_next t_token t_when t_then o19 ho19) (cwV 0 hts gX3_readItems_X3_refuse rfl rfl rfl (by decide +kernel) ⟨Nat.le_of_ble_eq_true rfl, Nat.le_of_ble_eq_true rfl⟩) (pcA_preV hg hc hP hD hS hA [0] rfl (by decide) (q0 := 0) (ci := 3) rfl rfl rfl) rfl rfl hl.1 rfl (lv_room (Nat.le_of_ble_eq_true rfl)) dX3_readItems_117 ⟨Nat.zero_le _, Nat.zero_le _⟩) hP hD hS hA [0] [1, 2, 3, 4, 5, 6, 7, 8, 9, 10, 11, 12, 13] rfl rfl (by decide) (by decide) (fun _ H locs _ hP hD hS => ?_)
                      have hP : va_P G.1 vwCl [(h_t, .inr (3, [.ref h_t_tokens, .ref h_t_places, .int t_size, .int t_next, .int o19, .long t_when, .long t_then])), (h_t_tokens, .inl (G.2.1.2.1, 401, .inl t_tokens)), (h_u, .inr (2, [.ref h_u_always, .ref h_u_rules, .ref h_u_facts, .ref h_u_guesses, .long u_there, .long u_ground])), (h_u_always, .inr (5, [.ref h_u_always_kept, .int u_always_most, .int u_always_size])), (h_u_always_kept, .inl (G.2.1.2.2, 9, .inr (.inl u_always_kept))), (h_u_rules, .inr (4, [.ref h_u_rules_whens, .ref h_u_rules_thens, .ref h_u_rules_grades, .int u_rules_quarrel])), (h_u_rules_whens, .inr (5, [.ref h_u_rules_whens_kept, .int u_rules_whens_most, .int u_rules_whens_size])), (h_u_rules_whens_kept, .inl (G.2.1.2.2, 9, .inr (.inl u_rules_whens_kept))), (h_u_rules_thens, .inr (5, [.ref h_u_rules_thens_kept, .int u_rules_thens_most, .int u_rules_thens_size])), (h_u_rules_thens_kept, .inl (G.2.1.2.2, 9, .inr (.inl u_rules_thens_kept))), (h_u_facts, .inr (5, [.ref h_u_facts_kept, .int u_facts_most, .int u_facts_size])), (h_u_facts_kept, .inl (G.2.1.2.2, 9, .inr (.inl u_facts_kept))), (h_u_guesses, .inr (5, [.ref h_u_guesses_kept, .int u_guesses_most, .int u_guesses_size])), (h_u_guesses_kept, .inl (G.2.1.2.2, 9, .inr (.inl u_guesses_kept)))] H := hP.sub [13, 0, 1, 2, 3, 4, 5, 6, 7, 8, 9, 10, 11, 12] rfl
                      have hD : va_D A [(h_t, .inr (3, [.ref h_t_tokens, .ref h_t_places, .int t_size, .int t_next, .int o19, .long t_when, .long t_then])), (h_t_tokens, .inl (G.2.1.2.1, 401, .inl t_tokens)), (h_u, .inr (2, [.ref h_u_always, .ref h_u_rules, .ref h_u_facts, .ref h_u_guesses, .long u_there, .long u_ground])), (h_u_always, .inr (5, [.ref h_u_always_kept, .int u_always_most, .int u_always_size])), (h_u_always_kept, .inl (G.2.1.2.2, 9, .inr (.inl u_always_kept))), (h_u_rules, .inr (4, [.ref h_u_rules_whens, .ref h_u_rules_thens, .ref h_u_rules_grades, .int u_rules_quarrel])), (h_u_rules_whens, .inr (5, [.ref h_u_rules_whens_kept, .int u_rules_whens_most, .int u_rules_whens_size])), (h_u_rules_whens_kept, .inl (G.2.1.2.2, 9, .inr (.inl u_rules_whens_kept))), (h_u_rules_thens, .inr (5, [.ref h_u_rules_thens_kept, .int u_rules_thens_most, .int u_rules_thens_size])), (h_u_rules_thens_kept, .inl (G.2.1.2.2, 9, .inr (.inl u_rules_thens_kept))), (h_u_facts, .inr (5, [.ref h_u_facts_kept, .int u_facts_most, .int u_facts_size])), (h_u_facts_kept, .inl (G.2.1.2.2, 9, .inr (.inl u_facts_kept))), (h_u_guesses, .inr (5, [.ref h_u_guesses_kept, .int u_guesses_most, .int u_guesses_size])), (h_u_guesses_kept, .inl (G.2.1.2.2, 9, .inr (.inl u_guesses_kept)))] := hD.sub [13, 0, 1, 2, 3, 4, 5, 6, 7, 8, 9, 10, 11, 12] (by decide) rfl
                      obtain ⟨x20, ex20⟩ : ∃ y : Int32, y = (v2 + (1 : Int32)) := ⟨_, rfl⟩
                      have hf := lt_n hf x20 ex20
                      refine lv_iinc (v := x20) (lv' := [(2, .int x20), (0, .ref h_t), (1, .ref h_u)]) hx hb dX3_readItems_120 hl (k := 2) rfl (by rw [ex20]; rfl) (by decide) rfl (fun ls hl => ?_)
                      refine lv_goto (tgt := 6) hx hb dX3_readItems_123 (by decide) ?_
                      exact ih t_next o19 u_always_size u_always_kept u_rules_whens_size u_rules_whens_kept u_rules_thens_size u_rules_thens_kept u_facts_size u_facts_kept u_guesses_size u_guesses_kept x20 hf _ _ hP hD hS _ (lv_sub hl [1, 2, 0] rfl)
  unfold f_X3_readItems at hf
  refine en (fun H locs hP hD hS => ?_) hP hD
  refine lv_aload_n hx hb dX3_readItems_0 rfl (lv_at hl 1 rfl) ?_
  obtain ⟨o21, ho21, hf⟩ := bd_e hf
  refine af_v (wr := [(h_t, .inr (3, [.ref h_t_tokens, .ref h_t_places, .int t_size, .int t_next, .int t_token, .long t_when, .long t_then])), (h_t_tokens, .inl (G.2.1.2.1, 401, .inl t_tokens)), (h_u_always_kept, .inl (G.2.1.2.2, 9, .inr (.inl u_always_kept))), (h_u_rules_whens_kept, .inl (G.2.1.2.2, 9, .inr (.inl u_rules_whens_kept))), (h_u_rules_thens_kept, .inl (G.2.1.2.2, 9, .inr (.inl u_rules_thens_kept))), (h_u_facts_kept, .inl (G.2.1.2.2, 9, .inr (.inl u_facts_kept))), (h_u_guesses_kept, .inl (G.2.1.2.2, 9, .inr (.inl u_guesses_kept)))]) (va_runV (As := []) (rest := []) ⟨hx, hb, hml, hown, hts⟩ (c_X2_empty l G h_u h_u_always h_u_rules h_u_facts h_u_guesses h_u_always_kept h_u_rules_whens h_u_rules_thens h_u_rules_grades h_u_rules_whens_kept h_u_rules_thens_kept h_u_facts_kept h_u_guesses_kept H.size u_there u_ground u_always_most u_always_size u_rules_quarrel u_rules_whens_most u_rules_whens_size u_rules_thens_most u_rules_thens_size u_facts_most u_facts_size u_guesses_most u_guesses_size o21 ho21) (cwV 0 hts gX3_readItems_X2_empty rfl rfl rfl (by decide +kernel) ⟨Nat.le_of_ble_eq_true rfl, Nat.le_of_ble_eq_true rfl⟩) (pcA_preV hg hc hP hD hS hA [2, 3, 5, 6, 8, 10, 12] rfl (by decide) (q0 := 2) (ci := 2) rfl rfl rfl) rfl rfl hl.1 rfl (lv_room (Nat.le_of_ble_eq_true rfl)) dX3_readItems_1 ⟨Nat.zero_le _, Nat.zero_le _⟩) hP hD hS hA [2, 3, 5, 6, 8, 10, 12] [0, 1, 4, 7, 9, 11, 13] rfl rfl (by decide) (by decide) (fun _ H locs _ hP hD hS => ?_)
  have hP : va_P G.1 vwCl [(h_t, .inr (3, [.ref h_t_tokens, .ref h_t_places, .int t_size, .int t_next, .int t_token, .long t_when, .long t_then])), (h_t_tokens, .inl (G.2.1.2.1, 401, .inl t_tokens)), (h_u, .inr (2, [.ref h_u_always, .ref h_u_rules, .ref h_u_facts, .ref h_u_guesses, .long u_there, .long u_ground])), (h_u_always, .inr (5, [.ref h_u_always_kept, .int u_always_most, .int o21.1])), (h_u_always_kept, .inl (G.2.1.2.2, 9, .inr (.inl u_always_kept))), (h_u_rules, .inr (4, [.ref h_u_rules_whens, .ref h_u_rules_thens, .ref h_u_rules_grades, .int u_rules_quarrel])), (h_u_rules_whens, .inr (5, [.ref h_u_rules_whens_kept, .int u_rules_whens_most, .int o21.2.1])), (h_u_rules_whens_kept, .inl (G.2.1.2.2, 9, .inr (.inl u_rules_whens_kept))), (h_u_rules_thens, .inr (5, [.ref h_u_rules_thens_kept, .int u_rules_thens_most, .int o21.2.2.1])), (h_u_rules_thens_kept, .inl (G.2.1.2.2, 9, .inr (.inl u_rules_thens_kept))), (h_u_facts, .inr (5, [.ref h_u_facts_kept, .int u_facts_most, .int o21.2.2.2.1])), (h_u_facts_kept, .inl (G.2.1.2.2, 9, .inr (.inl u_facts_kept))), (h_u_guesses, .inr (5, [.ref h_u_guesses_kept, .int u_guesses_most, .int o21.2.2.2.2])), (h_u_guesses_kept, .inl (G.2.1.2.2, 9, .inr (.inl u_guesses_kept)))] H := hP.sub [0, 1, 7, 8, 2, 9, 10, 3, 11, 4, 12, 5, 13, 6] rfl
  have hD : va_D A [(h_t, .inr (3, [.ref h_t_tokens, .ref h_t_places, .int t_size, .int t_next, .int t_token, .long t_when, .long t_then])), (h_t_tokens, .inl (G.2.1.2.1, 401, .inl t_tokens)), (h_u, .inr (2, [.ref h_u_always, .ref h_u_rules, .ref h_u_facts, .ref h_u_guesses, .long u_there, .long u_ground])), (h_u_always, .inr (5, [.ref h_u_always_kept, .int u_always_most, .int o21.1])), (h_u_always_kept, .inl (G.2.1.2.2, 9, .inr (.inl u_always_kept))), (h_u_rules, .inr (4, [.ref h_u_rules_whens, .ref h_u_rules_thens, .ref h_u_rules_grades, .int u_rules_quarrel])), (h_u_rules_whens, .inr (5, [.ref h_u_rules_whens_kept, .int u_rules_whens_most, .int o21.2.1])), (h_u_rules_whens_kept, .inl (G.2.1.2.2, 9, .inr (.inl u_rules_whens_kept))), (h_u_rules_thens, .inr (5, [.ref h_u_rules_thens_kept, .int u_rules_thens_most, .int o21.2.2.1])), (h_u_rules_thens_kept, .inl (G.2.1.2.2, 9, .inr (.inl u_rules_thens_kept))), (h_u_facts, .inr (5, [.ref h_u_facts_kept, .int u_facts_most, .int o21.2.2.2.1])), (h_u_facts_kept, .inl (G.2.1.2.2, 9, .inr (.inl u_facts_kept))), (h_u_guesses, .inr (5, [.ref h_u_guesses_kept, .int u_guesses_most, .int o21.2.2.2.2])), (h_u_guesses_kept, .inl (G.2.1.2.2, 9, .inr (.inl u_guesses_kept)))] := hD.sub [0, 1, 7, 8, 2, 9, 10, 3, 11, 4, 12, 5, 13, 6] (by decide) rfl
  refine lv_iconst (v := (0 : Int32)) hx hb dX3_readItems_4 (by decide) ?_
  refine lv_istore_n (lv' := [(2, .int (0 : Int32)), (0, .ref h_t), (1, .ref h_u)]) hx hb dX3_readItems_5 rfl hl (by decide) rfl (fun ls hl => ?_)
  exact hw_6 fu t_next t_token o21.1 u_always_kept o21.2.1 u_rules_whens_kept o21.2.2.1 u_rules_thens_kept o21.2.2.2.1 u_facts_kept o21.2.2.2.2 u_guesses_kept (0 : Int32) hf _ _ hP hD hS _ (lv_sub hl [1, 2, 0] rfl)
-- method X3_readQuestion
def jn_X3_readQuestion_37 (t_size : Int32) (t_tokens : Nat → Int32) (t_next : Int32) (t_token : Int32) (t_when : Int64) (t_then : Int64) : Option (Int32 × Int32 × Int64 × Int64) :=
  bd (f_X3_saying (f_one 9) t_size t_next t_token t_tokens (0 : Int32)) (fun o1 => if o1.2.2 = (256 : Int32) then some (o1.2.1, o1.2.2, t_when, o1.1) else bd (f_X3_refuse o1.2.2) (fun o3 => some (o1.2.1, o3, t_when, o1.1)))
def f_X3_readQuestion (t_size : Int32) (t_next : Int32) (t_token : Int32) (t_when : Int64) (t_then : Int64) (t_tokens : Nat → Int32) : Option (Int32 × Int32 × Int64 × Int64) :=
  if t_token = (259 : Int32) then bd (f_X3_take t_size t_next t_token t_tokens) (fun o5 => bd (f_X3_saying (f_one 9) t_size o5.1 o5.2 t_tokens (0 : Int32)) (fun o6 => bd (f_X3_expect t_size o6.2.1 o6.2.2 t_tokens (260 : Int32)) (fun o7 => jn_X3_readQuestion_37 t_size t_tokens o7.1 o7.2 o6.1 t_then))) else jn_X3_readQuestion_37 t_size t_tokens t_next t_token (-1 : Int64) t_then
set_option maxHeartbeats 4000000 in
set_option maxRecDepth 100000 in
theorem c_X3_readQuestion (l : Launch) (G : GG) (h_t h_t_tokens h_t_places : Nat) (sz : Nat) (t_size : Int32) (t_next : Int32) (t_token : Int32) (t_when : Int64) (t_then : Int64) (t_tokens : Nat → Int32)  (o : Int32 × Int32 × Int64 × Int64) (ho : f_X3_readQuestion t_size t_next t_token t_when t_then t_tokens = some o)  : Met l yX3_readQuestion wsX3_readQuestion ({ frames := 32, cells := 0, slots := 0, locals := 761 } : Room) (pcA G [.ref h_t] [(h_t, .inr (3, [.ref h_t_tokens, .ref h_t_places, .int t_size, .int t_next, .int t_token, .long t_when, .long t_then])), (h_t_tokens, .inl (G.2.1.2.1, 401, .inl t_tokens))] sz) (qcV Unit G (fun _ => True) (fun _ => [(h_t, .inr (3, [.ref h_t_tokens, .ref h_t_places, .int t_size, .int o.1, .int o.2.1, .long o.2.2.1, .long o.2.2.2])), (h_t_tokens, .inl (G.2.1.2.1, 401, .inl t_tokens))]) (va_A [(h_t, .inr (3, [.ref h_t_tokens, .ref h_t_places, .int t_size, .int t_next, .int t_token, .long t_when, .long t_then])), (h_t_tokens, .inl (G.2.1.2.1, 401, .inl t_tokens))] sz)) 0 0 (va_A [(h_t, .inr (3, [.ref h_t_tokens, .ref h_t_places, .int t_size, .int t_next, .int t_token, .long t_when, .long t_then])), (h_t_tokens, .inl (G.2.1.2.1, 401, .inl t_tokens))] sz) := by
  refine Met.ofW (cc := cX3_readQuestion) (maxL := 1) (ret := none) (by decide) rfl ?_
  intro p e s m args below meth c s₁ B hml hv
  obtain ⟨rfl, hsz, hP, hg, hD0, hc⟩ := hv
  have hx := B.exec
  have hb := B.bytes
  have hr := B.returns
  have hts := atoms_spec (ws := wsX3_readQuestion) B.pre
  have hown : s.vm.findClass RX3 = some m.cls := findClass_of_methodNamed B.named
  have hlocks := B.notSynchronized
  subst hsz
  have hD := hD0.self (sz := s.heap.size)
  generalize hAe : va_A [(h_t, .inr (3, [.ref h_t_tokens, .ref h_t_places, .int t_size, .int t_next, .int t_token, .long t_when, .long t_then])), (h_t_tokens, .inl (G.2.1.2.1, 401, .inl t_tokens))] s.heap.size = A at hD hc ⊢
  have hA : ∀ q : Nat, s.heap.size ≤ q → A q := fun q h => by rw [← hAe]; exact Or.inr h
  have hiX3 : ∀ w ∈ wsX30, w ∈ wsX3_readQuestion := by decide +kernel
  have hl := lv_entry ([.ref h_t]) (n := 1) (Nat.le_of_ble_eq_true rfl)
  rw [lg_entry_eq]
  generalize (lg_sl ([.ref h_t]) ++ List.replicate (1 - (lg_sl ([.ref h_t])).length) Slot.unset).toArray = ls at hl ⊢
  have hl : lv_has ls 1 [(0, .ref h_t)] := hl
  have hf := ho
  have hw_37 : ∀ (t_next : Int32) (t_token : Int32) (t_when : Int64) (t_then : Int64), jn_X3_readQuestion_37 t_size t_tokens t_next t_token t_when t_then = some o → ∀ (H : Heap) (locs : List Loc), va_P G.1 vwCl [(h_t, .inr (3, [.ref h_t_tokens, .ref h_t_places, .int t_size, .int t_next, .int t_token, .long t_when, .long t_then])), (h_t_tokens, .inl (G.2.1.2.1, 401, .inl t_tokens))] H → va_D A [(h_t, .inr (3, [.ref h_t_tokens, .ref h_t_places, .int t_size, .int t_next, .int t_token, .long t_when, .long t_then])), (h_t_tokens, .inl (G.2.1.2.1, 401, .inl t_tokens))] → va_S A s.heap H locs → ∀ (ls : Array Slot), lv_has ls 1 [(0, .ref h_t)] → W p l e (headSpec wsX3_readQuestion ({ frames := 32, cells := 0, slots := 0, locals := 761 } : Room)).room s m ([.ref h_t] : List Value).toArray below meth c H locs 0 0 (MQ below (qcV Unit G (fun _ => True) (fun _ => [(h_t, .inr (3, [.ref h_t_tokens, .ref h_t_places, .int t_size, .int o.1, .int o.2.1, .long o.2.2.1, .long o.2.2.2])), (h_t_tokens, .inl (G.2.1.2.1, 401, .inl t_tokens))]) A) ([.ref h_t] : List Value).toArray s 0 0 A) (F0 m 37 ls []) := by
    intro t_next t_token t_when t_then hf H locs hP hD hS ls hl
    unfold jn_X3_readQuestion_37 at hf
    refine lv_aload_n hx hb dX3_readQuestion_37 rfl (lv_at hl 0 rfl) ?_
    refine lv_aload_n hx hb dX3_readQuestion_38 rfl (lv_at hl 0 rfl) ?_
    refine lv_iconst (v := (0 : Int32)) hx hb dX3_readQuestion_39 (by decide) ?_
    obtain ⟨o1, ho1, hf⟩ := bd_e hf
    refine af_l (wr := []) (va_runV (As := [.int (0 : Int32)]) (rest := [.ref h_t]) ⟨hx, hb, hml, hown, hts⟩ (c_X3_saying l G 9 (f_one 9) (c_one l G 9) h_t h_t_tokens h_t_places H.size t_size t_next t_token t_when t_then t_tokens (0 : Int32) o1 ho1) (cwV 1 hts gX3_readQuestion_X3_saying rfl rfl rfl (by decide +kernel) ⟨Nat.le_of_ble_eq_true rfl, Nat.le_of_ble_eq_true rfl⟩) (pcA_preV hg hc hP hD hS hA [0, 1] rfl (by decide) (q0 := 0) (ci := 3) rfl rfl rfl) rfl rfl hl.1 rfl (lv_room (Nat.le_of_ble_eq_true rfl)) dX3_readQuestion_40 ⟨Nat.zero_le _, Nat.zero_le _⟩) hP hD hS hA [0, 1] [] rfl rfl (by decide) (by decide) (fun _ H locs _ hP hD hS => ?_)
    have hP : va_P G.1 vwCl [(h_t, .inr (3, [.ref h_t_tokens, .ref h_t_places, .int t_size, .int o1.2.1, .int o1.2.2, .long t_when, .long t_then])), (h_t_tokens, .inl (G.2.1.2.1, 401, .inl t_tokens))] H := hP
    have hD : va_D A [(h_t, .inr (3, [.ref h_t_tokens, .ref h_t_places, .int t_size, .int o1.2.1, .int o1.2.2, .long t_when, .long t_then])), (h_t_tokens, .inl (G.2.1.2.1, 401, .inl t_tokens))] := hD
    refine va_put (D := G.1) (ci := 3) (v := .long o1.1) (ty := .long) (C := RX3) (T := TX3) (N := 7) hx hb hts hiX3 tyX3 tyX3_ok nmX3 hown hg.1 hP hD hS 0 rfl rfl 6 (by decide) (hts (.fieldLink RX3 34 "AsARule$Reader" "then" "J") (by decide +kernel)) (fun _ h9 => h9) rfl (by decide +kernel) rfl rfl (Nat.le_of_ble_eq_true rfl) dX3_readQuestion_43 (fun H locs hP hD hS => ?_)
    have hP : va_P G.1 vwCl [(h_t, .inr (3, [.ref h_t_tokens, .ref h_t_places, .int t_size, .int o1.2.1, .int o1.2.2, .long t_when, .long o1.1])), (h_t_tokens, .inl (G.2.1.2.1, 401, .inl t_tokens))] H := hP
    have hD : va_D A [(h_t, .inr (3, [.ref h_t_tokens, .ref h_t_places, .int t_size, .int o1.2.1, .int o1.2.2, .long t_when, .long o1.1])), (h_t_tokens, .inl (G.2.1.2.1, 401, .inl t_tokens))] := hD
    refine lv_aload_n hx hb dX3_readQuestion_46 rfl (lv_at hl 0 rfl) ?_
    refine va_get (D := G.1) (ci := 3) (v := .int o1.2.2) (C := RX3) (T := TX3) (N := 7) hx hb hts hiX3 hown hg.1 hP 0 rfl rfl 4 (by decide) (hts (.fieldLink RX3 25 "AsARule$Reader" "token" "I") (by decide +kernel)) (fun _ h9 => h9) rfl dX3_readQuestion_47 ?_
    refine lv_sipush (v := (256 : Int32)) hx hb dX3_readQuestion_50 (by decide) ?_
    refine lv_icmp_eq (tgt := 60) hx hb dX3_readQuestion_53 (by decide) (fun c2 => ?_) (fun c2 => ?_)
    · have hf := it_t c2 hf
      rw [← Option.some.inj hf]
      exact rt_v (u := ()) hx hb hr hlocks hP hD trivial hS dX3_readQuestion_60
    · have hf := it_f c2 hf
      refine lv_aload_n hx hb dX3_readQuestion_56 rfl (lv_at hl 0 rfl) ?_
      obtain ⟨o3, ho3, hf⟩ := bd_e hf
      refine af_v (wr := [(h_t_tokens, .inl (G.2.1.2.1, 401, .inl t_tokens))]) (va_runV (As := []) (rest := []) ⟨hx, hb, hml, hown, hts⟩ (c_X3_refuse l G h_t h_t_tokens h_t_places H.size t_size o1.2.1 o1.2.2 t_when o1.1 o3 ho3) (cwV 0 hts gX3_readQuestion_X3_refuse rfl rfl rfl (by decide +kernel) ⟨Nat.le_of_ble_eq_true rfl, Nat.le_of_ble_eq_true rfl⟩) (pcA_preV hg hc hP hD hS hA [0] rfl (by decide) (q0 := 0) (ci := 3) rfl rfl rfl) rfl rfl hl.1 rfl (lv_room (Nat.le_of_ble_eq_true rfl)) dX3_readQuestion_57 ⟨Nat.zero_le _, Nat.zero_le _⟩) hP hD hS hA [0] [1] rfl rfl (by decide) (by decide) (fun _ H locs _ hP hD hS => ?_)
      have hP : va_P G.1 vwCl [(h_t, .inr (3, [.ref h_t_tokens, .ref h_t_places, .int t_size, .int o1.2.1, .int o3, .long t_when, .long o1.1])), (h_t_tokens, .inl (G.2.1.2.1, 401, .inl t_tokens))] H := hP.sub [1, 0] rfl
      have hD : va_D A [(h_t, .inr (3, [.ref h_t_tokens, .ref h_t_places, .int t_size, .int o1.2.1, .int o3, .long t_when, .long o1.1])), (h_t_tokens, .inl (G.2.1.2.1, 401, .inl t_tokens))] := hD.sub [1, 0] (by decide) rfl
      rw [← Option.some.inj hf]
      exact rt_v (u := ()) hx hb hr hlocks hP hD trivial hS dX3_readQuestion_60
  unfold f_X3_readQuestion at hf
  refine en (fun H locs hP hD hS => ?_) hP hD
  refine lv_aload_n hx hb dX3_readQuestion_0 rfl (lv_at hl 0 rfl) ?_
  refine lv_ldc2 (v := (-1 : Int64)) hx hb hown (hts (.constantLong RX3 28 (-1 : Int64)) (by decide +kernel)) dX3_readQuestion_1 ?_
  refine va_put (D := G.1) (ci := 3) (v := .long (-1 : Int64)) (ty := .long) (C := RX3) (T := TX3) (N := 7) hx hb hts hiX3 tyX3 tyX3_ok nmX3 hown hg.1 hP hD hS 0 rfl rfl 5 (by decide) (hts (.fieldLink RX3 30 "AsARule$Reader" "when" "J") (by decide +kernel)) (fun _ h9 => h9) rfl (by decide +kernel) rfl rfl (Nat.le_of_ble_eq_true rfl) dX3_readQuestion_4 (fun H locs hP hD hS => ?_)
  have hP : va_P G.1 vwCl [(h_t, .inr (3, [.ref h_t_tokens, .ref h_t_places, .int t_size, .int t_next, .int t_token, .long (-1 : Int64), .long t_then])), (h_t_tokens, .inl (G.2.1.2.1, 401, .inl t_tokens))] H := hP
  have hD : va_D A [(h_t, .inr (3, [.ref h_t_tokens, .ref h_t_places, .int t_size, .int t_next, .int t_token, .long (-1 : Int64), .long t_then])), (h_t_tokens, .inl (G.2.1.2.1, 401, .inl t_tokens))] := hD
  refine lv_aload_n hx hb dX3_readQuestion_7 rfl (lv_at hl 0 rfl) ?_
  refine va_get (D := G.1) (ci := 3) (v := .int t_token) (C := RX3) (T := TX3) (N := 7) hx hb hts hiX3 hown hg.1 hP 0 rfl rfl 4 (by decide) (hts (.fieldLink RX3 25 "AsARule$Reader" "token" "I") (by decide +kernel)) (fun _ h9 => h9) rfl dX3_readQuestion_8 ?_
  refine lv_sipush (v := (259 : Int32)) hx hb dX3_readQuestion_11 (by decide) ?_
  refine lv_icmp_ne (tgt := 37) hx hb dX3_readQuestion_14 (by decide) (fun c4 => ?_) (fun c4 => ?_)
  · have hf := it_f c4 hf
    exact hw_37 t_next t_token (-1 : Int64) t_then hf _ _ hP hD hS _ hl
  · have hf := it_t c4 hf
    refine lv_aload_n hx hb dX3_readQuestion_17 rfl (lv_at hl 0 rfl) ?_
    obtain ⟨o5, ho5, hf⟩ := bd_e hf
    refine af_v (wr := []) (va_runV (As := []) (rest := []) ⟨hx, hb, hml, hown, hts⟩ (c_X3_take l G h_t h_t_tokens h_t_places H.size t_size t_next t_token (-1 : Int64) t_then t_tokens o5 ho5) (cwV 0 hts gX3_readQuestion_X3_take rfl rfl rfl (by decide +kernel) ⟨Nat.le_of_ble_eq_true rfl, Nat.le_of_ble_eq_true rfl⟩) (pcA_preV hg hc hP hD hS hA [0, 1] rfl (by decide) (q0 := 0) (ci := 3) rfl rfl rfl) rfl rfl hl.1 rfl (lv_room (Nat.le_of_ble_eq_true rfl)) dX3_readQuestion_18 ⟨Nat.zero_le _, Nat.zero_le _⟩) hP hD hS hA [0, 1] [] rfl rfl (by decide) (by decide) (fun _ H locs _ hP hD hS => ?_)
    have hP : va_P G.1 vwCl [(h_t, .inr (3, [.ref h_t_tokens, .ref h_t_places, .int t_size, .int o5.1, .int o5.2, .long (-1 : Int64), .long t_then])), (h_t_tokens, .inl (G.2.1.2.1, 401, .inl t_tokens))] H := hP
    have hD : va_D A [(h_t, .inr (3, [.ref h_t_tokens, .ref h_t_places, .int t_size, .int o5.1, .int o5.2, .long (-1 : Int64), .long t_then])), (h_t_tokens, .inl (G.2.1.2.1, 401, .inl t_tokens))] := hD
    refine lv_aload_n hx hb dX3_readQuestion_21 rfl (lv_at hl 0 rfl) ?_
    refine lv_aload_n hx hb dX3_readQuestion_22 rfl (lv_at hl 0 rfl) ?_
    refine lv_iconst (v := (0 : Int32)) hx hb dX3_readQuestion_23 (by decide) ?_
    obtain ⟨o6, ho6, hf⟩ := bd_e hf
    refine af_l (wr := []) (va_runV (As := [.int (0 : Int32)]) (rest := [.ref h_t]) ⟨hx, hb, hml, hown, hts⟩ (c_X3_saying l G 9 (f_one 9) (c_one l G 9) h_t h_t_tokens h_t_places H.size t_size o5.1 o5.2 (-1 : Int64) t_then t_tokens (0 : Int32) o6 ho6) (cwV 1 hts gX3_readQuestion_X3_saying rfl rfl rfl (by decide +kernel) ⟨Nat.le_of_ble_eq_true rfl, Nat.le_of_ble_eq_true rfl⟩) (pcA_preV hg hc hP hD hS hA [0, 1] rfl (by decide) (q0 := 0) (ci := 3) rfl rfl rfl) rfl rfl hl.1 rfl (lv_room (Nat.le_of_ble_eq_true rfl)) dX3_readQuestion_24 ⟨Nat.zero_le _, Nat.zero_le _⟩) hP hD hS hA [0, 1] [] rfl rfl (by decide) (by decide) (fun _ H locs _ hP hD hS => ?_)
    have hP : va_P G.1 vwCl [(h_t, .inr (3, [.ref h_t_tokens, .ref h_t_places, .int t_size, .int o6.2.1, .int o6.2.2, .long (-1 : Int64), .long t_then])), (h_t_tokens, .inl (G.2.1.2.1, 401, .inl t_tokens))] H := hP
    have hD : va_D A [(h_t, .inr (3, [.ref h_t_tokens, .ref h_t_places, .int t_size, .int o6.2.1, .int o6.2.2, .long (-1 : Int64), .long t_then])), (h_t_tokens, .inl (G.2.1.2.1, 401, .inl t_tokens))] := hD
    refine va_put (D := G.1) (ci := 3) (v := .long o6.1) (ty := .long) (C := RX3) (T := TX3) (N := 7) hx hb hts hiX3 tyX3 tyX3_ok nmX3 hown hg.1 hP hD hS 0 rfl rfl 5 (by decide) (hts (.fieldLink RX3 30 "AsARule$Reader" "when" "J") (by decide +kernel)) (fun _ h9 => h9) rfl (by decide +kernel) rfl rfl (Nat.le_of_ble_eq_true rfl) dX3_readQuestion_27 (fun H locs hP hD hS => ?_)
    have hP : va_P G.1 vwCl [(h_t, .inr (3, [.ref h_t_tokens, .ref h_t_places, .int t_size, .int o6.2.1, .int o6.2.2, .long o6.1, .long t_then])), (h_t_tokens, .inl (G.2.1.2.1, 401, .inl t_tokens))] H := hP
    have hD : va_D A [(h_t, .inr (3, [.ref h_t_tokens, .ref h_t_places, .int t_size, .int o6.2.1, .int o6.2.2, .long o6.1, .long t_then])), (h_t_tokens, .inl (G.2.1.2.1, 401, .inl t_tokens))] := hD
    refine lv_aload_n hx hb dX3_readQuestion_30 rfl (lv_at hl 0 rfl) ?_
    refine lv_sipush (v := (260 : Int32)) hx hb dX3_readQuestion_31 (by decide) ?_
    obtain ⟨o7, ho7, hf⟩ := bd_e hf
    refine af_v (wr := []) (va_runV (As := [.int (260 : Int32)]) (rest := []) ⟨hx, hb, hml, hown, hts⟩ (c_X3_expect l G h_t h_t_tokens h_t_places H.size t_size o6.2.1 o6.2.2 o6.1 t_then t_tokens (260 : Int32) o7 ho7) (cwV 1 hts gX3_readQuestion_X3_expect rfl rfl rfl (by decide +kernel) ⟨Nat.le_of_ble_eq_true rfl, Nat.le_of_ble_eq_true rfl⟩) (pcA_preV hg hc hP hD hS hA [0, 1] rfl (by decide) (q0 := 0) (ci := 3) rfl rfl rfl) rfl rfl hl.1 rfl (lv_room (Nat.le_of_ble_eq_true rfl)) dX3_readQuestion_34 ⟨Nat.zero_le _, Nat.zero_le _⟩) hP hD hS hA [0, 1] [] rfl rfl (by decide) (by decide) (fun _ H locs _ hP hD hS => ?_)
    have hP : va_P G.1 vwCl [(h_t, .inr (3, [.ref h_t_tokens, .ref h_t_places, .int t_size, .int o7.1, .int o7.2, .long o6.1, .long t_then])), (h_t_tokens, .inl (G.2.1.2.1, 401, .inl t_tokens))] H := hP
    have hD : va_D A [(h_t, .inr (3, [.ref h_t_tokens, .ref h_t_places, .int t_size, .int o7.1, .int o7.2, .long o6.1, .long t_then])), (h_t_tokens, .inl (G.2.1.2.1, 401, .inl t_tokens))] := hD
    exact hw_37 o7.1 o7.2 o6.1 t_then hf _ _ hP hD hS _ hl
