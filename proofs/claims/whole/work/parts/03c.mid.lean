-- method X1_size
def f_X1_size (t_size : Int32) : Option (Int32) :=
  some (t_size)
set_option maxHeartbeats 4000000 in
set_option maxRecDepth 100000 in
theorem c_X1_size (l : Launch) (G : GG) (h_t h_t_sets h_t_lefts : Nat) (sz : Nat) (t_size : Int32)  (o : Int32) (ho : f_X1_size t_size = some o)  : Met l yX1_size wsX1_size ({ frames := 0, cells := 0, slots := 0, locals := 0 } : Room) (pcA G [.ref h_t] [(h_t, .inr (1, [.ref h_t_sets, .ref h_t_lefts, .int t_size]))] sz) (qcI Unit G o (fun _ => True) (fun _ => [(h_t, .inr (1, [.ref h_t_sets, .ref h_t_lefts, .int t_size]))]) (va_A [(h_t, .inr (1, [.ref h_t_sets, .ref h_t_lefts, .int t_size]))] sz)) 0 0 (va_A [(h_t, .inr (1, [.ref h_t_sets, .ref h_t_lefts, .int t_size]))] sz) := by
  refine Met.ofW (cc := cX1_size) (maxL := 1) (ret := (some .int)) (by decide) rfl ?_
  intro p e s m args below meth c s₁ B hml hv
  obtain ⟨rfl, hsz, hP, hg, hD0, hc⟩ := hv
  have hx := B.exec
  have hb := B.bytes
  have hr := B.returns
  have hts := atoms_spec (ws := wsX1_size) B.pre
  have hown : s.vm.findClass RX1 = some m.cls := findClass_of_methodNamed B.named
  have hlocks := B.notSynchronized
  subst hsz
  have hD := hD0.self (sz := s.heap.size)
  generalize hAe : va_A [(h_t, .inr (1, [.ref h_t_sets, .ref h_t_lefts, .int t_size]))] s.heap.size = A at hD hc ⊢
  have hA : ∀ q : Nat, s.heap.size ≤ q → A q := fun q h => by rw [← hAe]; exact Or.inr h
  have hiX1 : ∀ w ∈ wsX10, w ∈ wsX1_size := by decide +kernel
  have hl := lv_entry ([.ref h_t]) (n := 1) (Nat.le_of_ble_eq_true rfl)
  rw [lg_entry_eq]
  generalize (lg_sl ([.ref h_t]) ++ List.replicate (1 - (lg_sl ([.ref h_t])).length) Slot.unset).toArray = ls at hl ⊢
  have hl : lv_has ls 1 [(0, .ref h_t)] := hl
  have hf := ho
  unfold f_X1_size at hf
  refine en (fun H locs hP hD hS => ?_) hP hD
  refine lv_aload_n hx hb dX1_size_0 rfl (lv_at hl 0 rfl) ?_
  refine va_get (D := G.1) (ci := 1) (v := .int t_size) (C := RX1) (T := TX1) (N := 3) hx hb hts hiX1 hown hg.1 hP 0 rfl rfl 2 (by decide) (hts (.fieldLink RX1 19 "AsARule$Ends" "size" "I") (by decide +kernel)) (fun _ h9 => h9) rfl dX1_size_1 ?_
  rw [← Option.some.inj hf]
  exact rt_i (u := ()) hx hb hr hlocks hP hD trivial hS dX1_size_4
-- method X1_has
def f_X1_has (t_size : Int32) (a1 : Int32) : Option (Int32) :=
  if a1 < (0 : Int32) then some ((0 : Int32)) else if t_size ≤ a1 then some ((0 : Int32)) else some ((1 : Int32))
set_option maxHeartbeats 4000000 in
set_option maxRecDepth 100000 in
theorem c_X1_has (l : Launch) (G : GG) (h_t h_t_sets h_t_lefts : Nat) (sz : Nat) (t_size : Int32) (a1 : Int32) (o : Int32) (ho : f_X1_has t_size a1 = some o)  : Met l yX1_has wsX1_has ({ frames := 0, cells := 0, slots := 0, locals := 0 } : Room) (pcA G [.ref h_t, .int a1] [(h_t, .inr (1, [.ref h_t_sets, .ref h_t_lefts, .int t_size]))] sz) (qcI Unit G o (fun _ => True) (fun _ => [(h_t, .inr (1, [.ref h_t_sets, .ref h_t_lefts, .int t_size]))]) (va_A [(h_t, .inr (1, [.ref h_t_sets, .ref h_t_lefts, .int t_size]))] sz)) 0 0 (va_A [(h_t, .inr (1, [.ref h_t_sets, .ref h_t_lefts, .int t_size]))] sz) := by
  refine Met.ofW (cc := cX1_has) (maxL := 2) (ret := (some .boolean)) (by decide) rfl ?_
  intro p e s m args below meth c s₁ B hml hv
  obtain ⟨rfl, hsz, hP, hg, hD0, hc⟩ := hv
  have hx := B.exec
  have hb := B.bytes
  have hr := B.returns
  have hts := atoms_spec (ws := wsX1_has) B.pre
  have hown : s.vm.findClass RX1 = some m.cls := findClass_of_methodNamed B.named
  have hlocks := B.notSynchronized
  subst hsz
  have hD := hD0.self (sz := s.heap.size)
  generalize hAe : va_A [(h_t, .inr (1, [.ref h_t_sets, .ref h_t_lefts, .int t_size]))] s.heap.size = A at hD hc ⊢
  have hA : ∀ q : Nat, s.heap.size ≤ q → A q := fun q h => by rw [← hAe]; exact Or.inr h
  have hiX1 : ∀ w ∈ wsX10, w ∈ wsX1_has := by decide +kernel
  have hl := lv_entry ([.ref h_t, .int a1]) (n := 2) (Nat.le_of_ble_eq_true rfl)
  rw [lg_entry_eq]
  generalize (lg_sl ([.ref h_t, .int a1]) ++ List.replicate (2 - (lg_sl ([.ref h_t, .int a1])).length) Slot.unset).toArray = ls at hl ⊢
  have hl : lv_has ls 2 [(0, .ref h_t), (1, .int a1)] := hl
  have hf := ho
  unfold f_X1_has at hf
  refine en (fun H locs hP hD hS => ?_) hP hD
  refine lv_iload_n hx hb dX1_has_0 rfl (lv_at hl 1 rfl) ?_
  refine lv_if_lt (tgt := 16) hx hb dX1_has_1 (by decide) (fun c1 => ?_) (fun c1 => ?_)
  · have hf := it_t c1 hf
    refine lv_iconst (v := (0 : Int32)) hx hb dX1_has_16 (by decide) ?_
    rw [← Option.some.inj hf]
    exact rt_z (u := ()) hx hb hr zb_0 hlocks hP hD trivial hS dX1_has_17
  · have hf := it_f c1 hf
    refine lv_iload_n hx hb dX1_has_4 rfl (lv_at hl 1 rfl) ?_
    refine lv_aload_n hx hb dX1_has_5 rfl (lv_at hl 0 rfl) ?_
    refine va_get (D := G.1) (ci := 1) (v := .int t_size) (C := RX1) (T := TX1) (N := 3) hx hb hts hiX1 hown hg.1 hP 0 rfl rfl 2 (by decide) (hts (.fieldLink RX1 19 "AsARule$Ends" "size" "I") (by decide +kernel)) (fun _ h9 => h9) rfl dX1_has_6 ?_
    refine lv_icmp_ge (tgt := 16) hx hb dX1_has_9 (by decide) (fun c2 => ?_) (fun c2 => ?_)
    · have hf := it_t c2 hf
      refine lv_iconst (v := (0 : Int32)) hx hb dX1_has_16 (by decide) ?_
      rw [← Option.some.inj hf]
      exact rt_z (u := ()) hx hb hr zb_0 hlocks hP hD trivial hS dX1_has_17
    · have hf := it_f c2 hf
      refine lv_iconst (v := (1 : Int32)) hx hb dX1_has_12 (by decide) ?_
      refine lv_goto (tgt := 17) hx hb dX1_has_13 (by decide) ?_
      rw [← Option.some.inj hf]
      exact rt_z (u := ()) hx hb hr zb_1 hlocks hP hD trivial hS dX1_has_17
-- method X1_setAt
def f_X1_setAt (t_size : Int32) (t_sets : Nat → Int32) (a1 : Int32) : Option (Int32) :=
  if a1 < (0 : Int32) then some ((0 : Int32)) else if t_size ≤ a1 then some ((0 : Int32)) else if (256 : Int32) ≤ a1 then some ((0 : Int32)) else gd (ib a1 256) (some ((t_sets a1.toNatClampNeg)))
set_option maxHeartbeats 4000000 in
set_option maxRecDepth 100000 in
theorem c_X1_setAt (l : Launch) (G : GG) (h_t h_t_sets h_t_lefts : Nat) (sz : Nat) (t_size : Int32) (t_sets : Nat → Int32) (a1 : Int32) (o : Int32) (ho : f_X1_setAt t_size t_sets a1 = some o)  : Met l yX1_setAt wsX1_setAt ({ frames := 0, cells := 0, slots := 0, locals := 0 } : Room) (pcA G [.ref h_t, .int a1] [(h_t, .inr (1, [.ref h_t_sets, .ref h_t_lefts, .int t_size])), (h_t_sets, .inl (G.2.1.2.1, 256, .inl t_sets))] sz) (qcI Unit G o (fun _ => True) (fun _ => [(h_t, .inr (1, [.ref h_t_sets, .ref h_t_lefts, .int t_size])), (h_t_sets, .inl (G.2.1.2.1, 256, .inl t_sets))]) (va_A [(h_t, .inr (1, [.ref h_t_sets, .ref h_t_lefts, .int t_size])), (h_t_sets, .inl (G.2.1.2.1, 256, .inl t_sets))] sz)) 0 0 (va_A [(h_t, .inr (1, [.ref h_t_sets, .ref h_t_lefts, .int t_size])), (h_t_sets, .inl (G.2.1.2.1, 256, .inl t_sets))] sz) := by
  refine Met.ofW (cc := cX1_setAt) (maxL := 2) (ret := (some .int)) (by decide) rfl ?_
  intro p e s m args below meth c s₁ B hml hv
  obtain ⟨rfl, hsz, hP, hg, hD0, hc⟩ := hv
  have hx := B.exec
  have hb := B.bytes
  have hr := B.returns
  have hts := atoms_spec (ws := wsX1_setAt) B.pre
  have hown : s.vm.findClass RX1 = some m.cls := findClass_of_methodNamed B.named
  have hlocks := B.notSynchronized
  subst hsz
  have hD := hD0.self (sz := s.heap.size)
  generalize hAe : va_A [(h_t, .inr (1, [.ref h_t_sets, .ref h_t_lefts, .int t_size])), (h_t_sets, .inl (G.2.1.2.1, 256, .inl t_sets))] s.heap.size = A at hD hc ⊢
  have hA : ∀ q : Nat, s.heap.size ≤ q → A q := fun q h => by rw [← hAe]; exact Or.inr h
  have hiX1 : ∀ w ∈ wsX10, w ∈ wsX1_setAt := by decide +kernel
  have hl := lv_entry ([.ref h_t, .int a1]) (n := 2) (Nat.le_of_ble_eq_true rfl)
  rw [lg_entry_eq]
  generalize (lg_sl ([.ref h_t, .int a1]) ++ List.replicate (2 - (lg_sl ([.ref h_t, .int a1])).length) Slot.unset).toArray = ls at hl ⊢
  have hl : lv_has ls 2 [(0, .ref h_t), (1, .int a1)] := hl
  have hf := ho
  unfold f_X1_setAt at hf
  refine en (fun H locs hP hD hS => ?_) hP hD
  refine lv_iload_n hx hb dX1_setAt_0 rfl (lv_at hl 1 rfl) ?_
  refine lv_if_lt (tgt := 30) hx hb dX1_setAt_1 (by decide) (fun c1 => ?_) (fun c1 => ?_)
  · have hf := it_t c1 hf
    refine lv_iconst (v := (0 : Int32)) hx hb dX1_setAt_30 (by decide) ?_
    rw [← Option.some.inj hf]
    exact rt_i (u := ()) hx hb hr hlocks hP hD trivial hS dX1_setAt_31
  · have hf := it_f c1 hf
    refine lv_iload_n hx hb dX1_setAt_4 rfl (lv_at hl 1 rfl) ?_
    refine lv_aload_n hx hb dX1_setAt_5 rfl (lv_at hl 0 rfl) ?_
    refine va_get (D := G.1) (ci := 1) (v := .int t_size) (C := RX1) (T := TX1) (N := 3) hx hb hts hiX1 hown hg.1 hP 0 rfl rfl 2 (by decide) (hts (.fieldLink RX1 19 "AsARule$Ends" "size" "I") (by decide +kernel)) (fun _ h9 => h9) rfl dX1_setAt_6 ?_
    refine lv_icmp_ge (tgt := 30) hx hb dX1_setAt_9 (by decide) (fun c2 => ?_) (fun c2 => ?_)
    · have hf := it_t c2 hf
      refine lv_iconst (v := (0 : Int32)) hx hb dX1_setAt_30 (by decide) ?_
      rw [← Option.some.inj hf]
      exact rt_i (u := ()) hx hb hr hlocks hP hD trivial hS dX1_setAt_31
    · have hf := it_f c2 hf
      refine lv_iload_n hx hb dX1_setAt_12 rfl (lv_at hl 1 rfl) ?_
      refine lv_aload_n hx hb dX1_setAt_13 rfl (lv_at hl 0 rfl) ?_
      refine va_get (D := G.1) (ci := 1) (v := .ref h_t_sets) (C := RX1) (T := TX1) (N := 3) hx hb hts hiX1 hown hg.1 hP 0 rfl rfl 0 (by decide) (hts (.fieldLink RX1 9 "AsARule$Ends" "sets" "[I") (by decide +kernel)) (fun _ h9 => h9) rfl dX1_setAt_14 ?_
      refine va_alen (v := (256 : Int32)) hx hb hg.1 hP 1 1 rfl rfl rfl dX1_setAt_17 ?_
      refine lv_icmp_ge (tgt := 30) hx hb dX1_setAt_18 (by decide) (fun c3 => ?_) (fun c3 => ?_)
      · have hf := it_t c3 hf
        refine lv_iconst (v := (0 : Int32)) hx hb dX1_setAt_30 (by decide) ?_
        rw [← Option.some.inj hf]
        exact rt_i (u := ()) hx hb hr hlocks hP hD trivial hS dX1_setAt_31
      · have hf := it_f c3 hf
        refine lv_aload_n hx hb dX1_setAt_21 rfl (lv_at hl 0 rfl) ?_
        refine va_get (D := G.1) (ci := 1) (v := .ref h_t_sets) (C := RX1) (T := TX1) (N := 3) hx hb hts hiX1 hown hg.1 hP 0 rfl rfl 0 (by decide) (hts (.fieldLink RX1 9 "AsARule$Ends" "sets" "[I") (by decide +kernel)) (fun _ h9 => h9) rfl dX1_setAt_22 ?_
        refine lv_iload_n hx hb dX1_setAt_25 rfl (lv_at hl 1 rfl) ?_
        refine va_iald hx hb hg.1 hP 1 1 rfl rfl (ib_in (gd_t hf)) dX1_setAt_26 ?_
        have hf := gd_x hf
        refine lv_goto (tgt := 31) hx hb dX1_setAt_27 (by decide) ?_
        rw [← Option.some.inj hf]
        exact rt_i (u := ()) hx hb hr hlocks hP hD trivial hS dX1_setAt_31
-- method X1_leftAt
def f_X1_leftAt (t_size : Int32) (t_lefts : Nat → Int64) (a1 : Int32) : Option (Int64) :=
  if a1 < (0 : Int32) then some ((0 : Int64)) else if t_size ≤ a1 then some ((0 : Int64)) else if (256 : Int32) ≤ a1 then some ((0 : Int64)) else gd (ib a1 256) (some ((t_lefts a1.toNatClampNeg)))
set_option maxHeartbeats 4000000 in
set_option maxRecDepth 100000 in
theorem c_X1_leftAt (l : Launch) (G : GG) (h_t h_t_sets h_t_lefts : Nat) (sz : Nat) (t_size : Int32) (t_lefts : Nat → Int64) (a1 : Int32) (o : Int64) (ho : f_X1_leftAt t_size t_lefts a1 = some o)  : Met l yX1_leftAt wsX1_leftAt ({ frames := 0, cells := 0, slots := 0, locals := 0 } : Room) (pcA G [.ref h_t, .int a1] [(h_t, .inr (1, [.ref h_t_sets, .ref h_t_lefts, .int t_size])), (h_t_lefts, .inl (G.2.1.2.2, 256, .inr (.inl t_lefts)))] sz) (qcL Unit G o (fun _ => True) (fun _ => [(h_t, .inr (1, [.ref h_t_sets, .ref h_t_lefts, .int t_size])), (h_t_lefts, .inl (G.2.1.2.2, 256, .inr (.inl t_lefts)))]) (va_A [(h_t, .inr (1, [.ref h_t_sets, .ref h_t_lefts, .int t_size])), (h_t_lefts, .inl (G.2.1.2.2, 256, .inr (.inl t_lefts)))] sz)) 0 0 (va_A [(h_t, .inr (1, [.ref h_t_sets, .ref h_t_lefts, .int t_size])), (h_t_lefts, .inl (G.2.1.2.2, 256, .inr (.inl t_lefts)))] sz) := by
  refine Met.ofW (cc := cX1_leftAt) (maxL := 2) (ret := (some .long)) (by decide) rfl ?_
  intro p e s m args below meth c s₁ B hml hv
  obtain ⟨rfl, hsz, hP, hg, hD0, hc⟩ := hv
  have hx := B.exec
  have hb := B.bytes
  have hr := B.returns
  have hts := atoms_spec (ws := wsX1_leftAt) B.pre
  have hown : s.vm.findClass RX1 = some m.cls := findClass_of_methodNamed B.named
  have hlocks := B.notSynchronized
  subst hsz
  have hD := hD0.self (sz := s.heap.size)
  generalize hAe : va_A [(h_t, .inr (1, [.ref h_t_sets, .ref h_t_lefts, .int t_size])), (h_t_lefts, .inl (G.2.1.2.2, 256, .inr (.inl t_lefts)))] s.heap.size = A at hD hc ⊢
  have hA : ∀ q : Nat, s.heap.size ≤ q → A q := fun q h => by rw [← hAe]; exact Or.inr h
  have hiX1 : ∀ w ∈ wsX10, w ∈ wsX1_leftAt := by decide +kernel
  have hl := lv_entry ([.ref h_t, .int a1]) (n := 2) (Nat.le_of_ble_eq_true rfl)
  rw [lg_entry_eq]
  generalize (lg_sl ([.ref h_t, .int a1]) ++ List.replicate (2 - (lg_sl ([.ref h_t, .int a1])).length) Slot.unset).toArray = ls at hl ⊢
  have hl : lv_has ls 2 [(0, .ref h_t), (1, .int a1)] := hl
  have hf := ho
  unfold f_X1_leftAt at hf
  refine en (fun H locs hP hD hS => ?_) hP hD
  refine lv_iload_n hx hb dX1_leftAt_0 rfl (lv_at hl 1 rfl) ?_
  refine lv_if_lt (tgt := 30) hx hb dX1_leftAt_1 (by decide) (fun c1 => ?_) (fun c1 => ?_)
  · have hf := it_t c1 hf
    refine lv_lconst (v := (0 : Int64)) hx hb dX1_leftAt_30 (by decide) ?_
    rw [← Option.some.inj hf]
    exact rt_l (u := ()) hx hb hr hlocks hP hD trivial hS dX1_leftAt_31
  · have hf := it_f c1 hf
    refine lv_iload_n hx hb dX1_leftAt_4 rfl (lv_at hl 1 rfl) ?_
    refine lv_aload_n hx hb dX1_leftAt_5 rfl (lv_at hl 0 rfl) ?_
    refine va_get (D := G.1) (ci := 1) (v := .int t_size) (C := RX1) (T := TX1) (N := 3) hx hb hts hiX1 hown hg.1 hP 0 rfl rfl 2 (by decide) (hts (.fieldLink RX1 19 "AsARule$Ends" "size" "I") (by decide +kernel)) (fun _ h9 => h9) rfl dX1_leftAt_6 ?_
    refine lv_icmp_ge (tgt := 30) hx hb dX1_leftAt_9 (by decide) (fun c2 => ?_) (fun c2 => ?_)
    · have hf := it_t c2 hf
      refine lv_lconst (v := (0 : Int64)) hx hb dX1_leftAt_30 (by decide) ?_
      rw [← Option.some.inj hf]
      exact rt_l (u := ()) hx hb hr hlocks hP hD trivial hS dX1_leftAt_31
    · have hf := it_f c2 hf
      refine lv_iload_n hx hb dX1_leftAt_12 rfl (lv_at hl 1 rfl) ?_
      refine lv_aload_n hx hb dX1_leftAt_13 rfl (lv_at hl 0 rfl) ?_
      refine va_get (D := G.1) (ci := 1) (v := .ref h_t_lefts) (C := RX1) (T := TX1) (N := 3) hx hb hts hiX1 hown hg.1 hP 0 rfl rfl 1 (by decide) (hts (.fieldLink RX1 15 "AsARule$Ends" "lefts" "[J") (by decide +kernel)) (fun _ h9 => h9) rfl dX1_leftAt_14 ?_
      refine va_alen (v := (256 : Int32)) hx hb hg.1 hP 1 2 rfl rfl rfl dX1_leftAt_17 ?_
      refine lv_icmp_ge (tgt := 30) hx hb dX1_leftAt_18 (by decide) (fun c3 => ?_) (fun c3 => ?_)
      · have hf := it_t c3 hf
        refine lv_lconst (v := (0 : Int64)) hx hb dX1_leftAt_30 (by decide) ?_
        rw [← Option.some.inj hf]
        exact rt_l (u := ()) hx hb hr hlocks hP hD trivial hS dX1_leftAt_31
      · have hf := it_f c3 hf
        refine lv_aload_n hx hb dX1_leftAt_21 rfl (lv_at hl 0 rfl) ?_
        refine va_get (D := G.1) (ci := 1) (v := .ref h_t_lefts) (C := RX1) (T := TX1) (N := 3) hx hb hts hiX1 hown hg.1 hP 0 rfl rfl 1 (by decide) (hts (.fieldLink RX1 15 "AsARule$Ends" "lefts" "[J") (by decide +kernel)) (fun _ h9 => h9) rfl dX1_leftAt_22 ?_
        refine lv_iload_n hx hb dX1_leftAt_25 rfl (lv_at hl 1 rfl) ?_
        refine va_lald hx hb hg.1 hP 1 2 rfl rfl (ib_in (gd_t hf)) dX1_leftAt_26 ?_
        have hf := gd_x hf
        refine lv_goto (tgt := 31) hx hb dX1_leftAt_27 (by decide) ?_
        rw [← Option.some.inj hf]
        exact rt_l (u := ()) hx hb hr hlocks hP hD trivial hS dX1_leftAt_31
-- method X1_holding
def lp_X1_holding_5 (t_size : Int32) (t_lefts : Nat → Int64) (a1 : Int64) : Nat → Int32 → Int32 → Option (Int32)
  | 0, _, _ => none
  | n + 1, v3, v4 => if t_size ≤ v4 then some (v3) else bd (f_X1_leftAt t_size t_lefts v4) (fun o2 => bd (f_X7_allIn o2 a1) (fun o3 => if o3 = (0 : Int32) then lt (v4 + (1 : Int32)) (fun x5 => lp_X1_holding_5 t_size t_lefts a1 n v3 x5) else lt (v3 + (1 : Int32)) (fun x6 => lt (v4 + (1 : Int32)) (fun x7 => lp_X1_holding_5 t_size t_lefts a1 n x6 x7))))
def f_X1_holding (t_size : Int32) (t_lefts : Nat → Int64) (a1 : Int64) : Option (Int32) :=
  lp_X1_holding_5 t_size t_lefts a1 fu (0 : Int32) (0 : Int32)
set_option maxHeartbeats 4000000 in
set_option maxRecDepth 100000 in
theorem c_X1_holding (l : Launch) (G : GG) (h_t h_t_sets h_t_lefts : Nat) (sz : Nat) (t_size : Int32) (t_lefts : Nat → Int64) (a1 : Int64) (o : Int32) (ho : f_X1_holding t_size t_lefts a1 = some o)  : Met l yX1_holding wsX1_holding ({ frames := 1, cells := 0, slots := 0, locals := 23 } : Room) (pcA G [.ref h_t, .long a1] [(h_t, .inr (1, [.ref h_t_sets, .ref h_t_lefts, .int t_size])), (h_t_lefts, .inl (G.2.1.2.2, 256, .inr (.inl t_lefts)))] sz) (qcI Unit G o (fun _ => True) (fun _ => [(h_t, .inr (1, [.ref h_t_sets, .ref h_t_lefts, .int t_size])), (h_t_lefts, .inl (G.2.1.2.2, 256, .inr (.inl t_lefts)))]) (va_A [(h_t, .inr (1, [.ref h_t_sets, .ref h_t_lefts, .int t_size])), (h_t_lefts, .inl (G.2.1.2.2, 256, .inr (.inl t_lefts)))] sz)) 0 0 (va_A [(h_t, .inr (1, [.ref h_t_sets, .ref h_t_lefts, .int t_size])), (h_t_lefts, .inl (G.2.1.2.2, 256, .inr (.inl t_lefts)))] sz) := by
  refine Met.ofW (cc := cX1_holding) (maxL := 5) (ret := (some .int)) (by decide) rfl ?_
  intro p e s m args below meth c s₁ B hml hv
  obtain ⟨rfl, hsz, hP, hg, hD0, hc⟩ := hv
  have hx := B.exec
  have hb := B.bytes
  have hr := B.returns
  have hts := atoms_spec (ws := wsX1_holding) B.pre
  have hown : s.vm.findClass RX1 = some m.cls := findClass_of_methodNamed B.named
  have hlocks := B.notSynchronized
  subst hsz
  have hD := hD0.self (sz := s.heap.size)
  generalize hAe : va_A [(h_t, .inr (1, [.ref h_t_sets, .ref h_t_lefts, .int t_size])), (h_t_lefts, .inl (G.2.1.2.2, 256, .inr (.inl t_lefts)))] s.heap.size = A at hD hc ⊢
  have hA : ∀ q : Nat, s.heap.size ≤ q → A q := fun q h => by rw [← hAe]; exact Or.inr h
  have hiX1 : ∀ w ∈ wsX10, w ∈ wsX1_holding := by decide +kernel
  have hl := lv_entry ([.ref h_t, .long a1]) (n := 5) (Nat.le_of_ble_eq_true rfl)
  rw [lg_entry_eq]
  generalize (lg_sl ([.ref h_t, .long a1]) ++ List.replicate (5 - (lg_sl ([.ref h_t, .long a1])).length) Slot.unset).toArray = ls at hl ⊢
  have hl : lv_has ls 5 [(0, .ref h_t), (1, .long a1)] := hl
  have hf := ho
  have hw_5 : ∀  (n : Nat) (v3 : Int32) (v4 : Int32), lp_X1_holding_5 t_size t_lefts a1 n v3 v4 = some o → ∀ (H : Heap) (locs : List Loc), va_P G.1 vwCl [(h_t, .inr (1, [.ref h_t_sets, .ref h_t_lefts, .int t_size])), (h_t_lefts, .inl (G.2.1.2.2, 256, .inr (.inl t_lefts)))] H → va_D A [(h_t, .inr (1, [.ref h_t_sets, .ref h_t_lefts, .int t_size])), (h_t_lefts, .inl (G.2.1.2.2, 256, .inr (.inl t_lefts)))] → va_S A s.heap H locs → ∀ (ls : Array Slot), lv_has ls 5 [(0, .ref h_t), (1, .long a1), (3, .int v3), (4, .int v4)] → W p l e (headSpec wsX1_holding ({ frames := 1, cells := 0, slots := 0, locals := 23 } : Room)).room s m ([.ref h_t, .long a1] : List Value).toArray below meth c H locs 0 0 (MQ below (qcI Unit G o (fun _ => True) (fun _ => [(h_t, .inr (1, [.ref h_t_sets, .ref h_t_lefts, .int t_size])), (h_t_lefts, .inl (G.2.1.2.2, 256, .inr (.inl t_lefts)))]) A) ([.ref h_t, .long a1] : List Value).toArray s 0 0 A) (F0 m 5 ls []) := by
    intro n
    induction n with
    | zero =>
      intro v3 v4 hf
      exact absurd hf (by rw [lp_X1_holding_5]; intro h; cases h)
    | succ n ih =>
      intro v3 v4 hf H locs hP hD hS ls hl
      rw [lp_X1_holding_5] at hf
      refine lv_iload hx hb dX1_holding_5 (lv_at hl 3 rfl) ?_
      refine lv_aload_n hx hb dX1_holding_7 rfl (lv_at hl 0 rfl) ?_
      refine va_get (D := G.1) (ci := 1) (v := .int t_size) (C := RX1) (T := TX1) (N := 3) hx hb hts hiX1 hown hg.1 hP 0 rfl rfl 2 (by decide) (hts (.fieldLink RX1 19 "AsARule$Ends" "size" "I") (by decide +kernel)) (fun _ h9 => h9) rfl dX1_holding_8 ?_
      refine lv_icmp_ge (tgt := 36) hx hb dX1_holding_11 (by decide) (fun c1 => ?_) (fun c1 => ?_)
      · have hf := it_t c1 hf
        refine lv_iload_n hx hb dX1_holding_36 rfl (lv_at hl 2 rfl) ?_
        rw [← Option.some.inj hf]
        exact rt_i (u := ()) hx hb hr hlocks hP hD trivial hS dX1_holding_37
      · have hf := it_f c1 hf
        refine lv_aload_n hx hb dX1_holding_14 rfl (lv_at hl 0 rfl) ?_
        refine lv_iload hx hb dX1_holding_15 (lv_at hl 3 rfl) ?_
        obtain ⟨o2, ho2, hf⟩ := bd_e hf
        refine af_l (wr := []) (va_runV (As := [.int v4]) (rest := []) ⟨hx, hb, hml, hown, hts⟩ (c_X1_leftAt l G h_t h_t_sets h_t_lefts H.size t_size t_lefts v4 o2 ho2) (cwV 1 hts gX1_holding_X1_leftAt rfl rfl rfl (by decide +kernel) ⟨Nat.le_of_ble_eq_true rfl, Nat.le_of_ble_eq_true rfl⟩) (pcA_preV hg hc hP hD hS hA [0, 1] rfl (by decide) (q0 := 0) (ci := 1) rfl rfl rfl) rfl rfl hl.1 rfl (lv_room (Nat.le_of_ble_eq_true rfl)) dX1_holding_17 ⟨Nat.zero_le _, Nat.zero_le _⟩) hP hD hS hA [0, 1] [] rfl rfl (by decide) (by decide) (fun _ H locs _ hP hD hS => ?_)
        have hP : va_P G.1 vwCl [(h_t, .inr (1, [.ref h_t_sets, .ref h_t_lefts, .int t_size])), (h_t_lefts, .inl (G.2.1.2.2, 256, .inr (.inl t_lefts)))] H := hP
        have hD : va_D A [(h_t, .inr (1, [.ref h_t_sets, .ref h_t_lefts, .int t_size])), (h_t_lefts, .inl (G.2.1.2.2, 256, .inr (.inl t_lefts)))] := hD
        refine lv_lload_n hx hb dX1_holding_20 rfl (lv_at hl 1 rfl) ?_
        obtain ⟨o3, ho3, hf⟩ := bd_e hf
        refine af0_i (va_runSN (As := [.long o2, .long a1]) (rest := []) ⟨hx, hb, hml, hown, hts⟩ (c_X7_allIn l G H.size o2 a1 o3 ho3) ⟨va_cnB (host := "AsARule") 2 hts gX1_holding_X7_allIn_n27 rfl rfl rfl (hg.2 _ (List.mem_of_getElem? (i := 1) rfl)) (hts (.initialized RX7) (by decide +kernel)) (by decide +kernel) ⟨Nat.le_of_ble_eq_true rfl, Nat.le_of_ble_eq_true rfl⟩, (hts (.static yX7_allIn) (by decide +kernel)), trivial⟩ (pcA_pre hg hc hP hD hS hA [] rfl rfl [.long o2, .long a1]) rfl rfl hl.1 rfl (lv_room (Nat.le_of_ble_eq_true rfl)) dX1_holding_21 ⟨Nat.zero_le _, Nat.zero_le _⟩) hP hD hS hA (fun H locs hP hD hS => ?_)
        refine lv_if_eq (tgt := 30) hx hb dX1_holding_24 (by decide) (fun c4 => ?_) (fun c4 => ?_)
        · have hf := it_t c4 hf
          obtain ⟨x5, ex5⟩ : ∃ y : Int32, y = (v4 + (1 : Int32)) := ⟨_, rfl⟩
          have hf := lt_n hf x5 ex5
          refine lv_iinc (v := x5) (lv' := [(4, .int x5), (0, .ref h_t), (1, .long a1), (3, .int v3)]) hx hb dX1_holding_30 hl (k := 3) rfl (by rw [ex5]; rfl) (by decide) rfl (fun ls hl => ?_)
          refine lv_goto (tgt := 5) hx hb dX1_holding_33 (by decide) ?_
          exact ih v3 x5 hf _ _ hP hD hS _ (lv_sub hl [1, 2, 3, 0] rfl)
        · have hf := it_f c4 hf
          obtain ⟨x6, ex6⟩ : ∃ y : Int32, y = (v3 + (1 : Int32)) := ⟨_, rfl⟩
          have hf := lt_n hf x6 ex6
          refine lv_iinc (v := x6) (lv' := [(3, .int x6), (0, .ref h_t), (1, .long a1), (4, .int v4)]) hx hb dX1_holding_27 hl (k := 2) rfl (by rw [ex6]; rfl) (by decide) rfl (fun ls hl => ?_)
          obtain ⟨x7, ex7⟩ : ∃ y : Int32, y = (v4 + (1 : Int32)) := ⟨_, rfl⟩
          have hf := lt_n hf x7 ex7
          refine lv_iinc (v := x7) (lv' := [(4, .int x7), (3, .int x6), (0, .ref h_t), (1, .long a1)]) hx hb dX1_holding_30 hl (k := 3) rfl (by rw [ex7]; rfl) (by decide) rfl (fun ls hl => ?_)
          refine lv_goto (tgt := 5) hx hb dX1_holding_33 (by decide) ?_
          exact ih x6 x7 hf _ _ hP hD hS _ (lv_sub hl [2, 3, 1, 0] rfl)
  unfold f_X1_holding at hf
  refine en (fun H locs hP hD hS => ?_) hP hD
  refine lv_iconst (v := (0 : Int32)) hx hb dX1_holding_0 (by decide) ?_
  refine lv_istore_n (lv' := [(3, .int (0 : Int32)), (0, .ref h_t), (1, .long a1)]) hx hb dX1_holding_1 rfl hl (by decide) rfl (fun ls hl => ?_)
  refine lv_iconst (v := (0 : Int32)) hx hb dX1_holding_2 (by decide) ?_
  refine lv_istore (lv' := [(4, .int (0 : Int32)), (3, .int (0 : Int32)), (0, .ref h_t), (1, .long a1)]) hx hb dX1_holding_3 hl (by decide) rfl (fun ls hl => ?_)
  exact hw_5 fu (0 : Int32) (0 : Int32) hf _ _ hP hD hS _ (lv_sub hl [2, 3, 1, 0] rfl)
-- method X1_takenOn
def jn_X1_takenOn_95 (u_whens_size : Int32) (u_whens_kept : Nat → Int64) (u_thens_size : Int32) (u_thens_kept : Nat → Int64) (a1 : Int32) (a2 : Int64) (k_9 : Int64 → Int32 → Int32 → Option (Int64)) (v4 : Int64) (v6 : Int32) (v7 : Int32) (v8 : Int32) : Option (Int64) :=
  if v6 = v8 then some ((0 : Int64)) else lt (v7 + (1 : Int32)) (fun x2 => k_9 v4 v6 x2)
def lp_X1_takenOn_28 (u_whens_size : Int32) (u_whens_kept : Nat → Int64) (u_thens_size : Int32) (u_thens_kept : Nat → Int64) (a1 : Int32) (a2 : Int64) (k_9 : Int64 → Int32 → Int32 → Option (Int64)) (v7 : Int32) (v8 : Int32) : Nat → Int64 → Int32 → Int32 → Option (Int64)
  | 0, _, _, _ => none
  | n + 1, v4, v6, v9 => bd (f_X4_size u_whens_size) (fun o3 => if o3 ≤ v9 then jn_X1_takenOn_95 u_whens_size u_whens_kept u_thens_size u_thens_kept a1 a2 k_9 v4 v6 v7 v8 else bd (f_X7_inSet v6 v9) (fun o5 => if o5 = (0 : Int32) then lt (v9 + (1 : Int32)) (fun x7 => lp_X1_takenOn_28 u_whens_size u_whens_kept u_thens_size u_thens_kept a1 a2 k_9 v7 v8 n v4 v6 x7) else bd (f_X5_get u_whens_size u_whens_kept v9) (fun o8 => bd (f_X7_allIn v4 o8) (fun o9 => if o9 = (0 : Int32) then lt (v9 + (1 : Int32)) (fun x11 => lp_X1_takenOn_28 u_whens_size u_whens_kept u_thens_size u_thens_kept a1 a2 k_9 v7 v8 n v4 v6 x11) else bd (f_X5_get u_thens_size u_thens_kept v9) (fun o12 => lt (v4 &&& o12) (fun x13 => lt (v6 &&& (((1 : Int32) <<< (v9 &&& 31)) ^^^ (-1 : Int32))) (fun x14 => lt (v9 + (1 : Int32)) (fun x15 => lp_X1_takenOn_28 u_whens_size u_whens_kept u_thens_size u_thens_kept a1 a2 k_9 v7 v8 n x13 x14 x15))))))))
def lp_X1_takenOn_9 (u_whens_size : Int32) (u_whens_kept : Nat → Int64) (u_thens_size : Int32) (u_thens_kept : Nat → Int64) (a1 : Int32) (a2 : Int64) : Nat → Int64 → Int32 → Int32 → Option (Int64)
  | 0, _, _, _ => none
  | n + 1, v4, v6, v7 => if (8 : Int32) ≤ v7 then some (v4) else if v6 = (0 : Int32) then some (v4) else lp_X1_takenOn_28 u_whens_size u_whens_kept u_thens_size u_thens_kept a1 a2 (fun v4 v6 v7 => lp_X1_takenOn_9 u_whens_size u_whens_kept u_thens_size u_thens_kept a1 a2 n v4 v6 v7) v7 v6 fu v4 v6 (0 : Int32)
def f_X1_takenOn (u_whens_size : Int32) (u_whens_kept : Nat → Int64) (u_thens_size : Int32) (u_thens_kept : Nat → Int64) (a1 : Int32) (a2 : Int64) : Option (Int64) :=
  lp_X1_takenOn_9 u_whens_size u_whens_kept u_thens_size u_thens_kept a1 a2 fu a2 a1 (0 : Int32)
set_option maxHeartbeats 4000000 in
set_option maxRecDepth 100000 in
theorem c_X1_takenOn (l : Launch) (G : GG) (h_u h_u_whens h_u_thens h_u_grades h_u_whens_kept h_u_thens_kept : Nat) (sz : Nat) (u_quarrel : Int32) (u_whens_most : Int32) (u_whens_size : Int32) (u_whens_kept : Nat → Int64) (u_thens_most : Int32) (u_thens_size : Int32) (u_thens_kept : Nat → Int64) (a1 : Int32) (a2 : Int64) (o : Int64) (ho : f_X1_takenOn u_whens_size u_whens_kept u_thens_size u_thens_kept a1 a2 = some o)  : Met l yX1_takenOn wsX1_takenOn ({ frames := 2, cells := 0, slots := 0, locals := 40 } : Room) (pcA G [.ref h_u, .int a1, .long a2] [(h_u, .inr (4, [.ref h_u_whens, .ref h_u_thens, .ref h_u_grades, .int u_quarrel])), (h_u_whens, .inr (5, [.ref h_u_whens_kept, .int u_whens_most, .int u_whens_size])), (h_u_whens_kept, .inl (G.2.1.2.2, 9, .inr (.inl u_whens_kept))), (h_u_thens, .inr (5, [.ref h_u_thens_kept, .int u_thens_most, .int u_thens_size])), (h_u_thens_kept, .inl (G.2.1.2.2, 9, .inr (.inl u_thens_kept)))] sz) (qcL Unit G o (fun _ => True) (fun _ => [(h_u, .inr (4, [.ref h_u_whens, .ref h_u_thens, .ref h_u_grades, .int u_quarrel])), (h_u_whens, .inr (5, [.ref h_u_whens_kept, .int u_whens_most, .int u_whens_size])), (h_u_whens_kept, .inl (G.2.1.2.2, 9, .inr (.inl u_whens_kept))), (h_u_thens, .inr (5, [.ref h_u_thens_kept, .int u_thens_most, .int u_thens_size])), (h_u_thens_kept, .inl (G.2.1.2.2, 9, .inr (.inl u_thens_kept)))]) (va_A [(h_u, .inr (4, [.ref h_u_whens, .ref h_u_thens, .ref h_u_grades, .int u_quarrel])), (h_u_whens, .inr (5, [.ref h_u_whens_kept, .int u_whens_most, .int u_whens_size])), (h_u_whens_kept, .inl (G.2.1.2.2, 9, .inr (.inl u_whens_kept))), (h_u_thens, .inr (5, [.ref h_u_thens_kept, .int u_thens_most, .int u_thens_size])), (h_u_thens_kept, .inl (G.2.1.2.2, 9, .inr (.inl u_thens_kept)))] sz)) 0 0 (va_A [(h_u, .inr (4, [.ref h_u_whens, .ref h_u_thens, .ref h_u_grades, .int u_quarrel])), (h_u_whens, .inr (5, [.ref h_u_whens_kept, .int u_whens_most, .int u_whens_size])), (h_u_whens_kept, .inl (G.2.1.2.2, 9, .inr (.inl u_whens_kept))), (h_u_thens, .inr (5, [.ref h_u_thens_kept, .int u_thens_most, .int u_thens_size])), (h_u_thens_kept, .inl (G.2.1.2.2, 9, .inr (.inl u_thens_kept)))] sz) := by
  refine Met.ofW (cc := cX1_takenOn) (maxL := 10) (ret := (some .long)) (by decide) rfl ?_
  intro p e s m args below meth c s₁ B hml hv
  obtain ⟨rfl, hsz, hP, hg, hD0, hc⟩ := hv
  have hx := B.exec
  have hb := B.bytes
  have hr := B.returns
  have hts := atoms_spec (ws := wsX1_takenOn) B.pre
  have hown : s.vm.findClass RX1 = some m.cls := findClass_of_methodNamed B.named
  have hlocks := B.notSynchronized
  subst hsz
  have hD := hD0.self (sz := s.heap.size)
  generalize hAe : va_A [(h_u, .inr (4, [.ref h_u_whens, .ref h_u_thens, .ref h_u_grades, .int u_quarrel])), (h_u_whens, .inr (5, [.ref h_u_whens_kept, .int u_whens_most, .int u_whens_size])), (h_u_whens_kept, .inl (G.2.1.2.2, 9, .inr (.inl u_whens_kept))), (h_u_thens, .inr (5, [.ref h_u_thens_kept, .int u_thens_most, .int u_thens_size])), (h_u_thens_kept, .inl (G.2.1.2.2, 9, .inr (.inl u_thens_kept)))] s.heap.size = A at hD hc ⊢
  have hA : ∀ q : Nat, s.heap.size ≤ q → A q := fun q h => by rw [← hAe]; exact Or.inr h
  have hiX4 : ∀ w ∈ wsX40, w ∈ wsX1_takenOn := by decide +kernel
  have hl := lv_entry ([.ref h_u, .int a1, .long a2]) (n := 10) (Nat.le_of_ble_eq_true rfl)
  rw [lg_entry_eq]
  generalize (lg_sl ([.ref h_u, .int a1, .long a2]) ++ List.replicate (10 - (lg_sl ([.ref h_u, .int a1, .long a2])).length) Slot.unset).toArray = ls at hl ⊢
  have hl : lv_has ls 10 [(0, .ref h_u), (1, .int a1), (2, .long a2)] := hl
  have hf := ho
  have hw_95 : ∀ (k_9 : Int64 → Int32 → Int32 → Option (Int64)) (hk_9 : ∀ (v4 : Int64) (v6 : Int32) (v7 : Int32), k_9 v4 v6 v7 = some o → ∀ (H : Heap) (locs : List Loc), va_P G.1 vwCl [(h_u, .inr (4, [.ref h_u_whens, .ref h_u_thens, .ref h_u_grades, .int u_quarrel])), (h_u_whens, .inr (5, [.ref h_u_whens_kept, .int u_whens_most, .int u_whens_size])), (h_u_whens_kept, .inl (G.2.1.2.2, 9, .inr (.inl u_whens_kept))), (h_u_thens, .inr (5, [.ref h_u_thens_kept, .int u_thens_most, .int u_thens_size])), (h_u_thens_kept, .inl (G.2.1.2.2, 9, .inr (.inl u_thens_kept)))] H → va_D A [(h_u, .inr (4, [.ref h_u_whens, .ref h_u_thens, .ref h_u_grades, .int u_quarrel])), (h_u_whens, .inr (5, [.ref h_u_whens_kept, .int u_whens_most, .int u_whens_size])), (h_u_whens_kept, .inl (G.2.1.2.2, 9, .inr (.inl u_whens_kept))), (h_u_thens, .inr (5, [.ref h_u_thens_kept, .int u_thens_most, .int u_thens_size])), (h_u_thens_kept, .inl (G.2.1.2.2, 9, .inr (.inl u_thens_kept)))] → va_S A s.heap H locs → ∀ (ls : Array Slot), lv_has ls 10 [(0, .ref h_u), (4, .long v4), (6, .int v6), (7, .int v7)] → W p l e (headSpec wsX1_takenOn ({ frames := 2, cells := 0, slots := 0, locals := 40 } : Room)).room s m ([.ref h_u, .int a1, .long a2] : List Value).toArray below meth c H locs 0 0 (MQ below (qcL Unit G o (fun _ => True) (fun _ => [(h_u, .inr (4, [.ref h_u_whens, .ref h_u_thens, .ref h_u_grades, .int u_quarrel])), (h_u_whens, .inr (5, [.ref h_u_whens_kept, .int u_whens_most, .int u_whens_size])), (h_u_whens_kept, .inl (G.2.1.2.2, 9, .inr (.inl u_whens_kept))), (h_u_thens, .inr (5, [.ref h_u_thens_kept, .int u_thens_most, .int u_thens_size])), (h_u_thens_kept, .inl (G.2.1.2.2, 9, .inr (.inl u_thens_kept)))]) A) ([.ref h_u, .int a1, .long a2] : List Value).toArray s 0 0 A) (F0 m 9 ls [])) (v4 : Int64) (v6 : Int32) (v7 : Int32) (v8 : Int32), jn_X1_takenOn_95 u_whens_size u_whens_kept u_thens_size u_thens_kept a1 a2 k_9 v4 v6 v7 v8 = some o → ∀ (H : Heap) (locs : List Loc), va_P G.1 vwCl [(h_u, .inr (4, [.ref h_u_whens, .ref h_u_thens, .ref h_u_grades, .int u_quarrel])), (h_u_whens, .inr (5, [.ref h_u_whens_kept, .int u_whens_most, .int u_whens_size])), (h_u_whens_kept, .inl (G.2.1.2.2, 9, .inr (.inl u_whens_kept))), (h_u_thens, .inr (5, [.ref h_u_thens_kept, .int u_thens_most, .int u_thens_size])), (h_u_thens_kept, .inl (G.2.1.2.2, 9, .inr (.inl u_thens_kept)))] H → va_D A [(h_u, .inr (4, [.ref h_u_whens, .ref h_u_thens, .ref h_u_grades, .int u_quarrel])), (h_u_whens, .inr (5, [.ref h_u_whens_kept, .int u_whens_most, .int u_whens_size])), (h_u_whens_kept, .inl (G.2.1.2.2, 9, .inr (.inl u_whens_kept))), (h_u_thens, .inr (5, [.ref h_u_thens_kept, .int u_thens_most, .int u_thens_size])), (h_u_thens_kept, .inl (G.2.1.2.2, 9, .inr (.inl u_thens_kept)))] → va_S A s.heap H locs → ∀ (ls : Array Slot), lv_has ls 10 [(0, .ref h_u), (4, .long v4), (6, .int v6), (7, .int v7), (8, .int v8)] → W p l e (headSpec wsX1_takenOn ({ frames := 2, cells := 0, slots := 0, locals := 40 } : Room)).room s m ([.ref h_u, .int a1, .long a2] : List Value).toArray below meth c H locs 0 0 (MQ below (qcL Unit G o (fun _ => True) (fun _ => [(h_u, .inr (4, [.ref h_u_whens, .ref h_u_thens, .ref h_u_grades, .int u_quarrel])), (h_u_whens, .inr (5, [.ref h_u_whens_kept, .int u_whens_most, .int u_whens_size])), (h_u_whens_kept, .inl (G.2.1.2.2, 9, .inr (.inl u_whens_kept))), (h_u_thens, .inr (5, [.ref h_u_thens_kept, .int u_thens_most, .int u_thens_size])), (h_u_thens_kept, .inl (G.2.1.2.2, 9, .inr (.inl u_thens_kept)))]) A) ([.ref h_u, .int a1, .long a2] : List Value).toArray s 0 0 A) (F0 m 95 ls []) := by
    intro k_9 hk_9 v4 v6 v7 v8 hf H locs hP hD hS ls hl
    unfold jn_X1_takenOn_95 at hf
    refine lv_iload hx hb dX1_takenOn_95 (lv_at hl 2 rfl) ?_
    refine lv_iload hx hb dX1_takenOn_97 (lv_at hl 4 rfl) ?_
    refine lv_icmp_ne (tgt := 104) hx hb dX1_takenOn_99 (by decide) (fun c1 => ?_) (fun c1 => ?_)
    · have hf := it_f c1 hf
      obtain ⟨x2, ex2⟩ : ∃ y : Int32, y = (v7 + (1 : Int32)) := ⟨_, rfl⟩
      have hf := lt_n hf x2 ex2
      refine lv_iinc (v := x2) (lv' := [(7, .int x2), (0, .ref h_u), (4, .long v4), (6, .int v6), (8, .int v8)]) hx hb dX1_takenOn_104 hl (k := 3) rfl (by rw [ex2]; rfl) (by decide) rfl (fun ls hl => ?_)
      refine lv_goto (tgt := 9) hx hb dX1_takenOn_107 (by decide) ?_
      exact hk_9 v4 v6 x2 hf _ _ hP hD hS _ (lv_sub hl [1, 2, 3, 0] rfl)
    · have hf := it_t c1 hf
      refine lv_lconst (v := (0 : Int64)) hx hb dX1_takenOn_102 (by decide) ?_
      rw [← Option.some.inj hf]
      exact rt_l (u := ()) hx hb hr hlocks hP hD trivial hS dX1_takenOn_103
  have hw_28 : ∀ (k_9 : Int64 → Int32 → Int32 → Option (Int64)) (hk_9 : ∀ (v4 : Int64) (v6 : Int32) (v7 : Int32), k_9 v4 v6 v7 = some o → ∀ (H : Heap) (locs : List Loc), va_P G.1 vwCl [(h_u, .inr (4, [.ref h_u_whens, .ref h_u_thens, .ref h_u_grades, .int u_quarrel])), (h_u_whens, .inr (5, [.ref h_u_whens_kept, .int u_whens_most, .int u_whens_size])), (h_u_whens_kept, .inl (G.2.1.2.2, 9, .inr (.inl u_whens_kept))), (h_u_thens, .inr (5, [.ref h_u_thens_kept, .int u_thens_most, .int u_thens_size])), (h_u_thens_kept, .inl (G.2.1.2.2, 9, .inr (.inl u_thens_kept)))] H → va_D A [(h_u, .inr (4, [.ref h_u_whens, .ref h_u_thens, .ref h_u_grades, .int u_quarrel])), (h_u_whens, .inr (5, [.ref h_u_whens_kept, .int u_whens_most, .int u_whens_size])), (h_u_whens_kept, .inl (G.2.1.2.2, 9, .inr (.inl u_whens_kept))), (h_u_thens, .inr (5, [.ref h_u_thens_kept, .int u_thens_most, .int u_thens_size])), (h_u_thens_kept, .inl (G.2.1.2.2, 9, .inr (.inl u_thens_kept)))] → va_S A s.heap H locs → ∀ (ls : Array Slot), lv_has ls 10 [(0, .ref h_u), (4, .long v4), (6, .int v6), (7, .int v7)] → W p l e (headSpec wsX1_takenOn ({ frames := 2, cells := 0, slots := 0, locals := 40 } : Room)).room s m ([.ref h_u, .int a1, .long a2] : List Value).toArray below meth c H locs 0 0 (MQ below (qcL Unit G o (fun _ => True) (fun _ => [(h_u, .inr (4, [.ref h_u_whens, .ref h_u_thens, .ref h_u_grades, .int u_quarrel])), (h_u_whens, .inr (5, [.ref h_u_whens_kept, .int u_whens_most, .int u_whens_size])), (h_u_whens_kept, .inl (G.2.1.2.2, 9, .inr (.inl u_whens_kept))), (h_u_thens, .inr (5, [.ref h_u_thens_kept, .int u_thens_most, .int u_thens_size])), (h_u_thens_kept, .inl (G.2.1.2.2, 9, .inr (.inl u_thens_kept)))]) A) ([.ref h_u, .int a1, .long a2] : List Value).toArray s 0 0 A) (F0 m 9 ls [])) (v7 : Int32) (v8 : Int32) (n : Nat) (v4 : Int64) (v6 : Int32) (v9 : Int32), lp_X1_takenOn_28 u_whens_size u_whens_kept u_thens_size u_thens_kept a1 a2 k_9 v7 v8 n v4 v6 v9 = some o → ∀ (H : Heap) (locs : List Loc), va_P G.1 vwCl [(h_u, .inr (4, [.ref h_u_whens, .ref h_u_thens, .ref h_u_grades, .int u_quarrel])), (h_u_whens, .inr (5, [.ref h_u_whens_kept, .int u_whens_most, .int u_whens_size])), (h_u_whens_kept, .inl (G.2.1.2.2, 9, .inr (.inl u_whens_kept))), (h_u_thens, .inr (5, [.ref h_u_thens_kept, .int u_thens_most, .int u_thens_size])), (h_u_thens_kept, .inl (G.2.1.2.2, 9, .inr (.inl u_thens_kept)))] H → va_D A [(h_u, .inr (4, [.ref h_u_whens, .ref h_u_thens, .ref h_u_grades, .int u_quarrel])), (h_u_whens, .inr (5, [.ref h_u_whens_kept, .int u_whens_most, .int u_whens_size])), (h_u_whens_kept, .inl (G.2.1.2.2, 9, .inr (.inl u_whens_kept))), (h_u_thens, .inr (5, [.ref h_u_thens_kept, .int u_thens_most, .int u_thens_size])), (h_u_thens_kept, .inl (G.2.1.2.2, 9, .inr (.inl u_thens_kept)))] → va_S A s.heap H locs → ∀ (ls : Array Slot), lv_has ls 10 [(0, .ref h_u), (4, .long v4), (6, .int v6), (7, .int v7), (8, .int v8), (9, .int v9)] → W p l e (headSpec wsX1_takenOn ({ frames := 2, cells := 0, slots := 0, locals := 40 } : Room)).room s m ([.ref h_u, .int a1, .long a2] : List Value).toArray below meth c H locs 0 0 (MQ below (qcL Unit G o (fun _ => True) (fun _ => [(h_u, .inr (4, [.ref h_u_whens, .ref h_u_thens, .ref h_u_grades, .int u_quarrel])), (h_u_whens, .inr (5, [.ref h_u_whens_kept, .int u_whens_most, .int u_whens_size])), (h_u_whens_kept, .inl (G.2.1.2.2, 9, .inr (.inl u_whens_kept))), (h_u_thens, .inr (5, [.ref h_u_thens_kept, .int u_thens_most, .int u_thens_size])), (h_u_thens_kept, .inl (G.2.1.2.2, 9, .inr (.inl u_thens_kept)))]) A) ([.ref h_u, .int a1, .long a2] : List Value).toArray s 0 0 A) (F0 m 28 ls []) := by
    intro k_9 hk_9 v7 v8
    intro n
    induction n with
    | zero =>
      intro v4 v6 v9 hf
      exact absurd hf (by rw [lp_X1_takenOn_28]; intro h; cases h)
    | succ n ih =>
      intro v4 v6 v9 hf H locs hP hD hS ls hl
      rw [lp_X1_takenOn_28] at hf
      refine lv_iload hx hb dX1_takenOn_28 (lv_at hl 5 rfl) ?_
      refine lv_aload_n hx hb dX1_takenOn_30 rfl (lv_at hl 0 rfl) ?_
      obtain ⟨o3, ho3, hf⟩ := bd_e hf
      refine af_i (wr := [(h_u_whens_kept, .inl (G.2.1.2.2, 9, .inr (.inl u_whens_kept))), (h_u_thens, .inr (5, [.ref h_u_thens_kept, .int u_thens_most, .int u_thens_size])), (h_u_thens_kept, .inl (G.2.1.2.2, 9, .inr (.inl u_thens_kept)))]) (va_runV (As := []) (rest := [.int v9]) ⟨hx, hb, hml, hown, hts⟩ (c_X4_size l G h_u h_u_whens h_u_thens h_u_grades h_u_whens_kept H.size u_quarrel u_whens_most u_whens_size o3 ho3) (cwV 0 hts gX1_takenOn_X4_size rfl rfl rfl (by decide +kernel) ⟨Nat.le_of_ble_eq_true rfl, Nat.le_of_ble_eq_true rfl⟩) (pcA_preV hg hc hP hD hS hA [0, 1] rfl (by decide) (q0 := 0) (ci := 4) rfl rfl rfl) rfl rfl hl.1 rfl (lv_room (Nat.le_of_ble_eq_true rfl)) dX1_takenOn_31 ⟨Nat.zero_le _, Nat.zero_le _⟩) hP hD hS hA [0, 1] [2, 3, 4] rfl rfl (by decide) (by decide) (fun _ H locs _ hP hD hS => ?_)
      have hP : va_P G.1 vwCl [(h_u, .inr (4, [.ref h_u_whens, .ref h_u_thens, .ref h_u_grades, .int u_quarrel])), (h_u_whens, .inr (5, [.ref h_u_whens_kept, .int u_whens_most, .int u_whens_size])), (h_u_whens_kept, .inl (G.2.1.2.2, 9, .inr (.inl u_whens_kept))), (h_u_thens, .inr (5, [.ref h_u_thens_kept, .int u_thens_most, .int u_thens_size])), (h_u_thens_kept, .inl (G.2.1.2.2, 9, .inr (.inl u_thens_kept)))] H := hP.sub [3, 4, 0, 1, 2] rfl
      have hD : va_D A [(h_u, .inr (4, [.ref h_u_whens, .ref h_u_thens, .ref h_u_grades, .int u_quarrel])), (h_u_whens, .inr (5, [.ref h_u_whens_kept, .int u_whens_most, .int u_whens_size])), (h_u_whens_kept, .inl (G.2.1.2.2, 9, .inr (.inl u_whens_kept))), (h_u_thens, .inr (5, [.ref h_u_thens_kept, .int u_thens_most, .int u_thens_size])), (h_u_thens_kept, .inl (G.2.1.2.2, 9, .inr (.inl u_thens_kept)))] := hD.sub [3, 4, 0, 1, 2] (by decide) rfl
      refine lv_icmp_ge (tgt := 95) hx hb dX1_takenOn_34 (by decide) (fun c4 => ?_) (fun c4 => ?_)
      · have hf := it_t c4 hf
        exact hw_95 _ hk_9 v4 v6 v7 v8 hf _ _ hP hD hS _ (lv_sub hl [0, 1, 2, 3, 4] rfl)
      · have hf := it_f c4 hf
        refine lv_iload hx hb dX1_takenOn_37 (lv_at hl 2 rfl) ?_
        refine lv_iload hx hb dX1_takenOn_39 (lv_at hl 5 rfl) ?_
        obtain ⟨o5, ho5, hf⟩ := bd_e hf
        refine af0_i (va_runSN (As := [.int v6, .int v9]) (rest := []) ⟨hx, hb, hml, hown, hts⟩ (c_X7_inSet l G H.size v6 v9 o5 ho5) ⟨va_cnB (host := "AsARule") 2 hts gX1_takenOn_X7_inSet_n48 rfl rfl rfl (hg.2 _ (List.mem_of_getElem? (i := 2) rfl)) (hts (.initialized RX7) (by decide +kernel)) (by decide +kernel) ⟨Nat.le_of_ble_eq_true rfl, Nat.le_of_ble_eq_true rfl⟩, (hts (.static yX7_inSet) (by decide +kernel)), trivial⟩ (pcA_pre hg hc hP hD hS hA [] rfl rfl [.int v6, .int v9]) rfl rfl hl.1 rfl (lv_room (Nat.le_of_ble_eq_true rfl)) dX1_takenOn_41 ⟨Nat.zero_le _, Nat.zero_le _⟩) hP hD hS hA (fun H locs hP hD hS => ?_)
        refine lv_if_eq (tgt := 89) hx hb dX1_takenOn_44 (by decide) (fun c6 => ?_) (fun c6 => ?_)
        · have hf := it_t c6 hf
          obtain ⟨x7, ex7⟩ : ∃ y : Int32, y = (v9 + (1 : Int32)) := ⟨_, rfl⟩
          have hf := lt_n hf x7 ex7
          refine lv_iinc (v := x7) (lv' := [(9, .int x7), (0, .ref h_u), (4, .long v4), (6, .int v6), (7, .int v7), (8, .int v8)]) hx hb dX1_takenOn_89 hl (k := 5) rfl (by rw [ex7]; rfl) (by decide) rfl (fun ls hl => ?_)
          refine lv_goto (tgt := 28) hx hb dX1_takenOn_92 (by decide) ?_
          exact ih v4 v6 x7 hf _ _ hP hD hS _ (lv_sub hl [1, 2, 3, 4, 5, 0] rfl)
        · have hf := it_f c6 hf
          refine lv_lload hx hb dX1_takenOn_47 (lv_at hl 1 rfl) ?_
          refine lv_aload_n hx hb dX1_takenOn_49 rfl (lv_at hl 0 rfl) ?_
          refine va_get (D := G.1) (ci := 4) (v := .ref h_u_whens) (C := RX4) (T := TX4) (N := 4) hx hb hts hiX4 hown hg.1 hP 0 rfl rfl 0 (by decide) (hts (.fieldLink RX1 52 "AsARule$Rules" "whens" "LAsARule$Sayings;") (by decide +kernel)) (fun _ h9 => h9) rfl dX1_takenOn_50 ?_
          refine lv_iload hx hb dX1_takenOn_53 (lv_at hl 5 rfl) ?_
          obtain ⟨o8, ho8, hf⟩ := bd_e hf
          refine af_l (wr := [(h_u, .inr (4, [.ref h_u_whens, .ref h_u_thens, .ref h_u_grades, .int u_quarrel])), (h_u_thens, .inr (5, [.ref h_u_thens_kept, .int u_thens_most, .int u_thens_size])), (h_u_thens_kept, .inl (G.2.1.2.2, 9, .inr (.inl u_thens_kept)))]) (va_runV (As := [.int v9]) (rest := [.long v4]) ⟨hx, hb, hml, hown, hts⟩ (c_X5_get l G h_u_whens h_u_whens_kept H.size u_whens_most u_whens_size u_whens_kept v9 o8 ho8) (cwV 1 hts gX1_takenOn_X5_get rfl rfl rfl (by decide +kernel) ⟨Nat.le_of_ble_eq_true rfl, Nat.le_of_ble_eq_true rfl⟩) (pcA_preV hg hc hP hD hS hA [1, 2] rfl (by decide) (q0 := 1) (ci := 5) rfl rfl rfl) rfl rfl hl.1 rfl (lv_room (Nat.le_of_ble_eq_true rfl)) dX1_takenOn_55 ⟨Nat.zero_le _, Nat.zero_le _⟩) hP hD hS hA [1, 2] [0, 3, 4] rfl rfl (by decide) (by decide) (fun _ H locs _ hP hD hS => ?_)
          have hP : va_P G.1 vwCl [(h_u, .inr (4, [.ref h_u_whens, .ref h_u_thens, .ref h_u_grades, .int u_quarrel])), (h_u_whens, .inr (5, [.ref h_u_whens_kept, .int u_whens_most, .int u_whens_size])), (h_u_whens_kept, .inl (G.2.1.2.2, 9, .inr (.inl u_whens_kept))), (h_u_thens, .inr (5, [.ref h_u_thens_kept, .int u_thens_most, .int u_thens_size])), (h_u_thens_kept, .inl (G.2.1.2.2, 9, .inr (.inl u_thens_kept)))] H := hP.sub [0, 3, 4, 1, 2] rfl
          have hD : va_D A [(h_u, .inr (4, [.ref h_u_whens, .ref h_u_thens, .ref h_u_grades, .int u_quarrel])), (h_u_whens, .inr (5, [.ref h_u_whens_kept, .int u_whens_most, .int u_whens_size])), (h_u_whens_kept, .inl (G.2.1.2.2, 9, .inr (.inl u_whens_kept))), (h_u_thens, .inr (5, [.ref h_u_thens_kept, .int u_thens_most, .int u_thens_size])), (h_u_thens_kept, .inl (G.2.1.2.2, 9, .inr (.inl u_thens_kept)))] := hD.sub [0, 3, 4, 1, 2] (by decide) rfl
          obtain ⟨o9, ho9, hf⟩ := bd_e hf
          refine af0_i (va_runSN (As := [.long v4, .long o8]) (rest := []) ⟨hx, hb, hml, hown, hts⟩ (c_X7_allIn l G H.size v4 o8 o9 ho9) ⟨va_cnB (host := "AsARule") 2 hts gX1_takenOn_X7_allIn_n27 rfl rfl rfl (hg.2 _ (List.mem_of_getElem? (i := 1) rfl)) (hts (.initialized RX7) (by decide +kernel)) (by decide +kernel) ⟨Nat.le_of_ble_eq_true rfl, Nat.le_of_ble_eq_true rfl⟩, (hts (.static yX7_allIn) (by decide +kernel)), trivial⟩ (pcA_pre hg hc hP hD hS hA [] rfl rfl [.long v4, .long o8]) rfl rfl hl.1 rfl (lv_room (Nat.le_of_ble_eq_true rfl)) dX1_takenOn_58 ⟨Nat.zero_le _, Nat.zero_le _⟩) hP hD hS hA (fun H locs hP hD hS => ?_)
          refine lv_if_eq (tgt := 89) hx hb dX1_takenOn_61 (by decide) (fun c10 => ?_) (fun c10 => ?_)
          · have hf := it_t c10 hf
            obtain ⟨x11, ex11⟩ : ∃ y : Int32, y = (v9 + (1 : Int32)) := ⟨_, rfl⟩
            have hf := lt_n hf x11 ex11
            refine lv_iinc (v := x11) (lv' := [(9, .int x11), (0, .ref h_u), (4, .long v4), (6, .int v6), (7, .int v7), (8, .int v8)]) hx hb dX1_takenOn_89 hl (k := 5) rfl (by rw [ex11]; rfl) (by decide) rfl (fun ls hl => ?_)
            refine lv_goto (tgt := 28) hx hb dX1_takenOn_92 (by decide) ?_
            exact ih v4 v6 x11 hf _ _ hP hD hS _ (lv_sub hl [1, 2, 3, 4, 5, 0] rfl)
          · have hf := it_f c10 hf
            refine lv_lload hx hb dX1_takenOn_64 (lv_at hl 1 rfl) ?_
            refine lv_aload_n hx hb dX1_takenOn_66 rfl (lv_at hl 0 rfl) ?_
            refine va_get (D := G.1) (ci := 4) (v := .ref h_u_thens) (C := RX4) (T := TX4) (N := 4) hx hb hts hiX4 hown hg.1 hP 0 rfl rfl 1 (by decide) (hts (.fieldLink RX1 61 "AsARule$Rules" "thens" "LAsARule$Sayings;") (by decide +kernel)) (fun _ h9 => h9) rfl dX1_takenOn_67 ?_
            refine lv_iload hx hb dX1_takenOn_70 (lv_at hl 5 rfl) ?_
            obtain ⟨o12, ho12, hf⟩ := bd_e hf
            refine af_l (wr := [(h_u, .inr (4, [.ref h_u_whens, .ref h_u_thens, .ref h_u_grades, .int u_quarrel])), (h_u_whens, .inr (5, [.ref h_u_whens_kept, .int u_whens_most, .int u_whens_size])), (h_u_whens_kept, .inl (G.2.1.2.2, 9, .inr (.inl u_whens_kept)))]) (va_runV (As := [.int v9]) (rest := [.long v4]) ⟨hx, hb, hml, hown, hts⟩ (c_X5_get l G h_u_thens h_u_thens_kept H.size u_thens_most u_thens_size u_thens_kept v9 o12 ho12) (cwV 1 hts gX1_takenOn_X5_get rfl rfl rfl (by decide +kernel) ⟨Nat.le_of_ble_eq_true rfl, Nat.le_of_ble_eq_true rfl⟩) (pcA_preV hg hc hP hD hS hA [3, 4] rfl (by decide) (q0 := 3) (ci := 5) rfl rfl rfl) rfl rfl hl.1 rfl (lv_room (Nat.le_of_ble_eq_true rfl)) dX1_takenOn_72 ⟨Nat.zero_le _, Nat.zero_le _⟩) hP hD hS hA [3, 4] [0, 1, 2] rfl rfl (by decide) (by decide) (fun _ H locs _ hP hD hS => ?_)
            have hP : va_P G.1 vwCl [(h_u, .inr (4, [.ref h_u_whens, .ref h_u_thens, .ref h_u_grades, .int u_quarrel])), (h_u_whens, .inr (5, [.ref h_u_whens_kept, .int u_whens_most, .int u_whens_size])), (h_u_whens_kept, .inl (G.2.1.2.2, 9, .inr (.inl u_whens_kept))), (h_u_thens, .inr (5, [.ref h_u_thens_kept, .int u_thens_most, .int u_thens_size])), (h_u_thens_kept, .inl (G.2.1.2.2, 9, .inr (.inl u_thens_kept)))] H := hP
            have hD : va_D A [(h_u, .inr (4, [.ref h_u_whens, .ref h_u_thens, .ref h_u_grades, .int u_quarrel])), (h_u_whens, .inr (5, [.ref h_u_whens_kept, .int u_whens_most, .int u_whens_size])), (h_u_whens_kept, .inl (G.2.1.2.2, 9, .inr (.inl u_whens_kept))), (h_u_thens, .inr (5, [.ref h_u_thens_kept, .int u_thens_most, .int u_thens_size])), (h_u_thens_kept, .inl (G.2.1.2.2, 9, .inr (.inl u_thens_kept)))] := hD
            refine lv_land hx hb dX1_takenOn_75 ?_
            refine lv_topl (fun x13 ex13 => ?_)
            have hf := lt_n hf x13 ex13
            refine lv_lstore (lv' := [(4, .long x13), (0, .ref h_u), (6, .int v6), (7, .int v7), (8, .int v8), (9, .int v9)]) hx hb dX1_takenOn_76 hl (by decide) rfl (fun ls hl => ?_)
            refine lv_iload hx hb dX1_takenOn_78 (lv_at hl 2 rfl) ?_
            refine lv_iconst (v := (1 : Int32)) hx hb dX1_takenOn_80 (by decide) ?_
            refine lv_iload hx hb dX1_takenOn_81 (lv_at hl 5 rfl) ?_
            refine lv_ishl hx hb dX1_takenOn_83 ?_
            refine lv_iconst (v := (-1 : Int32)) hx hb dX1_takenOn_84 (by decide) ?_
            refine lv_ixor hx hb dX1_takenOn_85 ?_
            refine lv_iand hx hb dX1_takenOn_86 ?_
            refine lv_topi (fun x14 ex14 => ?_)
            have hf := lt_n hf x14 ex14
            refine lv_istore (lv' := [(6, .int x14), (4, .long x13), (0, .ref h_u), (7, .int v7), (8, .int v8), (9, .int v9)]) hx hb dX1_takenOn_87 hl (by decide) rfl (fun ls hl => ?_)
            obtain ⟨x15, ex15⟩ : ∃ y : Int32, y = (v9 + (1 : Int32)) := ⟨_, rfl⟩
            have hf := lt_n hf x15 ex15
            refine lv_iinc (v := x15) (lv' := [(9, .int x15), (6, .int x14), (4, .long x13), (0, .ref h_u), (7, .int v7), (8, .int v8)]) hx hb dX1_takenOn_89 hl (k := 5) rfl (by rw [ex15]; rfl) (by decide) rfl (fun ls hl => ?_)
            refine lv_goto (tgt := 28) hx hb dX1_takenOn_92 (by decide) ?_
            exact ih x13 x14 x15 hf _ _ hP hD hS _ (lv_sub hl [3, 2, 1, 4, 5, 0] rfl)
  have hw_9 : ∀  (n : Nat) (v4 : Int64) (v6 : Int32) (v7 : Int32), lp_X1_takenOn_9 u_whens_size u_whens_kept u_thens_size u_thens_kept a1 a2 n v4 v6 v7 = some o → ∀ (H : Heap) (locs : List Loc), va_P G.1 vwCl [(h_u, .inr (4, [.ref h_u_whens, .ref h_u_thens, .ref h_u_grades, .int u_quarrel])), (h_u_whens, .inr (5, [.ref h_u_whens_kept, .int u_whens_most, .int u_whens_size])), (h_u_whens_kept, .inl (G.2.1.2.2, 9, .inr (.inl u_whens_kept))), (h_u_thens, .inr (5, [.ref h_u_thens_kept, .int u_thens_most, .int u_thens_size])), (h_u_thens_kept, .inl (G.2.1.2.2, 9, .inr (.inl u_thens_kept)))] H → va_D A [(h_u, .inr (4, [.ref h_u_whens, .ref h_u_thens, .ref h_u_grades, .int u_quarrel])), (h_u_whens, .inr (5, [.ref h_u_whens_kept, .int u_whens_most, .int u_whens_size])), (h_u_whens_kept, .inl (G.2.1.2.2, 9, .inr (.inl u_whens_kept))), (h_u_thens, .inr (5, [.ref h_u_thens_kept, .int u_thens_most, .int u_thens_size])), (h_u_thens_kept, .inl (G.2.1.2.2, 9, .inr (.inl u_thens_kept)))] → va_S A s.heap H locs → ∀ (ls : Array Slot), lv_has ls 10 [(0, .ref h_u), (4, .long v4), (6, .int v6), (7, .int v7)] → W p l e (headSpec wsX1_takenOn ({ frames := 2, cells := 0, slots := 0, locals := 40 } : Room)).room s m ([.ref h_u, .int a1, .long a2] : List Value).toArray below meth c H locs 0 0 (MQ below (qcL Unit G o (fun _ => True) (fun _ => [(h_u, .inr (4, [.ref h_u_whens, .ref h_u_thens, .ref h_u_grades, .int u_quarrel])), (h_u_whens, .inr (5, [.ref h_u_whens_kept, .int u_whens_most, .int u_whens_size])), (h_u_whens_kept, .inl (G.2.1.2.2, 9, .inr (.inl u_whens_kept))), (h_u_thens, .inr (5, [.ref h_u_thens_kept, .int u_thens_most, .int u_thens_size])), (h_u_thens_kept, .inl (G.2.1.2.2, 9, .inr (.inl u_thens_kept)))]) A) ([.ref h_u, .int a1, .long a2] : List Value).toArray s 0 0 A) (F0 m 9 ls []) := by
    intro n
    induction n with
    | zero =>
      intro v4 v6 v7 hf
      exact absurd hf (by rw [lp_X1_takenOn_9]; intro h; cases h)
    | succ n ih =>
      intro v4 v6 v7 hf H locs hP hD hS ls hl
      rw [lp_X1_takenOn_9] at hf
      refine lv_iload hx hb dX1_takenOn_9 (lv_at hl 3 rfl) ?_
      refine lv_bipush (v := (8 : Int32)) hx hb dX1_takenOn_11 (by decide) ?_
      refine lv_icmp_ge (tgt := 110) hx hb dX1_takenOn_13 (by decide) (fun c16 => ?_) (fun c16 => ?_)
      · have hf := it_t c16 hf
        refine lv_lload hx hb dX1_takenOn_110 (lv_at hl 1 rfl) ?_
        rw [← Option.some.inj hf]
        exact rt_l (u := ()) hx hb hr hlocks hP hD trivial hS dX1_takenOn_112
      · have hf := it_f c16 hf
        refine lv_iload hx hb dX1_takenOn_16 (lv_at hl 2 rfl) ?_
        refine lv_if_eq (tgt := 110) hx hb dX1_takenOn_18 (by decide) (fun c17 => ?_) (fun c17 => ?_)
        · have hf := it_t c17 hf
          refine lv_lload hx hb dX1_takenOn_110 (lv_at hl 1 rfl) ?_
          rw [← Option.some.inj hf]
          exact rt_l (u := ()) hx hb hr hlocks hP hD trivial hS dX1_takenOn_112
        · have hf := it_f c17 hf
          refine lv_iload hx hb dX1_takenOn_21 (lv_at hl 2 rfl) ?_
          refine lv_istore (lv' := [(8, .int v6), (0, .ref h_u), (4, .long v4), (6, .int v6), (7, .int v7)]) hx hb dX1_takenOn_23 hl (by decide) rfl (fun ls hl => ?_)
          refine lv_iconst (v := (0 : Int32)) hx hb dX1_takenOn_25 (by decide) ?_
          refine lv_istore (lv' := [(9, .int (0 : Int32)), (8, .int v6), (0, .ref h_u), (4, .long v4), (6, .int v6), (7, .int v7)]) hx hb dX1_takenOn_26 hl (by decide) rfl (fun ls hl => ?_)
          exact hw_28 _ ih v7 v6 fu v4 v6 (0 : Int32) hf _ _ hP hD hS _ (lv_sub hl [2, 3, 4, 5, 1, 0] rfl)
  unfold f_X1_takenOn at hf
  refine en (fun H locs hP hD hS => ?_) hP hD
  refine lv_lload_n hx hb dX1_takenOn_0 rfl (lv_at hl 2 rfl) ?_
  refine lv_lstore (lv' := [(4, .long a2), (0, .ref h_u), (1, .int a1), (2, .long a2)]) hx hb dX1_takenOn_1 hl (by decide) rfl (fun ls hl => ?_)
  refine lv_iload_n hx hb dX1_takenOn_3 rfl (lv_at hl 2 rfl) ?_
  refine lv_istore (lv' := [(6, .int a1), (4, .long a2), (0, .ref h_u), (1, .int a1), (2, .long a2)]) hx hb dX1_takenOn_4 hl (by decide) rfl (fun ls hl => ?_)
  refine lv_iconst (v := (0 : Int32)) hx hb dX1_takenOn_6 (by decide) ?_
  refine lv_istore (lv' := [(7, .int (0 : Int32)), (6, .int a1), (4, .long a2), (0, .ref h_u), (1, .int a1), (2, .long a2)]) hx hb dX1_takenOn_7 hl (by decide) rfl (fun ls hl => ?_)
  exact hw_9 fu a2 a1 (0 : Int32) hf _ _ hP hD hS _ (lv_sub hl [3, 2, 1, 0] rfl)
-- method X1_isWhole
def jn_X1_isWhole_49 (u_whens_size : Int32) (u_whens_kept : Nat → Int64) (u_thens_size : Int32) (u_thens_kept : Nat → Int64) (a1 : Int32) (a2 : Int64) (k_3 : Int32 → Option (Int32)) (v4 : Int32) (s0 : Int32) : Option (Int32) :=
  if s0 = (0 : Int32) then lt (v4 + (1 : Int32)) (fun x2 => k_3 x2) else bd (f_X7_inSet a1 v4) (fun o3 => if o3 = (0 : Int32) then some ((0 : Int32)) else lt (v4 + (1 : Int32)) (fun x5 => k_3 x5))
def jn_X1_isWhole_48 (u_whens_size : Int32) (u_whens_kept : Nat → Int64) (u_thens_size : Int32) (u_thens_kept : Nat → Int64) (a1 : Int32) (a2 : Int64) (k_3 : Int32 → Option (Int32)) (v4 : Int32) : Option (Int32) :=
  jn_X1_isWhole_49 u_whens_size u_whens_kept u_thens_size u_thens_kept a1 a2 k_3 v4 (0 : Int32)
def lp_X1_isWhole_3 (u_whens_size : Int32) (u_whens_kept : Nat → Int64) (u_thens_size : Int32) (u_thens_kept : Nat → Int64) (a1 : Int32) (a2 : Int64) : Nat → Int32 → Option (Int32)
  | 0, _ => none
  | n + 1, v4 => bd (f_X4_size u_whens_size) (fun o6 => if o6 ≤ v4 then some ((1 : Int32)) else bd (f_X5_get u_whens_size u_whens_kept v4) (fun o8 => bd (f_X7_allIn a2 o8) (fun o9 => if o9 = (0 : Int32) then jn_X1_isWhole_48 u_whens_size u_whens_kept u_thens_size u_thens_kept a1 a2 (fun v4 => lp_X1_isWhole_3 u_whens_size u_whens_kept u_thens_size u_thens_kept a1 a2 n v4) v4 else bd (f_X5_get u_thens_size u_thens_kept v4) (fun o11 => if (a2 &&& o11) = (0 : Int64) then jn_X1_isWhole_48 u_whens_size u_whens_kept u_thens_size u_thens_kept a1 a2 (fun v4 => lp_X1_isWhole_3 u_whens_size u_whens_kept u_thens_size u_thens_kept a1 a2 n v4) v4 else jn_X1_isWhole_49 u_whens_size u_whens_kept u_thens_size u_thens_kept a1 a2 (fun v4 => lp_X1_isWhole_3 u_whens_size u_whens_kept u_thens_size u_thens_kept a1 a2 n v4) v4 (1 : Int32)))))
def f_X1_isWhole (u_whens_size : Int32) (u_whens_kept : Nat → Int64) (u_thens_size : Int32) (u_thens_kept : Nat → Int64) (a1 : Int32) (a2 : Int64) : Option (Int32) :=
  lp_X1_isWhole_3 u_whens_size u_whens_kept u_thens_size u_thens_kept a1 a2 fu (0 : Int32)
set_option maxHeartbeats 4000000 in
set_option maxRecDepth 100000 in
theorem c_X1_isWhole (l : Launch) (G : GG) (h_u h_u_whens h_u_thens h_u_grades h_u_whens_kept h_u_thens_kept : Nat) (sz : Nat) (u_quarrel : Int32) (u_whens_most : Int32) (u_whens_size : Int32) (u_whens_kept : Nat → Int64) (u_thens_most : Int32) (u_thens_size : Int32) (u_thens_kept : Nat → Int64) (a1 : Int32) (a2 : Int64) (o : Int32) (ho : f_X1_isWhole u_whens_size u_whens_kept u_thens_size u_thens_kept a1 a2 = some o)  : Met l yX1_isWhole wsX1_isWhole ({ frames := 2, cells := 0, slots := 0, locals := 40 } : Room) (pcA G [.ref h_u, .int a1, .long a2] [(h_u, .inr (4, [.ref h_u_whens, .ref h_u_thens, .ref h_u_grades, .int u_quarrel])), (h_u_whens, .inr (5, [.ref h_u_whens_kept, .int u_whens_most, .int u_whens_size])), (h_u_whens_kept, .inl (G.2.1.2.2, 9, .inr (.inl u_whens_kept))), (h_u_thens, .inr (5, [.ref h_u_thens_kept, .int u_thens_most, .int u_thens_size])), (h_u_thens_kept, .inl (G.2.1.2.2, 9, .inr (.inl u_thens_kept)))] sz) (qcI Unit G o (fun _ => True) (fun _ => [(h_u, .inr (4, [.ref h_u_whens, .ref h_u_thens, .ref h_u_grades, .int u_quarrel])), (h_u_whens, .inr (5, [.ref h_u_whens_kept, .int u_whens_most, .int u_whens_size])), (h_u_whens_kept, .inl (G.2.1.2.2, 9, .inr (.inl u_whens_kept))), (h_u_thens, .inr (5, [.ref h_u_thens_kept, .int u_thens_most, .int u_thens_size])), (h_u_thens_kept, .inl (G.2.1.2.2, 9, .inr (.inl u_thens_kept)))]) (va_A [(h_u, .inr (4, [.ref h_u_whens, .ref h_u_thens, .ref h_u_grades, .int u_quarrel])), (h_u_whens, .inr (5, [.ref h_u_whens_kept, .int u_whens_most, .int u_whens_size])), (h_u_whens_kept, .inl (G.2.1.2.2, 9, .inr (.inl u_whens_kept))), (h_u_thens, .inr (5, [.ref h_u_thens_kept, .int u_thens_most, .int u_thens_size])), (h_u_thens_kept, .inl (G.2.1.2.2, 9, .inr (.inl u_thens_kept)))] sz)) 0 0 (va_A [(h_u, .inr (4, [.ref h_u_whens, .ref h_u_thens, .ref h_u_grades, .int u_quarrel])), (h_u_whens, .inr (5, [.ref h_u_whens_kept, .int u_whens_most, .int u_whens_size])), (h_u_whens_kept, .inl (G.2.1.2.2, 9, .inr (.inl u_whens_kept))), (h_u_thens, .inr (5, [.ref h_u_thens_kept, .int u_thens_most, .int u_thens_size])), (h_u_thens_kept, .inl (G.2.1.2.2, 9, .inr (.inl u_thens_kept)))] sz) := by
  refine Met.ofW (cc := cX1_isWhole) (maxL := 6) (ret := (some .boolean)) (by decide) rfl ?_
  intro p e s m args below meth c s₁ B hml hv
  obtain ⟨rfl, hsz, hP, hg, hD0, hc⟩ := hv
  have hx := B.exec
  have hb := B.bytes
  have hr := B.returns
  have hts := atoms_spec (ws := wsX1_isWhole) B.pre
  have hown : s.vm.findClass RX1 = some m.cls := findClass_of_methodNamed B.named
  have hlocks := B.notSynchronized
  subst hsz
  have hD := hD0.self (sz := s.heap.size)
  generalize hAe : va_A [(h_u, .inr (4, [.ref h_u_whens, .ref h_u_thens, .ref h_u_grades, .int u_quarrel])), (h_u_whens, .inr (5, [.ref h_u_whens_kept, .int u_whens_most, .int u_whens_size])), (h_u_whens_kept, .inl (G.2.1.2.2, 9, .inr (.inl u_whens_kept))), (h_u_thens, .inr (5, [.ref h_u_thens_kept, .int u_thens_most, .int u_thens_size])), (h_u_thens_kept, .inl (G.2.1.2.2, 9, .inr (.inl u_thens_kept)))] s.heap.size = A at hD hc ⊢
  have hA : ∀ q : Nat, s.heap.size ≤ q → A q := fun q h => by rw [← hAe]; exact Or.inr h
  have hiX4 : ∀ w ∈ wsX40, w ∈ wsX1_isWhole := by decide +kernel
  have hl := lv_entry ([.ref h_u, .int a1, .long a2]) (n := 6) (Nat.le_of_ble_eq_true rfl)
  rw [lg_entry_eq]
  generalize (lg_sl ([.ref h_u, .int a1, .long a2]) ++ List.replicate (6 - (lg_sl ([.ref h_u, .int a1, .long a2])).length) Slot.unset).toArray = ls at hl ⊢
  have hl : lv_has ls 6 [(0, .ref h_u), (1, .int a1), (2, .long a2)] := hl
  have hf := ho
  have hw_49 : ∀ (k_3 : Int32 → Option (Int32)) (hk_3 : ∀ (v4 : Int32), k_3 v4 = some o → ∀ (H : Heap) (locs : List Loc), va_P G.1 vwCl [(h_u, .inr (4, [.ref h_u_whens, .ref h_u_thens, .ref h_u_grades, .int u_quarrel])), (h_u_whens, .inr (5, [.ref h_u_whens_kept, .int u_whens_most, .int u_whens_size])), (h_u_whens_kept, .inl (G.2.1.2.2, 9, .inr (.inl u_whens_kept))), (h_u_thens, .inr (5, [.ref h_u_thens_kept, .int u_thens_most, .int u_thens_size])), (h_u_thens_kept, .inl (G.2.1.2.2, 9, .inr (.inl u_thens_kept)))] H → va_D A [(h_u, .inr (4, [.ref h_u_whens, .ref h_u_thens, .ref h_u_grades, .int u_quarrel])), (h_u_whens, .inr (5, [.ref h_u_whens_kept, .int u_whens_most, .int u_whens_size])), (h_u_whens_kept, .inl (G.2.1.2.2, 9, .inr (.inl u_whens_kept))), (h_u_thens, .inr (5, [.ref h_u_thens_kept, .int u_thens_most, .int u_thens_size])), (h_u_thens_kept, .inl (G.2.1.2.2, 9, .inr (.inl u_thens_kept)))] → va_S A s.heap H locs → ∀ (ls : Array Slot), lv_has ls 6 [(0, .ref h_u), (1, .int a1), (2, .long a2), (4, .int v4)] → W p l e (headSpec wsX1_isWhole ({ frames := 2, cells := 0, slots := 0, locals := 40 } : Room)).room s m ([.ref h_u, .int a1, .long a2] : List Value).toArray below meth c H locs 0 0 (MQ below (qcI Unit G o (fun _ => True) (fun _ => [(h_u, .inr (4, [.ref h_u_whens, .ref h_u_thens, .ref h_u_grades, .int u_quarrel])), (h_u_whens, .inr (5, [.ref h_u_whens_kept, .int u_whens_most, .int u_whens_size])), (h_u_whens_kept, .inl (G.2.1.2.2, 9, .inr (.inl u_whens_kept))), (h_u_thens, .inr (5, [.ref h_u_thens_kept, .int u_thens_most, .int u_thens_size])), (h_u_thens_kept, .inl (G.2.1.2.2, 9, .inr (.inl u_thens_kept)))]) A) ([.ref h_u, .int a1, .long a2] : List Value).toArray s 0 0 A) (F0 m 3 ls [])) (v4 : Int32) (s0 : Int32), jn_X1_isWhole_49 u_whens_size u_whens_kept u_thens_size u_thens_kept a1 a2 k_3 v4 s0 = some o → ∀ (H : Heap) (locs : List Loc), va_P G.1 vwCl [(h_u, .inr (4, [.ref h_u_whens, .ref h_u_thens, .ref h_u_grades, .int u_quarrel])), (h_u_whens, .inr (5, [.ref h_u_whens_kept, .int u_whens_most, .int u_whens_size])), (h_u_whens_kept, .inl (G.2.1.2.2, 9, .inr (.inl u_whens_kept))), (h_u_thens, .inr (5, [.ref h_u_thens_kept, .int u_thens_most, .int u_thens_size])), (h_u_thens_kept, .inl (G.2.1.2.2, 9, .inr (.inl u_thens_kept)))] H → va_D A [(h_u, .inr (4, [.ref h_u_whens, .ref h_u_thens, .ref h_u_grades, .int u_quarrel])), (h_u_whens, .inr (5, [.ref h_u_whens_kept, .int u_whens_most, .int u_whens_size])), (h_u_whens_kept, .inl (G.2.1.2.2, 9, .inr (.inl u_whens_kept))), (h_u_thens, .inr (5, [.ref h_u_thens_kept, .int u_thens_most, .int u_thens_size])), (h_u_thens_kept, .inl (G.2.1.2.2, 9, .inr (.inl u_thens_kept)))] → va_S A s.heap H locs → ∀ (ls : Array Slot), lv_has ls 6 [(0, .ref h_u), (1, .int a1), (2, .long a2), (4, .int v4)] → W p l e (headSpec wsX1_isWhole ({ frames := 2, cells := 0, slots := 0, locals := 40 } : Room)).room s m ([.ref h_u, .int a1, .long a2] : List Value).toArray below meth c H locs 0 0 (MQ below (qcI Unit G o (fun _ => True) (fun _ => [(h_u, .inr (4, [.ref h_u_whens, .ref h_u_thens, .ref h_u_grades, .int u_quarrel])), (h_u_whens, .inr (5, [.ref h_u_whens_kept, .int u_whens_most, .int u_whens_size])), (h_u_whens_kept, .inl (G.2.1.2.2, 9, .inr (.inl u_whens_kept))), (h_u_thens, .inr (5, [.ref h_u_thens_kept, .int u_thens_most, .int u_thens_size])), (h_u_thens_kept, .inl (G.2.1.2.2, 9, .inr (.inl u_thens_kept)))]) A) ([.ref h_u, .int a1, .long a2] : List Value).toArray s 0 0 A) (F0 m 49 ls [.int s0]) := by
    intro k_3 hk_3 v4 s0 hf H locs hP hD hS ls hl
    unfold jn_X1_isWhole_49 at hf
    refine lv_istore (lv' := [(5, .int s0), (0, .ref h_u), (1, .int a1), (2, .long a2), (4, .int v4)]) hx hb dX1_isWhole_49 hl (by decide) rfl (fun ls hl => ?_)
    refine lv_iload hx hb dX1_isWhole_51 (lv_at hl 0 rfl) ?_
    refine lv_if_eq (tgt := 67) hx hb dX1_isWhole_53 (by decide) (fun c1 => ?_) (fun c1 => ?_)
    · have hf := it_t c1 hf
      obtain ⟨x2, ex2⟩ : ∃ y : Int32, y = (v4 + (1 : Int32)) := ⟨_, rfl⟩
      have hf := lt_n hf x2 ex2
      refine lv_iinc (v := x2) (lv' := [(4, .int x2), (5, .int s0), (0, .ref h_u), (1, .int a1), (2, .long a2)]) hx hb dX1_isWhole_67 hl (k := 4) rfl (by rw [ex2]; rfl) (by decide) rfl (fun ls hl => ?_)
      refine lv_goto (tgt := 3) hx hb dX1_isWhole_70 (by decide) ?_
      exact hk_3 x2 hf _ _ hP hD hS _ (lv_sub hl [2, 3, 4, 0] rfl)
    · have hf := it_f c1 hf
      refine lv_iload_n hx hb dX1_isWhole_56 rfl (lv_at hl 2 rfl) ?_
      refine lv_iload hx hb dX1_isWhole_57 (lv_at hl 4 rfl) ?_
      obtain ⟨o3, ho3, hf⟩ := bd_e hf
      refine af0_i (va_runSN (As := [.int a1, .int v4]) (rest := []) ⟨hx, hb, hml, hown, hts⟩ (c_X7_inSet l G H.size a1 v4 o3 ho3) ⟨va_cnB (host := "AsARule") 2 hts gX1_isWhole_X7_inSet_n48 rfl rfl rfl (hg.2 _ (List.mem_of_getElem? (i := 2) rfl)) (hts (.initialized RX7) (by decide +kernel)) (by decide +kernel) ⟨Nat.le_of_ble_eq_true rfl, Nat.le_of_ble_eq_true rfl⟩, (hts (.static yX7_inSet) (by decide +kernel)), trivial⟩ (pcA_pre hg hc hP hD hS hA [] rfl rfl [.int a1, .int v4]) rfl rfl hl.1 rfl (lv_room (Nat.le_of_ble_eq_true rfl)) dX1_isWhole_59 ⟨Nat.zero_le _, Nat.zero_le _⟩) hP hD hS hA (fun H locs hP hD hS => ?_)
      refine lv_if_ne (tgt := 67) hx hb dX1_isWhole_62 (by decide) (fun c4 => ?_) (fun c4 => ?_)
      · have hf := it_f c4 hf
        obtain ⟨x5, ex5⟩ : ∃ y : Int32, y = (v4 + (1 : Int32)) := ⟨_, rfl⟩
        have hf := lt_n hf x5 ex5
        refine lv_iinc (v := x5) (lv' := [(4, .int x5), (5, .int s0), (0, .ref h_u), (1, .int a1), (2, .long a2)]) hx hb dX1_isWhole_67 hl (k := 4) rfl (by rw [ex5]; rfl) (by decide) rfl (fun ls hl => ?_)
        refine lv_goto (tgt := 3) hx hb dX1_isWhole_70 (by decide) ?_
        exact hk_3 x5 hf _ _ hP hD hS _ (lv_sub hl [2, 3, 4, 0] rfl)
      · have hf := it_t c4 hf
        refine lv_iconst (v := (0 : Int32)) hx hb dX1_isWhole_65 (by decide) ?_
        rw [← Option.some.inj hf]
        exact rt_z (u := ()) hx hb hr zb_0 hlocks hP hD trivial hS dX1_isWhole_66
  have hw_48 : ∀ (k_3 : Int32 → Option (Int32)) (hk_3 : ∀ (v4 : Int32), k_3 v4 = some o → ∀ (H : Heap) (locs : List Loc), va_P G.1 vwCl [(h_u, .inr (4, [.ref h_u_whens, .ref h_u_thens, .ref h_u_grades, .int u_quarrel])), (h_u_whens, .inr (5, [.ref h_u_whens_kept, .int u_whens_most, .int u_whens_size])), (h_u_whens_kept, .inl (G.2.1.2.2, 9, .inr (.inl u_whens_kept))), (h_u_thens, .inr (5, [.ref h_u_thens_kept, .int u_thens_most, .int u_thens_size])), (h_u_thens_kept, .inl (G.2.1.2.2, 9, .inr (.inl u_thens_kept)))] H → va_D A [(h_u, .inr (4, [.ref h_u_whens, .ref h_u_thens, .ref h_u_grades, .int u_quarrel])), (h_u_whens, .inr (5, [.ref h_u_whens_kept, .int u_whens_most, .int u_whens_size])), (h_u_whens_kept, .inl (G.2.1.2.2, 9, .inr (.inl u_whens_kept))), (h_u_thens, .inr (5, [.ref h_u_thens_kept, .int u_thens_most, .int u_thens_size])), (h_u_thens_kept, .inl (G.2.1.2.2, 9, .inr (.inl u_thens_kept)))] → va_S A s.heap H locs → ∀ (ls : Array Slot), lv_has ls 6 [(0, .ref h_u), (1, .int a1), (2, .long a2), (4, .int v4)] → W p l e (headSpec wsX1_isWhole ({ frames := 2, cells := 0, slots := 0, locals := 40 } : Room)).room s m ([.ref h_u, .int a1, .long a2] : List Value).toArray below meth c H locs 0 0 (MQ below (qcI Unit G o (fun _ => True) (fun _ => [(h_u, .inr (4, [.ref h_u_whens, .ref h_u_thens, .ref h_u_grades, .int u_quarrel])), (h_u_whens, .inr (5, [.ref h_u_whens_kept, .int u_whens_most, .int u_whens_size])), (h_u_whens_kept, .inl (G.2.1.2.2, 9, .inr (.inl u_whens_kept))), (h_u_thens, .inr (5, [.ref h_u_thens_kept, .int u_thens_most, .int u_thens_size])), (h_u_thens_kept, .inl (G.2.1.2.2, 9, .inr (.inl u_thens_kept)))]) A) ([.ref h_u, .int a1, .long a2] : List Value).toArray s 0 0 A) (F0 m 3 ls [])) (v4 : Int32), jn_X1_isWhole_48 u_whens_size u_whens_kept u_thens_size u_thens_kept a1 a2 k_3 v4 = some o → ∀ (H : Heap) (locs : List Loc), va_P G.1 vwCl [(h_u, .inr (4, [.ref h_u_whens, .ref h_u_thens, .ref h_u_grades, .int u_quarrel])), (h_u_whens, .inr (5, [.ref h_u_whens_kept, .int u_whens_most, .int u_whens_size])), (h_u_whens_kept, .inl (G.2.1.2.2, 9, .inr (.inl u_whens_kept))), (h_u_thens, .inr (5, [.ref h_u_thens_kept, .int u_thens_most, .int u_thens_size])), (h_u_thens_kept, .inl (G.2.1.2.2, 9, .inr (.inl u_thens_kept)))] H → va_D A [(h_u, .inr (4, [.ref h_u_whens, .ref h_u_thens, .ref h_u_grades, .int u_quarrel])), (h_u_whens, .inr (5, [.ref h_u_whens_kept, .int u_whens_most, .int u_whens_size])), (h_u_whens_kept, .inl (G.2.1.2.2, 9, .inr (.inl u_whens_kept))), (h_u_thens, .inr (5, [.ref h_u_thens_kept, .int u_thens_most, .int u_thens_size])), (h_u_thens_kept, .inl (G.2.1.2.2, 9, .inr (.inl u_thens_kept)))] → va_S A s.heap H locs → ∀ (ls : Array Slot), lv_has ls 6 [(0, .ref h_u), (1, .int a1), (2, .long a2), (4, .int v4)] → W p l e (headSpec wsX1_isWhole ({ frames := 2, cells := 0, slots := 0, locals := 40 } : Room)).room s m ([.ref h_u, .int a1, .long a2] : List Value).toArray below meth c H locs 0 0 (MQ below (qcI Unit G o (fun _ => True) (fun _ => [(h_u, .inr (4, [.ref h_u_whens, .ref h_u_thens, .ref h_u_grades, .int u_quarrel])), (h_u_whens, .inr (5, [.ref h_u_whens_kept, .int u_whens_most, .int u_whens_size])), (h_u_whens_kept, .inl (G.2.1.2.2, 9, .inr (.inl u_whens_kept))), (h_u_thens, .inr (5, [.ref h_u_thens_kept, .int u_thens_most, .int u_thens_size])), (h_u_thens_kept, .inl (G.2.1.2.2, 9, .inr (.inl u_thens_kept)))]) A) ([.ref h_u, .int a1, .long a2] : List Value).toArray s 0 0 A) (F0 m 48 ls []) := by
    intro k_3 hk_3 v4 hf H locs hP hD hS ls hl
    unfold jn_X1_isWhole_48 at hf
    refine lv_iconst (v := (0 : Int32)) hx hb dX1_isWhole_48 (by decide) ?_
    exact hw_49 _ hk_3 v4 (0 : Int32) hf _ _ hP hD hS _ hl
  have hw_3 : ∀  (n : Nat) (v4 : Int32), lp_X1_isWhole_3 u_whens_size u_whens_kept u_thens_size u_thens_kept a1 a2 n v4 = some o → ∀ (H : Heap) (locs : List Loc), va_P G.1 vwCl [(h_u, .inr (4, [.ref h_u_whens, .ref h_u_thens, .ref h_u_grades, .int u_quarrel])), (h_u_whens, .inr (5, [.ref h_u_whens_kept, .int u_whens_most, .int u_whens_size])), (h_u_whens_kept, .inl (G.2.1.2.2, 9, .inr (.inl u_whens_kept))), (h_u_thens, .inr (5, [.ref h_u_thens_kept, .int u_thens_most, .int u_thens_size])), (h_u_thens_kept, .inl (G.2.1.2.2, 9, .inr (.inl u_thens_kept)))] H → va_D A [(h_u, .inr (4, [.ref h_u_whens, .ref h_u_thens, .ref h_u_grades, .int u_quarrel])), (h_u_whens, .inr (5, [.ref h_u_whens_kept, .int u_whens_most, .int u_whens_size])), (h_u_whens_kept, .inl (G.2.1.2.2, 9, .inr (.inl u_whens_kept))), (h_u_thens, .inr (5, [.ref h_u_thens_kept, .int u_thens_most, .int u_thens_size])), (h_u_thens_kept, .inl (G.2.1.2.2, 9, .inr (.inl u_thens_kept)))] → va_S A s.heap H locs → ∀ (ls : Array Slot), lv_has ls 6 [(0, .ref h_u), (1, .int a1), (2, .long a2), (4, .int v4)] → W p l e (headSpec wsX1_isWhole ({ frames := 2, cells := 0, slots := 0, locals := 40 } : Room)).room s m ([.ref h_u, .int a1, .long a2] : List Value).toArray below meth c H locs 0 0 (MQ below (qcI Unit G o (fun _ => True) (fun _ => [(h_u, .inr (4, [.ref h_u_whens, .ref h_u_thens, .ref h_u_grades, .int u_quarrel])), (h_u_whens, .inr (5, [.ref h_u_whens_kept, .int u_whens_most, .int u_whens_size])), (h_u_whens_kept, .inl (G.2.1.2.2, 9, .inr (.inl u_whens_kept))), (h_u_thens, .inr (5, [.ref h_u_thens_kept, .int u_thens_most, .int u_thens_size])), (h_u_thens_kept, .inl (G.2.1.2.2, 9, .inr (.inl u_thens_kept)))]) A) ([.ref h_u, .int a1, .long a2] : List Value).toArray s 0 0 A) (F0 m 3 ls []) := by
    intro n
    induction n with
    | zero =>
      intro v4 hf
      exact absurd hf (by rw [lp_X1_isWhole_3]; intro h; cases h)
    | succ n ih =>
      intro v4 hf H locs hP hD hS ls hl
      rw [lp_X1_isWhole_3] at hf
      refine lv_iload hx hb dX1_isWhole_3 (lv_at hl 3 rfl) ?_
      refine lv_aload_n hx hb dX1_isWhole_5 rfl (lv_at hl 0 rfl) ?_
      obtain ⟨o6, ho6, hf⟩ := bd_e hf
      refine af_i (wr := [(h_u_whens_kept, .inl (G.2.1.2.2, 9, .inr (.inl u_whens_kept))), (h_u_thens, .inr (5, [.ref h_u_thens_kept, .int u_thens_most, .int u_thens_size])), (h_u_thens_kept, .inl (G.2.1.2.2, 9, .inr (.inl u_thens_kept)))]) (va_runV (As := []) (rest := [.int v4]) ⟨hx, hb, hml, hown, hts⟩ (c_X4_size l G h_u h_u_whens h_u_thens h_u_grades h_u_whens_kept H.size u_quarrel u_whens_most u_whens_size o6 ho6) (cwV 0 hts gX1_isWhole_X4_size rfl rfl rfl (by decide +kernel) ⟨Nat.le_of_ble_eq_true rfl, Nat.le_of_ble_eq_true rfl⟩) (pcA_preV hg hc hP hD hS hA [0, 1] rfl (by decide) (q0 := 0) (ci := 4) rfl rfl rfl) rfl rfl hl.1 rfl (lv_room (Nat.le_of_ble_eq_true rfl)) dX1_isWhole_6 ⟨Nat.zero_le _, Nat.zero_le _⟩) hP hD hS hA [0, 1] [2, 3, 4] rfl rfl (by decide) (by decide) (fun _ H locs _ hP hD hS => ?_)
      have hP : va_P G.1 vwCl [(h_u, .inr (4, [.ref h_u_whens, .ref h_u_thens, .ref h_u_grades, .int u_quarrel])), (h_u_whens, .inr (5, [.ref h_u_whens_kept, .int u_whens_most, .int u_whens_size])), (h_u_whens_kept, .inl (G.2.1.2.2, 9, .inr (.inl u_whens_kept))), (h_u_thens, .inr (5, [.ref h_u_thens_kept, .int u_thens_most, .int u_thens_size])), (h_u_thens_kept, .inl (G.2.1.2.2, 9, .inr (.inl u_thens_kept)))] H := hP.sub [3, 4, 0, 1, 2] rfl
      have hD : va_D A [(h_u, .inr (4, [.ref h_u_whens, .ref h_u_thens, .ref h_u_grades, .int u_quarrel])), (h_u_whens, .inr (5, [.ref h_u_whens_kept, .int u_whens_most, .int u_whens_size])), (h_u_whens_kept, .inl (G.2.1.2.2, 9, .inr (.inl u_whens_kept))), (h_u_thens, .inr (5, [.ref h_u_thens_kept, .int u_thens_most, .int u_thens_size])), (h_u_thens_kept, .inl (G.2.1.2.2, 9, .inr (.inl u_thens_kept)))] := hD.sub [3, 4, 0, 1, 2] (by decide) rfl
      refine lv_icmp_ge (tgt := 73) hx hb dX1_isWhole_9 (by decide) (fun c7 => ?_) (fun c7 => ?_)
      · have hf := it_t c7 hf
        refine lv_iconst (v := (1 : Int32)) hx hb dX1_isWhole_73 (by decide) ?_
        rw [← Option.some.inj hf]
        exact rt_z (u := ()) hx hb hr zb_1 hlocks hP hD trivial hS dX1_isWhole_74
      · have hf := it_f c7 hf
        refine lv_lload_n hx hb dX1_isWhole_12 rfl (lv_at hl 2 rfl) ?_
        refine lv_aload_n hx hb dX1_isWhole_13 rfl (lv_at hl 0 rfl) ?_
        refine va_get (D := G.1) (ci := 4) (v := .ref h_u_whens) (C := RX4) (T := TX4) (N := 4) hx hb hts hiX4 hown hg.1 hP 0 rfl rfl 0 (by decide) (hts (.fieldLink RX1 52 "AsARule$Rules" "whens" "LAsARule$Sayings;") (by decide +kernel)) (fun _ h9 => h9) rfl dX1_isWhole_14 ?_
        refine lv_iload hx hb dX1_isWhole_17 (lv_at hl 3 rfl) ?_
        obtain ⟨o8, ho8, hf⟩ := bd_e hf
        refine af_l (wr := [(h_u, .inr (4, [.ref h_u_whens, .ref h_u_thens, .ref h_u_grades, .int u_quarrel])), (h_u_thens, .inr (5, [.ref h_u_thens_kept, .int u_thens_most, .int u_thens_size])), (h_u_thens_kept, .inl (G.2.1.2.2, 9, .inr (.inl u_thens_kept)))]) (va_runV (As := [.int v4]) (rest := [.long a2]) ⟨hx, hb, hml, hown, hts⟩ (c_X5_get l G h_u_whens h_u_whens_kept H.size u_whens_most u_whens_size u_whens_kept v4 o8 ho8) (cwV 1 hts gX1_isWhole_X5_get rfl rfl rfl (by decide +kernel) ⟨Nat.le_of_ble_eq_true rfl, Nat.le_of_ble_eq_true rfl⟩) (pcA_preV hg hc hP hD hS hA [1, 2] rfl (by decide) (q0 := 1) (ci := 5) rfl rfl rfl) rfl rfl hl.1 rfl (lv_room (Nat.le_of_ble_eq_true rfl)) dX1_isWhole_19 ⟨Nat.zero_le _, Nat.zero_le _⟩) hP hD hS hA [1, 2] [0, 3, 4] rfl rfl (by decide) (by decide) (fun _ H locs _ hP hD hS => ?_)
        have hP : va_P G.1 vwCl [(h_u, .inr (4, [.ref h_u_whens, .ref h_u_thens, .ref h_u_grades, .int u_quarrel])), (h_u_whens, .inr (5, [.ref h_u_whens_kept, .int u_whens_most, .int u_whens_size])), (h_u_whens_kept, .inl (G.2.1.2.2, 9, .inr (.inl u_whens_kept))), (h_u_thens, .inr (5, [.ref h_u_thens_kept, .int u_thens_most, .int u_thens_size])), (h_u_thens_kept, .inl (G.2.1.2.2, 9, .inr (.inl u_thens_kept)))] H := hP.sub [0, 3, 4, 1, 2] rfl
        have hD : va_D A [(h_u, .inr (4, [.ref h_u_whens, .ref h_u_thens, .ref h_u_grades, .int u_quarrel])), (h_u_whens, .inr (5, [.ref h_u_whens_kept, .int u_whens_most, .int u_whens_size])), (h_u_whens_kept, .inl (G.2.1.2.2, 9, .inr (.inl u_whens_kept))), (h_u_thens, .inr (5, [.ref h_u_thens_kept, .int u_thens_most, .int u_thens_size])), (h_u_thens_kept, .inl (G.2.1.2.2, 9, .inr (.inl u_thens_kept)))] := hD.sub [0, 3, 4, 1, 2] (by decide) rfl
        obtain ⟨o9, ho9, hf⟩ := bd_e hf
        refine af0_i (va_runSN (As := [.long a2, .long o8]) (rest := []) ⟨hx, hb, hml, hown, hts⟩ (c_X7_allIn l G H.size a2 o8 o9 ho9) ⟨va_cnB (host := "AsARule") 2 hts gX1_isWhole_X7_allIn_n27 rfl rfl rfl (hg.2 _ (List.mem_of_getElem? (i := 1) rfl)) (hts (.initialized RX7) (by decide +kernel)) (by decide +kernel) ⟨Nat.le_of_ble_eq_true rfl, Nat.le_of_ble_eq_true rfl⟩, (hts (.static yX7_allIn) (by decide +kernel)), trivial⟩ (pcA_pre hg hc hP hD hS hA [] rfl rfl [.long a2, .long o8]) rfl rfl hl.1 rfl (lv_room (Nat.le_of_ble_eq_true rfl)) dX1_isWhole_22 ⟨Nat.zero_le _, Nat.zero_le _⟩) hP hD hS hA (fun H locs hP hD hS => ?_)
        refine lv_if_eq (tgt := 48) hx hb dX1_isWhole_25 (by decide) (fun c10 => ?_) (fun c10 => ?_)
        · have hf := it_t c10 hf
          exact hw_48 _ ih v4 hf _ _ hP hD hS _ hl
        · have hf := it_f c10 hf
          refine lv_lload_n hx hb dX1_isWhole_28 rfl (lv_at hl 2 rfl) ?_
          refine lv_aload_n hx hb dX1_isWhole_29 rfl (lv_at hl 0 rfl) ?_
          refine va_get (D := G.1) (ci := 4) (v := .ref h_u_thens) (C := RX4) (T := TX4) (N := 4) hx hb hts hiX4 hown hg.1 hP 0 rfl rfl 1 (by decide) (hts (.fieldLink RX1 61 "AsARule$Rules" "thens" "LAsARule$Sayings;") (by decide +kernel)) (fun _ h9 => h9) rfl dX1_isWhole_30 ?_
          refine lv_iload hx hb dX1_isWhole_33 (lv_at hl 3 rfl) ?_
          obtain ⟨o11, ho11, hf⟩ := bd_e hf
          refine af_l (wr := [(h_u, .inr (4, [.ref h_u_whens, .ref h_u_thens, .ref h_u_grades, .int u_quarrel])), (h_u_whens, .inr (5, [.ref h_u_whens_kept, .int u_whens_most, .int u_whens_size])), (h_u_whens_kept, .inl (G.2.1.2.2, 9, .inr (.inl u_whens_kept)))]) (va_runV (As := [.int v4]) (rest := [.long a2]) ⟨hx, hb, hml, hown, hts⟩ (c_X5_get l G h_u_thens h_u_thens_kept H.size u_thens_most u_thens_size u_thens_kept v4 o11 ho11) (cwV 1 hts gX1_isWhole_X5_get rfl rfl rfl (by decide +kernel) ⟨Nat.le_of_ble_eq_true rfl, Nat.le_of_ble_eq_true rfl⟩) (pcA_preV hg hc hP hD hS hA [3, 4] rfl (by decide) (q0 := 3) (ci := 5) rfl rfl rfl) rfl rfl hl.1 rfl (lv_room (Nat.le_of_ble_eq_true rfl)) dX1_isWhole_35 ⟨Nat.zero_le _, Nat.zero_le _⟩) hP hD hS hA [3, 4] [0, 1, 2] rfl rfl (by decide) (by decide) (fun _ H locs _ hP hD hS => ?_)
          have hP : va_P G.1 vwCl [(h_u, .inr (4, [.ref h_u_whens, .ref h_u_thens, .ref h_u_grades, .int u_quarrel])), (h_u_whens, .inr (5, [.ref h_u_whens_kept, .int u_whens_most, .int u_whens_size])), (h_u_whens_kept, .inl (G.2.1.2.2, 9, .inr (.inl u_whens_kept))), (h_u_thens, .inr (5, [.ref h_u_thens_kept, .int u_thens_most, .int u_thens_size])), (h_u_thens_kept, .inl (G.2.1.2.2, 9, .inr (.inl u_thens_kept)))] H := hP
          have hD : va_D A [(h_u, .inr (4, [.ref h_u_whens, .ref h_u_thens, .ref h_u_grades, .int u_quarrel])), (h_u_whens, .inr (5, [.ref h_u_whens_kept, .int u_whens_most, .int u_whens_size])), (h_u_whens_kept, .inl (G.2.1.2.2, 9, .inr (.inl u_whens_kept))), (h_u_thens, .inr (5, [.ref h_u_thens_kept, .int u_thens_most, .int u_thens_size])), (h_u_thens_kept, .inl (G.2.1.2.2, 9, .inr (.inl u_thens_kept)))] := hD
          refine lv_land hx hb dX1_isWhole_38 ?_
          refine lv_lconst (v := (0 : Int64)) hx hb dX1_isWhole_39 (by decide) ?_
          refine W.lcmp hx hb dX1_isWhole_40 ?_
          refine lv_if_eq (tgt := 48) hx hb dX1_isWhole_41 (by decide) (fun c12 => ?_) (fun c12 => ?_)
          · have c12 := lgc0.mp c12
            have hf := it_t c12 hf
            exact hw_48 _ ih v4 hf _ _ hP hD hS _ hl
          · have c12 := fun z => c12 (lgc0.mpr z)
            have hf := it_f c12 hf
            refine lv_iconst (v := (1 : Int32)) hx hb dX1_isWhole_44 (by decide) ?_
            refine lv_goto (tgt := 49) hx hb dX1_isWhole_45 (by decide) ?_
            exact hw_49 _ ih v4 (1 : Int32) hf _ _ hP hD hS _ hl
  unfold f_X1_isWhole at hf
  refine en (fun H locs hP hD hS => ?_) hP hD
  refine lv_iconst (v := (0 : Int32)) hx hb dX1_isWhole_0 (by decide) ?_
  refine lv_istore (lv' := [(4, .int (0 : Int32)), (0, .ref h_u), (1, .int a1), (2, .long a2)]) hx hb dX1_isWhole_1 hl (by decide) rfl (fun ls hl => ?_)
  exact hw_3 fu (0 : Int32) hf _ _ hP hD hS _ (lv_sub hl [1, 2, 3, 0] rfl)
-- method X1_add
def f_X1_add (t_size : Int32) (t_sets : Nat → Int32) (t_lefts : Nat → Int64) (a1 : Int32) (a2 : Int64) : Option (Int32 × (Nat → Int32) × (Nat → Int64)) :=
  if (256 : Int32) ≤ t_size then some (t_size, t_sets, t_lefts) else if (256 : Int32) ≤ t_size then some (t_size, t_sets, t_lefts) else gd (ib t_size 256) (gd (ib t_size 256) (lt (t_size + (1 : Int32)) (fun x3 => some (x3, (upd t_sets t_size.toNatClampNeg a1), (vp_updL t_lefts t_size.toNatClampNeg a2)))))
set_option maxHeartbeats 4000000 in
set_option maxRecDepth 100000 in
theorem c_X1_add (l : Launch) (G : GG) (h_t h_t_sets h_t_lefts : Nat) (sz : Nat) (t_size : Int32) (t_sets : Nat → Int32) (t_lefts : Nat → Int64) (a1 : Int32) (a2 : Int64) (o : Int32 × (Nat → Int32) × (Nat → Int64)) (ho : f_X1_add t_size t_sets t_lefts a1 a2 = some o)  : Met l yX1_add wsX1_add ({ frames := 0, cells := 0, slots := 0, locals := 0 } : Room) (pcA G [.ref h_t, .int a1, .long a2] [(h_t, .inr (1, [.ref h_t_sets, .ref h_t_lefts, .int t_size])), (h_t_sets, .inl (G.2.1.2.1, 256, .inl t_sets)), (h_t_lefts, .inl (G.2.1.2.2, 256, .inr (.inl t_lefts)))] sz) (qcV Unit G (fun _ => True) (fun _ => [(h_t, .inr (1, [.ref h_t_sets, .ref h_t_lefts, .int o.1])), (h_t_sets, .inl (G.2.1.2.1, 256, .inl o.2.1)), (h_t_lefts, .inl (G.2.1.2.2, 256, .inr (.inl o.2.2)))]) (va_A [(h_t, .inr (1, [.ref h_t_sets, .ref h_t_lefts, .int t_size])), (h_t_sets, .inl (G.2.1.2.1, 256, .inl t_sets)), (h_t_lefts, .inl (G.2.1.2.2, 256, .inr (.inl t_lefts)))] sz)) 0 0 (va_A [(h_t, .inr (1, [.ref h_t_sets, .ref h_t_lefts, .int t_size])), (h_t_sets, .inl (G.2.1.2.1, 256, .inl t_sets)), (h_t_lefts, .inl (G.2.1.2.2, 256, .inr (.inl t_lefts)))] sz) := by
  refine Met.ofW (cc := cX1_add) (maxL := 4) (ret := none) (by decide) rfl ?_
  intro p e s m args below meth c s₁ B hml hv
  obtain ⟨rfl, hsz, hP, hg, hD0, hc⟩ := hv
  have hx := B.exec
  have hb := B.bytes
  have hr := B.returns
  have hts := atoms_spec (ws := wsX1_add) B.pre
  have hown : s.vm.findClass RX1 = some m.cls := findClass_of_methodNamed B.named
  have hlocks := B.notSynchronized
  subst hsz
  have hD := hD0.self (sz := s.heap.size)
  generalize hAe : va_A [(h_t, .inr (1, [.ref h_t_sets, .ref h_t_lefts, .int t_size])), (h_t_sets, .inl (G.2.1.2.1, 256, .inl t_sets)), (h_t_lefts, .inl (G.2.1.2.2, 256, .inr (.inl t_lefts)))] s.heap.size = A at hD hc ⊢
  have hA : ∀ q : Nat, s.heap.size ≤ q → A q := fun q h => by rw [← hAe]; exact Or.inr h
  have hiX1 : ∀ w ∈ wsX10, w ∈ wsX1_add := by decide +kernel
  have hl := lv_entry ([.ref h_t, .int a1, .long a2]) (n := 4) (Nat.le_of_ble_eq_true rfl)
  rw [lg_entry_eq]
  generalize (lg_sl ([.ref h_t, .int a1, .long a2]) ++ List.replicate (4 - (lg_sl ([.ref h_t, .int a1, .long a2])).length) Slot.unset).toArray = ls at hl ⊢
  have hl : lv_has ls 4 [(0, .ref h_t), (1, .int a1), (2, .long a2)] := hl
  have hf := ho
  unfold f_X1_add at hf
  refine en (fun H locs hP hD hS => ?_) hP hD
  refine lv_aload_n hx hb dX1_add_0 rfl (lv_at hl 0 rfl) ?_
  refine va_get (D := G.1) (ci := 1) (v := .int t_size) (C := RX1) (T := TX1) (N := 3) hx hb hts hiX1 hown hg.1 hP 0 rfl rfl 2 (by decide) (hts (.fieldLink RX1 19 "AsARule$Ends" "size" "I") (by decide +kernel)) (fun _ h9 => h9) rfl dX1_add_1 ?_
  refine lv_aload_n hx hb dX1_add_4 rfl (lv_at hl 0 rfl) ?_
  refine va_get (D := G.1) (ci := 1) (v := .ref h_t_sets) (C := RX1) (T := TX1) (N := 3) hx hb hts hiX1 hown hg.1 hP 0 rfl rfl 0 (by decide) (hts (.fieldLink RX1 9 "AsARule$Ends" "sets" "[I") (by decide +kernel)) (fun _ h9 => h9) rfl dX1_add_5 ?_
  refine va_alen (v := (256 : Int32)) hx hb hg.1 hP 1 1 rfl rfl rfl dX1_add_8 ?_
  refine lv_icmp_ge (tgt := 54) hx hb dX1_add_9 (by decide) (fun c1 => ?_) (fun c1 => ?_)
  · have hf := it_t c1 hf
    rw [← Option.some.inj hf]
    exact rt_v (u := ()) hx hb hr hlocks hP hD trivial hS dX1_add_54
  · have hf := it_f c1 hf
    refine lv_aload_n hx hb dX1_add_12 rfl (lv_at hl 0 rfl) ?_
    refine va_get (D := G.1) (ci := 1) (v := .int t_size) (C := RX1) (T := TX1) (N := 3) hx hb hts hiX1 hown hg.1 hP 0 rfl rfl 2 (by decide) (hts (.fieldLink RX1 19 "AsARule$Ends" "size" "I") (by decide +kernel)) (fun _ h9 => h9) rfl dX1_add_13 ?_
    refine lv_aload_n hx hb dX1_add_16 rfl (lv_at hl 0 rfl) ?_
    refine va_get (D := G.1) (ci := 1) (v := .ref h_t_lefts) (C := RX1) (T := TX1) (N := 3) hx hb hts hiX1 hown hg.1 hP 0 rfl rfl 1 (by decide) (hts (.fieldLink RX1 15 "AsARule$Ends" "lefts" "[J") (by decide +kernel)) (fun _ h9 => h9) rfl dX1_add_17 ?_
    refine va_alen (v := (256 : Int32)) hx hb hg.1 hP 2 2 rfl rfl rfl dX1_add_20 ?_
    refine lv_icmp_ge (tgt := 54) hx hb dX1_add_21 (by decide) (fun c2 => ?_) (fun c2 => ?_)
    · have hf := it_t c2 hf
      rw [← Option.some.inj hf]
      exact rt_v (u := ()) hx hb hr hlocks hP hD trivial hS dX1_add_54
    · have hf := it_f c2 hf
      refine lv_aload_n hx hb dX1_add_24 rfl (lv_at hl 0 rfl) ?_
      refine va_get (D := G.1) (ci := 1) (v := .ref h_t_sets) (C := RX1) (T := TX1) (N := 3) hx hb hts hiX1 hown hg.1 hP 0 rfl rfl 0 (by decide) (hts (.fieldLink RX1 9 "AsARule$Ends" "sets" "[I") (by decide +kernel)) (fun _ h9 => h9) rfl dX1_add_25 ?_
      refine lv_aload_n hx hb dX1_add_28 rfl (lv_at hl 0 rfl) ?_
      refine va_get (D := G.1) (ci := 1) (v := .int t_size) (C := RX1) (T := TX1) (N := 3) hx hb hts hiX1 hown hg.1 hP 0 rfl rfl 2 (by decide) (hts (.fieldLink RX1 19 "AsARule$Ends" "size" "I") (by decide +kernel)) (fun _ h9 => h9) rfl dX1_add_29 ?_
      refine lv_iload_n hx hb dX1_add_32 rfl (lv_at hl 1 rfl) ?_
      refine va_iast hx hb hg.1 hP hD hS 1 1 rfl rfl (ib_in (gd_t hf)) dX1_add_33 (fun H locs hP hD hS => ?_)
      have hf := gd_x hf
      have hP : va_P G.1 vwCl [(h_t, .inr (1, [.ref h_t_sets, .ref h_t_lefts, .int t_size])), (h_t_sets, .inl (G.2.1.2.1, 256, .inl (upd t_sets t_size.toNatClampNeg a1))), (h_t_lefts, .inl (G.2.1.2.2, 256, .inr (.inl t_lefts)))] H := hP
      have hD : va_D A [(h_t, .inr (1, [.ref h_t_sets, .ref h_t_lefts, .int t_size])), (h_t_sets, .inl (G.2.1.2.1, 256, .inl (upd t_sets t_size.toNatClampNeg a1))), (h_t_lefts, .inl (G.2.1.2.2, 256, .inr (.inl t_lefts)))] := hD
      refine lv_aload_n hx hb dX1_add_34 rfl (lv_at hl 0 rfl) ?_
      refine va_get (D := G.1) (ci := 1) (v := .ref h_t_lefts) (C := RX1) (T := TX1) (N := 3) hx hb hts hiX1 hown hg.1 hP 0 rfl rfl 1 (by decide) (hts (.fieldLink RX1 15 "AsARule$Ends" "lefts" "[J") (by decide +kernel)) (fun _ h9 => h9) rfl dX1_add_35 ?_
      refine lv_aload_n hx hb dX1_add_38 rfl (lv_at hl 0 rfl) ?_
      refine va_get (D := G.1) (ci := 1) (v := .int t_size) (C := RX1) (T := TX1) (N := 3) hx hb hts hiX1 hown hg.1 hP 0 rfl rfl 2 (by decide) (hts (.fieldLink RX1 19 "AsARule$Ends" "size" "I") (by decide +kernel)) (fun _ h9 => h9) rfl dX1_add_39 ?_
      refine lv_lload_n hx hb dX1_add_42 rfl (lv_at hl 2 rfl) ?_
      refine va_last hx hb hg.1 hP hD hS 2 2 rfl rfl (ib_in (gd_t hf)) dX1_add_43 (fun H locs hP hD hS => ?_)
      have hf := gd_x hf
      have hP : va_P G.1 vwCl [(h_t, .inr (1, [.ref h_t_sets, .ref h_t_lefts, .int t_size])), (h_t_sets, .inl (G.2.1.2.1, 256, .inl (upd t_sets t_size.toNatClampNeg a1))), (h_t_lefts, .inl (G.2.1.2.2, 256, .inr (.inl (vp_updL t_lefts t_size.toNatClampNeg a2))))] H := hP
      have hD : va_D A [(h_t, .inr (1, [.ref h_t_sets, .ref h_t_lefts, .int t_size])), (h_t_sets, .inl (G.2.1.2.1, 256, .inl (upd t_sets t_size.toNatClampNeg a1))), (h_t_lefts, .inl (G.2.1.2.2, 256, .inr (.inl (vp_updL t_lefts t_size.toNatClampNeg a2))))] := hD
      refine lv_aload_n hx hb dX1_add_44 rfl (lv_at hl 0 rfl) ?_
      refine lv_dup hx hb dX1_add_45 rfl ?_
      refine va_get (D := G.1) (ci := 1) (v := .int t_size) (C := RX1) (T := TX1) (N := 3) hx hb hts hiX1 hown hg.1 hP 0 rfl rfl 2 (by decide) (hts (.fieldLink RX1 19 "AsARule$Ends" "size" "I") (by decide +kernel)) (fun _ h9 => h9) rfl dX1_add_46 ?_
      refine lv_iconst (v := (1 : Int32)) hx hb dX1_add_49 (by decide) ?_
      refine lv_iadd hx hb dX1_add_50 ?_
      refine lv_topi (fun x3 ex3 => ?_)
      have hf := lt_n hf x3 ex3
      refine va_put (D := G.1) (ci := 1) (v := .int x3) (ty := .int) (C := RX1) (T := TX1) (N := 3) hx hb hts hiX1 tyX1 tyX1_ok nmX1 hown hg.1 hP hD hS 0 rfl rfl 2 (by decide) (hts (.fieldLink RX1 19 "AsARule$Ends" "size" "I") (by decide +kernel)) (fun _ h9 => h9) rfl (by decide +kernel) rfl rfl (Nat.le_of_ble_eq_true rfl) dX1_add_51 (fun H locs hP hD hS => ?_)
      have hP : va_P G.1 vwCl [(h_t, .inr (1, [.ref h_t_sets, .ref h_t_lefts, .int x3])), (h_t_sets, .inl (G.2.1.2.1, 256, .inl (upd t_sets t_size.toNatClampNeg a1))), (h_t_lefts, .inl (G.2.1.2.2, 256, .inr (.inl (vp_updL t_lefts t_size.toNatClampNeg a2))))] H := hP
      have hD : va_D A [(h_t, .inr (1, [.ref h_t_sets, .ref h_t_lefts, .int x3])), (h_t_sets, .inl (G.2.1.2.1, 256, .inl (upd t_sets t_size.toNatClampNeg a1))), (h_t_lefts, .inl (G.2.1.2.2, 256, .inr (.inl (vp_updL t_lefts t_size.toNatClampNeg a2))))] := hD
      rw [← Option.some.inj hf]
      exact rt_v (u := ()) hx hb hr hlocks hP hD trivial hS dX1_add_54
-- method X1_find
def lp_X1_find_8 (u_whens_size : Int32) (u_whens_kept : Nat → Int64) (u_thens_size : Int32) (u_thens_kept : Nat → Int64) (a2 : Int64) : Nat → Int32 → (Nat → Int32) → (Nat → Int64) → Int32 → Option (Int32 × (Nat → Int32) × (Nat → Int64))
  | 0, _, _, _, _ => none
  | n + 1, t_size, t_sets, t_lefts, v4 => if (256 : Int32) ≤ v4 then some (t_size, t_sets, t_lefts) else bd (f_X4_size u_whens_size) (fun o2 => if (ushI v4 o2) = (0 : Int32) then bd (f_X1_takenOn u_whens_size u_whens_kept u_thens_size u_thens_kept v4 a2) (fun o4 => if o4 = (0 : Int64) then lt (v4 + (1 : Int32)) (fun x6 => lp_X1_find_8 u_whens_size u_whens_kept u_thens_size u_thens_kept a2 n t_size t_sets t_lefts x6) else bd (f_X1_isWhole u_whens_size u_whens_kept u_thens_size u_thens_kept v4 o4) (fun o7 => if o7 = (0 : Int32) then lt (v4 + (1 : Int32)) (fun x9 => lp_X1_find_8 u_whens_size u_whens_kept u_thens_size u_thens_kept a2 n t_size t_sets t_lefts x9) else bd (f_X1_add t_size t_sets t_lefts v4 o4) (fun o10 => lt (v4 + (1 : Int32)) (fun x11 => lp_X1_find_8 u_whens_size u_whens_kept u_thens_size u_thens_kept a2 n o10.1 o10.2.1 o10.2.2 x11)))) else some (t_size, t_sets, t_lefts))
def f_X1_find (t_size : Int32) (t_sets : Nat → Int32) (t_lefts : Nat → Int64) (u_whens_size : Int32) (u_whens_kept : Nat → Int64) (u_thens_size : Int32) (u_thens_kept : Nat → Int64) (a2 : Int64) : Option (Int32 × (Nat → Int32) × (Nat → Int64)) :=
  lp_X1_find_8 u_whens_size u_whens_kept u_thens_size u_thens_kept a2 fu (0 : Int32) t_sets t_lefts (0 : Int32)
set_option maxHeartbeats 4000000 in
set_option maxRecDepth 100000 in
theorem c_X1_find (l : Launch) (G : GG) (h_t h_t_sets h_t_lefts h_u h_u_whens h_u_thens h_u_grades h_u_whens_kept h_u_thens_kept : Nat) (sz : Nat) (t_size : Int32) (t_sets : Nat → Int32) (t_lefts : Nat → Int64) (u_quarrel : Int32) (u_whens_most : Int32) (u_whens_size : Int32) (u_whens_kept : Nat → Int64) (u_thens_most : Int32) (u_thens_size : Int32) (u_thens_kept : Nat → Int64) (a2 : Int64) (o : Int32 × (Nat → Int32) × (Nat → Int64)) (ho : f_X1_find t_size t_sets t_lefts u_whens_size u_whens_kept u_thens_size u_thens_kept a2 = some o)  : Met l yX1_find wsX1_find ({ frames := 3, cells := 0, slots := 0, locals := 69 } : Room) (pcA G [.ref h_t, .ref h_u, .long a2] [(h_t, .inr (1, [.ref h_t_sets, .ref h_t_lefts, .int t_size])), (h_t_sets, .inl (G.2.1.2.1, 256, .inl t_sets)), (h_t_lefts, .inl (G.2.1.2.2, 256, .inr (.inl t_lefts))), (h_u, .inr (4, [.ref h_u_whens, .ref h_u_thens, .ref h_u_grades, .int u_quarrel])), (h_u_whens, .inr (5, [.ref h_u_whens_kept, .int u_whens_most, .int u_whens_size])), (h_u_whens_kept, .inl (G.2.1.2.2, 9, .inr (.inl u_whens_kept))), (h_u_thens, .inr (5, [.ref h_u_thens_kept, .int u_thens_most, .int u_thens_size])), (h_u_thens_kept, .inl (G.2.1.2.2, 9, .inr (.inl u_thens_kept)))] sz) (qcV Unit G (fun _ => True) (fun _ => [(h_t, .inr (1, [.ref h_t_sets, .ref h_t_lefts, .int o.1])), (h_t_sets, .inl (G.2.1.2.1, 256, .inl o.2.1)), (h_t_lefts, .inl (G.2.1.2.2, 256, .inr (.inl o.2.2))), (h_u, .inr (4, [.ref h_u_whens, .ref h_u_thens, .ref h_u_grades, .int u_quarrel])), (h_u_whens, .inr (5, [.ref h_u_whens_kept, .int u_whens_most, .int u_whens_size])), (h_u_whens_kept, .inl (G.2.1.2.2, 9, .inr (.inl u_whens_kept))), (h_u_thens, .inr (5, [.ref h_u_thens_kept, .int u_thens_most, .int u_thens_size])), (h_u_thens_kept, .inl (G.2.1.2.2, 9, .inr (.inl u_thens_kept)))]) (va_A [(h_t, .inr (1, [.ref h_t_sets, .ref h_t_lefts, .int t_size])), (h_t_sets, .inl (G.2.1.2.1, 256, .inl t_sets)), (h_t_lefts, .inl (G.2.1.2.2, 256, .inr (.inl t_lefts))), (h_u, .inr (4, [.ref h_u_whens, .ref h_u_thens, .ref h_u_grades, .int u_quarrel])), (h_u_whens, .inr (5, [.ref h_u_whens_kept, .int u_whens_most, .int u_whens_size])), (h_u_whens_kept, .inl (G.2.1.2.2, 9, .inr (.inl u_whens_kept))), (h_u_thens, .inr (5, [.ref h_u_thens_kept, .int u_thens_most, .int u_thens_size])), (h_u_thens_kept, .inl (G.2.1.2.2, 9, .inr (.inl u_thens_kept)))] sz)) 0 0 (va_A [(h_t, .inr (1, [.ref h_t_sets, .ref h_t_lefts, .int t_size])), (h_t_sets, .inl (G.2.1.2.1, 256, .inl t_sets)), (h_t_lefts, .inl (G.2.1.2.2, 256, .inr (.inl t_lefts))), (h_u, .inr (4, [.ref h_u_whens, .ref h_u_thens, .ref h_u_grades, .int u_quarrel])), (h_u_whens, .inr (5, [.ref h_u_whens_kept, .int u_whens_most, .int u_whens_size])), (h_u_whens_kept, .inl (G.2.1.2.2, 9, .inr (.inl u_whens_kept))), (h_u_thens, .inr (5, [.ref h_u_thens_kept, .int u_thens_most, .int u_thens_size])), (h_u_thens_kept, .inl (G.2.1.2.2, 9, .inr (.inl u_thens_kept)))] sz) := by
  refine Met.ofW (cc := cX1_find) (maxL := 7) (ret := none) (by decide) rfl ?_
  intro p e s m args below meth c s₁ B hml hv
  obtain ⟨rfl, hsz, hP, hg, hD0, hc⟩ := hv
  have hx := B.exec
  have hb := B.bytes
  have hr := B.returns
  have hts := atoms_spec (ws := wsX1_find) B.pre
  have hown : s.vm.findClass RX1 = some m.cls := findClass_of_methodNamed B.named
  have hlocks := B.notSynchronized
  subst hsz
  have hD := hD0.self (sz := s.heap.size)
  generalize hAe : va_A [(h_t, .inr (1, [.ref h_t_sets, .ref h_t_lefts, .int t_size])), (h_t_sets, .inl (G.2.1.2.1, 256, .inl t_sets)), (h_t_lefts, .inl (G.2.1.2.2, 256, .inr (.inl t_lefts))), (h_u, .inr (4, [.ref h_u_whens, .ref h_u_thens, .ref h_u_grades, .int u_quarrel])), (h_u_whens, .inr (5, [.ref h_u_whens_kept, .int u_whens_most, .int u_whens_size])), (h_u_whens_kept, .inl (G.2.1.2.2, 9, .inr (.inl u_whens_kept))), (h_u_thens, .inr (5, [.ref h_u_thens_kept, .int u_thens_most, .int u_thens_size])), (h_u_thens_kept, .inl (G.2.1.2.2, 9, .inr (.inl u_thens_kept)))] s.heap.size = A at hD hc ⊢
  have hA : ∀ q : Nat, s.heap.size ≤ q → A q := fun q h => by rw [← hAe]; exact Or.inr h
  have hiX1 : ∀ w ∈ wsX10, w ∈ wsX1_find := by decide +kernel
  have hl := lv_entry ([.ref h_t, .ref h_u, .long a2]) (n := 7) (Nat.le_of_ble_eq_true rfl)
  rw [lg_entry_eq]
  generalize (lg_sl ([.ref h_t, .ref h_u, .long a2]) ++ List.replicate (7 - (lg_sl ([.ref h_t, .ref h_u, .long a2])).length) Slot.unset).toArray = ls at hl ⊢
  have hl : lv_has ls 7 [(0, .ref h_t), (1, .ref h_u), (2, .long a2)] := hl
  have hf := ho
  have hw_8 : ∀  (n : Nat) (t_size : Int32) (t_sets : Nat → Int32) (t_lefts : Nat → Int64) (v4 : Int32), lp_X1_find_8 u_whens_size u_whens_kept u_thens_size u_thens_kept a2 n t_size t_sets t_lefts v4 = some o → ∀ (H : Heap) (locs : List Loc), va_P G.1 vwCl [(h_t, .inr (1, [.ref h_t_sets, .ref h_t_lefts, .int t_size])), (h_t_sets, .inl (G.2.1.2.1, 256, .inl t_sets)), (h_t_lefts, .inl (G.2.1.2.2, 256, .inr (.inl t_lefts))), (h_u, .inr (4, [.ref h_u_whens, .ref h_u_thens, .ref h_u_grades, .int u_quarrel])), (h_u_whens, .inr (5, [.ref h_u_whens_kept, .int u_whens_most, .int u_whens_size])), (h_u_whens_kept, .inl (G.2.1.2.2, 9, .inr (.inl u_whens_kept))), (h_u_thens, .inr (5, [.ref h_u_thens_kept, .int u_thens_most, .int u_thens_size])), (h_u_thens_kept, .inl (G.2.1.2.2, 9, .inr (.inl u_thens_kept)))] H → va_D A [(h_t, .inr (1, [.ref h_t_sets, .ref h_t_lefts, .int t_size])), (h_t_sets, .inl (G.2.1.2.1, 256, .inl t_sets)), (h_t_lefts, .inl (G.2.1.2.2, 256, .inr (.inl t_lefts))), (h_u, .inr (4, [.ref h_u_whens, .ref h_u_thens, .ref h_u_grades, .int u_quarrel])), (h_u_whens, .inr (5, [.ref h_u_whens_kept, .int u_whens_most, .int u_whens_size])), (h_u_whens_kept, .inl (G.2.1.2.2, 9, .inr (.inl u_whens_kept))), (h_u_thens, .inr (5, [.ref h_u_thens_kept, .int u_thens_most, .int u_thens_size])), (h_u_thens_kept, .inl (G.2.1.2.2, 9, .inr (.inl u_thens_kept)))] → va_S A s.heap H locs → ∀ (ls : Array Slot), lv_has ls 7 [(0, .ref h_t), (1, .ref h_u), (2, .long a2), (4, .int v4)] → W p l e (headSpec wsX1_find ({ frames := 3, cells := 0, slots := 0, locals := 69 } : Room)).room s m ([.ref h_t, .ref h_u, .long a2] : List Value).toArray below meth c H locs 0 0 (MQ below (qcV Unit G (fun _ => True) (fun _ => [(h_t, .inr (1, [.ref h_t_sets, .ref h_t_lefts, .int o.1])), (h_t_sets, .inl (G.2.1.2.1, 256, .inl o.2.1)), (h_t_lefts, .inl (G.2.1.2.2, 256, .inr (.inl o.2.2))), (h_u, .inr (4, [.ref h_u_whens, .ref h_u_thens, .ref h_u_grades, .int u_quarrel])), (h_u_whens, .inr (5, [.ref h_u_whens_kept, .int u_whens_most, .int u_whens_size])), (h_u_whens_kept, .inl (G.2.1.2.2, 9, .inr (.inl u_whens_kept))), (h_u_thens, .inr (5, [.ref h_u_thens_kept, .int u_thens_most, .int u_thens_size])), (h_u_thens_kept, .inl (G.2.1.2.2, 9, .inr (.inl u_thens_kept)))]) A) ([.ref h_t, .ref h_u, .long a2] : List Value).toArray s 0 0 A) (F0 m 8 ls []) := by
    intro n
    induction n with
    | zero =>
      intro t_size t_sets t_lefts v4 hf
      exact absurd hf (by rw [lp_X1_find_8]; intro h; cases h)
    | succ n ih =>
      intro t_size t_sets t_lefts v4 hf H locs hP hD hS ls hl
      rw [lp_X1_find_8] at hf
      refine lv_iload hx hb dX1_find_8 (lv_at hl 3 rfl) ?_
      refine lv_sipush (v := (256 : Int32)) hx hb dX1_find_10 (by decide) ?_
      refine lv_icmp_ge (tgt := 67) hx hb dX1_find_13 (by decide) (fun c1 => ?_) (fun c1 => ?_)
      · have hf := it_t c1 hf
        rw [← Option.some.inj hf]
        exact rt_v (u := ()) hx hb hr hlocks hP hD trivial hS dX1_find_67
      · have hf := it_f c1 hf
        refine lv_iload hx hb dX1_find_16 (lv_at hl 3 rfl) ?_
        refine lv_aload_n hx hb dX1_find_18 rfl (lv_at hl 1 rfl) ?_
        obtain ⟨o2, ho2, hf⟩ := bd_e hf
        refine af_i (wr := [(h_t, .inr (1, [.ref h_t_sets, .ref h_t_lefts, .int t_size])), (h_t_sets, .inl (G.2.1.2.1, 256, .inl t_sets)), (h_t_lefts, .inl (G.2.1.2.2, 256, .inr (.inl t_lefts))), (h_u_whens_kept, .inl (G.2.1.2.2, 9, .inr (.inl u_whens_kept))), (h_u_thens, .inr (5, [.ref h_u_thens_kept, .int u_thens_most, .int u_thens_size])), (h_u_thens_kept, .inl (G.2.1.2.2, 9, .inr (.inl u_thens_kept)))]) (va_runV (As := []) (rest := [.int v4]) ⟨hx, hb, hml, hown, hts⟩ (c_X4_size l G h_u h_u_whens h_u_thens h_u_grades h_u_whens_kept H.size u_quarrel u_whens_most u_whens_size o2 ho2) (cwV 0 hts gX1_find_X4_size rfl rfl rfl (by decide +kernel) ⟨Nat.le_of_ble_eq_true rfl, Nat.le_of_ble_eq_true rfl⟩) (pcA_preV hg hc hP hD hS hA [3, 4] rfl (by decide) (q0 := 3) (ci := 4) rfl rfl rfl) rfl rfl hl.1 rfl (lv_room (Nat.le_of_ble_eq_true rfl)) dX1_find_19 ⟨Nat.zero_le _, Nat.zero_le _⟩) hP hD hS hA [3, 4] [0, 1, 2, 5, 6, 7] rfl rfl (by decide) (by decide) (fun _ H locs _ hP hD hS => ?_)
        have hP : va_P G.1 vwCl [(h_t, .inr (1, [.ref h_t_sets, .ref h_t_lefts, .int t_size])), (h_t_sets, .inl (G.2.1.2.1, 256, .inl t_sets)), (h_t_lefts, .inl (G.2.1.2.2, 256, .inr (.inl t_lefts))), (h_u, .inr (4, [.ref h_u_whens, .ref h_u_thens, .ref h_u_grades, .int u_quarrel])), (h_u_whens, .inr (5, [.ref h_u_whens_kept, .int u_whens_most, .int u_whens_size])), (h_u_whens_kept, .inl (G.2.1.2.2, 9, .inr (.inl u_whens_kept))), (h_u_thens, .inr (5, [.ref h_u_thens_kept, .int u_thens_most, .int u_thens_size])), (h_u_thens_kept, .inl (G.2.1.2.2, 9, .inr (.inl u_thens_kept)))] H := hP.sub [0, 1, 2, 6, 7, 3, 4, 5] rfl
        have hD : va_D A [(h_t, .inr (1, [.ref h_t_sets, .ref h_t_lefts, .int t_size])), (h_t_sets, .inl (G.2.1.2.1, 256, .inl t_sets)), (h_t_lefts, .inl (G.2.1.2.2, 256, .inr (.inl t_lefts))), (h_u, .inr (4, [.ref h_u_whens, .ref h_u_thens, .ref h_u_grades, .int u_quarrel])), (h_u_whens, .inr (5, [.ref h_u_whens_kept, .int u_whens_most, .int u_whens_size])), (h_u_whens_kept, .inl (G.2.1.2.2, 9, .inr (.inl u_whens_kept))), (h_u_thens, .inr (5, [.ref h_u_thens_kept, .int u_thens_most, .int u_thens_size])), (h_u_thens_kept, .inl (G.2.1.2.2, 9, .inr (.inl u_thens_kept)))] := hD.sub [0, 1, 2, 6, 7, 3, 4, 5] (by decide) rfl
        refine lv_iushr (v := (ushI v4 o2)) hx hb dX1_find_22 rfl ?_
        refine lv_if_ne (tgt := 67) hx hb dX1_find_23 (by decide) (fun c3 => ?_) (fun c3 => ?_)
        · have hf := it_f c3 hf
          rw [← Option.some.inj hf]
          exact rt_v (u := ()) hx hb hr hlocks hP hD trivial hS dX1_find_67
        · have hf := it_t c3 hf
          refine lv_aload_n hx hb dX1_find_26 rfl (lv_at hl 1 rfl) ?_
          refine lv_iload hx hb dX1_find_27 (lv_at hl 3 rfl) ?_
          refine lv_lload_n hx hb dX1_find_29 rfl (lv_at hl 2 rfl) ?_
          obtain ⟨o4, ho4, hf⟩ := bd_e hf
          refine af_l (wr := [(h_t, .inr (1, [.ref h_t_sets, .ref h_t_lefts, .int t_size])), (h_t_sets, .inl (G.2.1.2.1, 256, .inl t_sets)), (h_t_lefts, .inl (G.2.1.2.2, 256, .inr (.inl t_lefts)))]) (va_runS (As := [.ref h_u, .int v4, .long a2]) (rest := []) ⟨hx, hb, hml, hown, hts⟩ (c_X1_takenOn l G h_u h_u_whens h_u_thens h_u_grades h_u_whens_kept h_u_thens_kept H.size u_quarrel u_whens_most u_whens_size u_whens_kept u_thens_most u_thens_size u_thens_kept v4 a2 o4 ho4) (va_cwS 3 hts gX1_find_X1_takenOn rfl rfl rfl (by decide +kernel) ⟨Nat.le_of_ble_eq_true rfl, Nat.le_of_ble_eq_true rfl⟩) (pcA_pre hg hc hP hD hS hA [3, 4, 5, 6, 7] rfl (by decide) [.ref h_u, .int v4, .long a2]) rfl rfl hl.1 rfl (lv_room (Nat.le_of_ble_eq_true rfl)) dX1_find_30 ⟨Nat.zero_le _, Nat.zero_le _⟩) hP hD hS hA [3, 4, 5, 6, 7] [0, 1, 2] rfl rfl (by decide) (by decide) (fun _ H locs _ hP hD hS => ?_)
          have hP : va_P G.1 vwCl [(h_t, .inr (1, [.ref h_t_sets, .ref h_t_lefts, .int t_size])), (h_t_sets, .inl (G.2.1.2.1, 256, .inl t_sets)), (h_t_lefts, .inl (G.2.1.2.2, 256, .inr (.inl t_lefts))), (h_u, .inr (4, [.ref h_u_whens, .ref h_u_thens, .ref h_u_grades, .int u_quarrel])), (h_u_whens, .inr (5, [.ref h_u_whens_kept, .int u_whens_most, .int u_whens_size])), (h_u_whens_kept, .inl (G.2.1.2.2, 9, .inr (.inl u_whens_kept))), (h_u_thens, .inr (5, [.ref h_u_thens_kept, .int u_thens_most, .int u_thens_size])), (h_u_thens_kept, .inl (G.2.1.2.2, 9, .inr (.inl u_thens_kept)))] H := hP
          have hD : va_D A [(h_t, .inr (1, [.ref h_t_sets, .ref h_t_lefts, .int t_size])), (h_t_sets, .inl (G.2.1.2.1, 256, .inl t_sets)), (h_t_lefts, .inl (G.2.1.2.2, 256, .inr (.inl t_lefts))), (h_u, .inr (4, [.ref h_u_whens, .ref h_u_thens, .ref h_u_grades, .int u_quarrel])), (h_u_whens, .inr (5, [.ref h_u_whens_kept, .int u_whens_most, .int u_whens_size])), (h_u_whens_kept, .inl (G.2.1.2.2, 9, .inr (.inl u_whens_kept))), (h_u_thens, .inr (5, [.ref h_u_thens_kept, .int u_thens_most, .int u_thens_size])), (h_u_thens_kept, .inl (G.2.1.2.2, 9, .inr (.inl u_thens_kept)))] := hD
          refine lv_lstore (lv' := [(5, .long o4), (0, .ref h_t), (1, .ref h_u), (2, .long a2), (4, .int v4)]) hx hb dX1_find_33 hl (by decide) rfl (fun ls hl => ?_)
          refine lv_lload hx hb dX1_find_35 (lv_at hl 0 rfl) ?_
          refine lv_lconst (v := (0 : Int64)) hx hb dX1_find_37 (by decide) ?_
          refine W.lcmp hx hb dX1_find_38 ?_
          refine lv_if_eq (tgt := 61) hx hb dX1_find_39 (by decide) (fun c5 => ?_) (fun c5 => ?_)
          · have c5 := lgc0.mp c5
            have hf := it_t c5 hf
            obtain ⟨x6, ex6⟩ : ∃ y : Int32, y = (v4 + (1 : Int32)) := ⟨_, rfl⟩
            have hf := lt_n hf x6 ex6
            refine lv_iinc (v := x6) (lv' := [(4, .int x6), (5, .long o4), (0, .ref h_t), (1, .ref h_u), (2, .long a2)]) hx hb dX1_find_61 hl (k := 4) rfl (by rw [ex6]; rfl) (by decide) rfl (fun ls hl => ?_)
            refine lv_goto (tgt := 8) hx hb dX1_find_64 (by decide) ?_
            exact ih t_size t_sets t_lefts x6 hf _ _ hP hD hS _ (lv_sub hl [2, 3, 4, 0] rfl)
          · have c5 := fun z => c5 (lgc0.mpr z)
            have hf := it_f c5 hf
            refine lv_aload_n hx hb dX1_find_42 rfl (lv_at hl 2 rfl) ?_
            refine lv_iload hx hb dX1_find_43 (lv_at hl 4 rfl) ?_
            refine lv_lload hx hb dX1_find_45 (lv_at hl 0 rfl) ?_
            obtain ⟨o7, ho7, hf⟩ := bd_e hf
            refine af_i (wr := [(h_t, .inr (1, [.ref h_t_sets, .ref h_t_lefts, .int t_size])), (h_t_sets, .inl (G.2.1.2.1, 256, .inl t_sets)), (h_t_lefts, .inl (G.2.1.2.2, 256, .inr (.inl t_lefts)))]) (va_runS (As := [.ref h_u, .int v4, .long o4]) (rest := []) ⟨hx, hb, hml, hown, hts⟩ (c_X1_isWhole l G h_u h_u_whens h_u_thens h_u_grades h_u_whens_kept h_u_thens_kept H.size u_quarrel u_whens_most u_whens_size u_whens_kept u_thens_most u_thens_size u_thens_kept v4 o4 o7 ho7) (va_cwS 3 hts gX1_find_X1_isWhole rfl rfl rfl (by decide +kernel) ⟨Nat.le_of_ble_eq_true rfl, Nat.le_of_ble_eq_true rfl⟩) (pcA_pre hg hc hP hD hS hA [3, 4, 5, 6, 7] rfl (by decide) [.ref h_u, .int v4, .long o4]) rfl rfl hl.1 rfl (lv_room (Nat.le_of_ble_eq_true rfl)) dX1_find_47 ⟨Nat.zero_le _, Nat.zero_le _⟩) hP hD hS hA [3, 4, 5, 6, 7] [0, 1, 2] rfl rfl (by decide) (by decide) (fun _ H locs _ hP hD hS => ?_)
            have hP : va_P G.1 vwCl [(h_t, .inr (1, [.ref h_t_sets, .ref h_t_lefts, .int t_size])), (h_t_sets, .inl (G.2.1.2.1, 256, .inl t_sets)), (h_t_lefts, .inl (G.2.1.2.2, 256, .inr (.inl t_lefts))), (h_u, .inr (4, [.ref h_u_whens, .ref h_u_thens, .ref h_u_grades, .int u_quarrel])), (h_u_whens, .inr (5, [.ref h_u_whens_kept, .int u_whens_most, .int u_whens_size])), (h_u_whens_kept, .inl (G.2.1.2.2, 9, .inr (.inl u_whens_kept))), (h_u_thens, .inr (5, [.ref h_u_thens_kept, .int u_thens_most, .int u_thens_size])), (h_u_thens_kept, .inl (G.2.1.2.2, 9, .inr (.inl u_thens_kept)))] H := hP
            have hD : va_D A [(h_t, .inr (1, [.ref h_t_sets, .ref h_t_lefts, .int t_size])), (h_t_sets, .inl (G.2.1.2.1, 256, .inl t_sets)), (h_t_lefts, .inl (G.2.1.2.2, 256, .inr (.inl t_lefts))), (h_u, .inr (4, [.ref h_u_whens, .ref h_u_thens, .ref h_u_grades, .int u_quarrel])), (h_u_whens, .inr (5, [.ref h_u_whens_kept, .int u_whens_most, .int u_whens_size])), (h_u_whens_kept, .inl (G.2.1.2.2, 9, .inr (.inl u_whens_kept))), (h_u_thens, .inr (5, [.ref h_u_thens_kept, .int u_thens_most, .int u_thens_size])), (h_u_thens_kept, .inl (G.2.1.2.2, 9, .inr (.inl u_thens_kept)))] := hD
            refine lv_if_eq (tgt := 61) hx hb dX1_find_50 (by decide) (fun c8 => ?_) (fun c8 => ?_)
            · have hf := it_t c8 hf
              obtain ⟨x9, ex9⟩ : ∃ y : Int32, y = (v4 + (1 : Int32)) := ⟨_, rfl⟩
              have hf := lt_n hf x9 ex9
              refine lv_iinc (v := x9) (lv' := [(4, .int x9), (5, .long o4), (0, .ref h_t), (1, .ref h_u), (2, .long a2)]) hx hb dX1_find_61 hl (k := 4) rfl (by rw [ex9]; rfl) (by decide) rfl (fun ls hl => ?_)
              refine lv_goto (tgt := 8) hx hb dX1_find_64 (by decide) ?_
              exact ih t_size t_sets t_lefts x9 hf _ _ hP hD hS _ (lv_sub hl [2, 3, 4, 0] rfl)
            · have hf := it_f c8 hf
              refine lv_aload_n hx hb dX1_find_53 rfl (lv_at hl 1 rfl) ?_
              refine lv_iload hx hb dX1_find_54 (lv_at hl 4 rfl) ?_
              refine lv_lload hx hb dX1_find_56 (lv_at hl 0 rfl) ?_
              obtain ⟨o10, ho10, hf⟩ := bd_e hf
              refine af_v (wr := [(h_u, .inr (4, [.ref h_u_whens, .ref h_u_thens, .ref h_u_grades, .int u_quarrel])), (h_u_whens, .inr (5, [.ref h_u_whens_kept, .int u_whens_most, .int u_whens_size])), (h_u_whens_kept, .inl (G.2.1.2.2, 9, .inr (.inl u_whens_kept))), (h_u_thens, .inr (5, [.ref h_u_thens_kept, .int u_thens_most, .int u_thens_size])), (h_u_thens_kept, .inl (G.2.1.2.2, 9, .inr (.inl u_thens_kept)))]) (va_runV (As := [.int v4, .long o4]) (rest := []) ⟨hx, hb, hml, hown, hts⟩ (c_X1_add l G h_t h_t_sets h_t_lefts H.size t_size t_sets t_lefts v4 o4 o10 ho10) (cwV 2 hts gX1_find_X1_add rfl rfl rfl (by decide +kernel) ⟨Nat.le_of_ble_eq_true rfl, Nat.le_of_ble_eq_true rfl⟩) (pcA_preV hg hc hP hD hS hA [0, 1, 2] rfl (by decide) (q0 := 0) (ci := 1) rfl rfl rfl) rfl rfl hl.1 rfl (lv_room (Nat.le_of_ble_eq_true rfl)) dX1_find_58 ⟨Nat.zero_le _, Nat.zero_le _⟩) hP hD hS hA [0, 1, 2] [3, 4, 5, 6, 7] rfl rfl (by decide) (by decide) (fun _ H locs _ hP hD hS => ?_)
              have hP : va_P G.1 vwCl [(h_t, .inr (1, [.ref h_t_sets, .ref h_t_lefts, .int o10.1])), (h_t_sets, .inl (G.2.1.2.1, 256, .inl o10.2.1)), (h_t_lefts, .inl (G.2.1.2.2, 256, .inr (.inl o10.2.2))), (h_u, .inr (4, [.ref h_u_whens, .ref h_u_thens, .ref h_u_grades, .int u_quarrel])), (h_u_whens, .inr (5, [.ref h_u_whens_kept, .int u_whens_most, .int u_whens_size])), (h_u_whens_kept, .inl (G.2.1.2.2, 9, .inr (.inl u_whens_kept))), (h_u_thens, .inr (5, [.ref h_u_thens_kept, .int u_thens_most, .int u_thens_size])), (h_u_thens_kept, .inl (G.2.1.2.2, 9, .inr (.inl u_thens_kept)))] H := hP.sub [5, 6, 7, 0, 1, 2, 3, 4] rfl
              have hD : va_D A [(h_t, .inr (1, [.ref h_t_sets, .ref h_t_lefts, .int o10.1])), (h_t_sets, .inl (G.2.1.2.1, 256, .inl o10.2.1)), (h_t_lefts, .inl (G.2.1.2.2, 256, .inr (.inl o10.2.2))), (h_u, .inr (4, [.ref h_u_whens, .ref h_u_thens, .ref h_u_grades, .int u_quarrel])), (h_u_whens, .inr (5, [.ref h_u_whens_kept, .int u_whens_most, .int u_whens_size])), (h_u_whens_kept, .inl (G.2.1.2.2, 9, .inr (.inl u_whens_kept))), (h_u_thens, .inr (5, [.ref h_u_thens_kept, .int u_thens_most, .int u_thens_size])), (h_u_thens_kept, .inl (G.2.1.2.2, 9, .inr (.inl u_thens_kept)))] := hD.sub [5, 6, 7, 0, 1, 2, 3, 4] (by decide) rfl
              obtain ⟨x11, ex11⟩ : ∃ y : Int32, y = (v4 + (1 : Int32)) := ⟨_, rfl⟩
              have hf := lt_n hf x11 ex11
              refine lv_iinc (v := x11) (lv' := [(4, .int x11), (5, .long o4), (0, .ref h_t), (1, .ref h_u), (2, .long a2)]) hx hb dX1_find_61 hl (k := 4) rfl (by rw [ex11]; rfl) (by decide) rfl (fun ls hl => ?_)
              refine lv_goto (tgt := 8) hx hb dX1_find_64 (by decide) ?_
              exact ih o10.1 o10.2.1 o10.2.2 x11 hf _ _ hP hD hS _ (lv_sub hl [2, 3, 4, 0] rfl)
  unfold f_X1_find at hf
  refine en (fun H locs hP hD hS => ?_) hP hD
  refine lv_aload_n hx hb dX1_find_0 rfl (lv_at hl 0 rfl) ?_
  refine lv_iconst (v := (0 : Int32)) hx hb dX1_find_1 (by decide) ?_
  refine va_put (D := G.1) (ci := 1) (v := .int (0 : Int32)) (ty := .int) (C := RX1) (T := TX1) (N := 3) hx hb hts hiX1 tyX1 tyX1_ok nmX1 hown hg.1 hP hD hS 0 rfl rfl 2 (by decide) (hts (.fieldLink RX1 19 "AsARule$Ends" "size" "I") (by decide +kernel)) (fun _ h9 => h9) rfl (by decide +kernel) rfl rfl (Nat.le_of_ble_eq_true rfl) dX1_find_2 (fun H locs hP hD hS => ?_)
  have hP : va_P G.1 vwCl [(h_t, .inr (1, [.ref h_t_sets, .ref h_t_lefts, .int (0 : Int32)])), (h_t_sets, .inl (G.2.1.2.1, 256, .inl t_sets)), (h_t_lefts, .inl (G.2.1.2.2, 256, .inr (.inl t_lefts))), (h_u, .inr (4, [.ref h_u_whens, .ref h_u_thens, .ref h_u_grades, .int u_quarrel])), (h_u_whens, .inr (5, [.ref h_u_whens_kept, .int u_whens_most, .int u_whens_size])), (h_u_whens_kept, .inl (G.2.1.2.2, 9, .inr (.inl u_whens_kept))), (h_u_thens, .inr (5, [.ref h_u_thens_kept, .int u_thens_most, .int u_thens_size])), (h_u_thens_kept, .inl (G.2.1.2.2, 9, .inr (.inl u_thens_kept)))] H := hP
  have hD : va_D A [(h_t, .inr (1, [.ref h_t_sets, .ref h_t_lefts, .int (0 : Int32)])), (h_t_sets, .inl (G.2.1.2.1, 256, .inl t_sets)), (h_t_lefts, .inl (G.2.1.2.2, 256, .inr (.inl t_lefts))), (h_u, .inr (4, [.ref h_u_whens, .ref h_u_thens, .ref h_u_grades, .int u_quarrel])), (h_u_whens, .inr (5, [.ref h_u_whens_kept, .int u_whens_most, .int u_whens_size])), (h_u_whens_kept, .inl (G.2.1.2.2, 9, .inr (.inl u_whens_kept))), (h_u_thens, .inr (5, [.ref h_u_thens_kept, .int u_thens_most, .int u_thens_size])), (h_u_thens_kept, .inl (G.2.1.2.2, 9, .inr (.inl u_thens_kept)))] := hD
  refine lv_iconst (v := (0 : Int32)) hx hb dX1_find_5 (by decide) ?_
  refine lv_istore (lv' := [(4, .int (0 : Int32)), (0, .ref h_t), (1, .ref h_u), (2, .long a2)]) hx hb dX1_find_6 hl (by decide) rfl (fun ls hl => ?_)
  exact hw_8 fu (0 : Int32) t_sets t_lefts (0 : Int32) hf _ _ hP hD hS _ (lv_sub hl [1, 2, 3, 0] rfl)
-- method X2_size
def f_X2_size (t_always_size : Int32) (t_rules_whens_size : Int32) (t_facts_size : Int32) (t_guesses_size : Int32) : Option (Int32) :=
  bd (f_X5_size t_always_size) (fun o1 => bd (f_X4_size t_rules_whens_size) (fun o2 => bd (f_X5_size t_facts_size) (fun o3 => bd (f_X5_size t_guesses_size) (fun o4 => some ((((o1 + o2) + o3) + o4))))))
set_option maxHeartbeats 4000000 in
set_option maxRecDepth 100000 in
theorem c_X2_size (l : Launch) (G : GG) (h_t h_t_always h_t_rules h_t_facts h_t_guesses h_t_always_kept h_t_rules_whens h_t_rules_thens h_t_rules_grades h_t_rules_whens_kept h_t_facts_kept h_t_guesses_kept : Nat) (sz : Nat) (t_there : Int64) (t_ground : Int64) (t_always_most : Int32) (t_always_size : Int32) (t_rules_quarrel : Int32) (t_rules_whens_most : Int32) (t_rules_whens_size : Int32) (t_facts_most : Int32) (t_facts_size : Int32) (t_guesses_most : Int32) (t_guesses_size : Int32)  (o : Int32) (ho : f_X2_size t_always_size t_rules_whens_size t_facts_size t_guesses_size = some o)  : Met l yX2_size wsX2_size ({ frames := 2, cells := 0, slots := 0, locals := 40 } : Room) (pcA G [.ref h_t] [(h_t, .inr (2, [.ref h_t_always, .ref h_t_rules, .ref h_t_facts, .ref h_t_guesses, .long t_there, .long t_ground])), (h_t_always, .inr (5, [.ref h_t_always_kept, .int t_always_most, .int t_always_size])), (h_t_rules, .inr (4, [.ref h_t_rules_whens, .ref h_t_rules_thens, .ref h_t_rules_grades, .int t_rules_quarrel])), (h_t_rules_whens, .inr (5, [.ref h_t_rules_whens_kept, .int t_rules_whens_most, .int t_rules_whens_size])), (h_t_facts, .inr (5, [.ref h_t_facts_kept, .int t_facts_most, .int t_facts_size])), (h_t_guesses, .inr (5, [.ref h_t_guesses_kept, .int t_guesses_most, .int t_guesses_size]))] sz) (qcI Unit G o (fun _ => True) (fun _ => [(h_t, .inr (2, [.ref h_t_always, .ref h_t_rules, .ref h_t_facts, .ref h_t_guesses, .long t_there, .long t_ground])), (h_t_always, .inr (5, [.ref h_t_always_kept, .int t_always_most, .int t_always_size])), (h_t_rules, .inr (4, [.ref h_t_rules_whens, .ref h_t_rules_thens, .ref h_t_rules_grades, .int t_rules_quarrel])), (h_t_rules_whens, .inr (5, [.ref h_t_rules_whens_kept, .int t_rules_whens_most, .int t_rules_whens_size])), (h_t_facts, .inr (5, [.ref h_t_facts_kept, .int t_facts_most, .int t_facts_size])), (h_t_guesses, .inr (5, [.ref h_t_guesses_kept, .int t_guesses_most, .int t_guesses_size]))]) (va_A [(h_t, .inr (2, [.ref h_t_always, .ref h_t_rules, .ref h_t_facts, .ref h_t_guesses, .long t_there, .long t_ground])), (h_t_always, .inr (5, [.ref h_t_always_kept, .int t_always_most, .int t_always_size])), (h_t_rules, .inr (4, [.ref h_t_rules_whens, .ref h_t_rules_thens, .ref h_t_rules_grades, .int t_rules_quarrel])), (h_t_rules_whens, .inr (5, [.ref h_t_rules_whens_kept, .int t_rules_whens_most, .int t_rules_whens_size])), (h_t_facts, .inr (5, [.ref h_t_facts_kept, .int t_facts_most, .int t_facts_size])), (h_t_guesses, .inr (5, [.ref h_t_guesses_kept, .int t_guesses_most, .int t_guesses_size]))] sz)) 0 0 (va_A [(h_t, .inr (2, [.ref h_t_always, .ref h_t_rules, .ref h_t_facts, .ref h_t_guesses, .long t_there, .long t_ground])), (h_t_always, .inr (5, [.ref h_t_always_kept, .int t_always_most, .int t_always_size])), (h_t_rules, .inr (4, [.ref h_t_rules_whens, .ref h_t_rules_thens, .ref h_t_rules_grades, .int t_rules_quarrel])), (h_t_rules_whens, .inr (5, [.ref h_t_rules_whens_kept, .int t_rules_whens_most, .int t_rules_whens_size])), (h_t_facts, .inr (5, [.ref h_t_facts_kept, .int t_facts_most, .int t_facts_size])), (h_t_guesses, .inr (5, [.ref h_t_guesses_kept, .int t_guesses_most, .int t_guesses_size]))] sz) := by
  refine Met.ofW (cc := cX2_size) (maxL := 1) (ret := (some .int)) (by decide) rfl ?_
  intro p e s m args below meth c s₁ B hml hv
  obtain ⟨rfl, hsz, hP, hg, hD0, hc⟩ := hv
  have hx := B.exec
  have hb := B.bytes
  have hr := B.returns
  have hts := atoms_spec (ws := wsX2_size) B.pre
  have hown : s.vm.findClass RX2 = some m.cls := findClass_of_methodNamed B.named
  have hlocks := B.notSynchronized
  subst hsz
  have hD := hD0.self (sz := s.heap.size)
  generalize hAe : va_A [(h_t, .inr (2, [.ref h_t_always, .ref h_t_rules, .ref h_t_facts, .ref h_t_guesses, .long t_there, .long t_ground])), (h_t_always, .inr (5, [.ref h_t_always_kept, .int t_always_most, .int t_always_size])), (h_t_rules, .inr (4, [.ref h_t_rules_whens, .ref h_t_rules_thens, .ref h_t_rules_grades, .int t_rules_quarrel])), (h_t_rules_whens, .inr (5, [.ref h_t_rules_whens_kept, .int t_rules_whens_most, .int t_rules_whens_size])), (h_t_facts, .inr (5, [.ref h_t_facts_kept, .int t_facts_most, .int t_facts_size])), (h_t_guesses, .inr (5, [.ref h_t_guesses_kept, .int t_guesses_most, .int t_guesses_size]))] s.heap.size = A at hD hc ⊢
  have hA : ∀ q : Nat, s.heap.size ≤ q → A q := fun q h => by rw [← hAe]; exact Or.inr h
  have hiX2 : ∀ w ∈ wsX20, w ∈ wsX2_size := by decide +kernel
  have hl := lv_entry ([.ref h_t]) (n := 1) (Nat.le_of_ble_eq_true rfl)
  rw [lg_entry_eq]
  generalize (lg_sl ([.ref h_t]) ++ List.replicate (1 - (lg_sl ([.ref h_t])).length) Slot.unset).toArray = ls at hl ⊢
  have hl : lv_has ls 1 [(0, .ref h_t)] := hl
  have hf := ho
  unfold f_X2_size at hf
  refine en (fun H locs hP hD hS => ?_) hP hD
  refine lv_aload_n hx hb dX2_size_0 rfl (lv_at hl 0 rfl) ?_
  refine va_get (D := G.1) (ci := 2) (v := .ref h_t_always) (C := RX2) (T := TX2) (N := 6) hx hb hts hiX2 hown hg.1 hP 0 rfl rfl 0 (by decide) (hts (.fieldLink RX2 14 "AsARule$Items" "always" "LAsARule$Sayings;") (by decide +kernel)) (fun _ h9 => h9) rfl dX2_size_1 ?_
  obtain ⟨o1, ho1, hf⟩ := bd_e hf
  refine af_i (wr := [(h_t, .inr (2, [.ref h_t_always, .ref h_t_rules, .ref h_t_facts, .ref h_t_guesses, .long t_there, .long t_ground])), (h_t_rules, .inr (4, [.ref h_t_rules_whens, .ref h_t_rules_thens, .ref h_t_rules_grades, .int t_rules_quarrel])), (h_t_rules_whens, .inr (5, [.ref h_t_rules_whens_kept, .int t_rules_whens_most, .int t_rules_whens_size])), (h_t_facts, .inr (5, [.ref h_t_facts_kept, .int t_facts_most, .int t_facts_size])), (h_t_guesses, .inr (5, [.ref h_t_guesses_kept, .int t_guesses_most, .int t_guesses_size]))]) (va_runV (As := []) (rest := []) ⟨hx, hb, hml, hown, hts⟩ (c_X5_size l G h_t_always h_t_always_kept H.size t_always_most t_always_size o1 ho1) (cwV 0 hts gX2_size_X5_size rfl rfl rfl (by decide +kernel) ⟨Nat.le_of_ble_eq_true rfl, Nat.le_of_ble_eq_true rfl⟩) (pcA_preV hg hc hP hD hS hA [1] rfl (by decide) (q0 := 1) (ci := 5) rfl rfl rfl) rfl rfl hl.1 rfl (lv_room (Nat.le_of_ble_eq_true rfl)) dX2_size_4 ⟨Nat.zero_le _, Nat.zero_le _⟩) hP hD hS hA [1] [0, 2, 3, 4, 5] rfl rfl (by decide) (by decide) (fun _ H locs _ hP hD hS => ?_)
  have hP : va_P G.1 vwCl [(h_t, .inr (2, [.ref h_t_always, .ref h_t_rules, .ref h_t_facts, .ref h_t_guesses, .long t_there, .long t_ground])), (h_t_always, .inr (5, [.ref h_t_always_kept, .int t_always_most, .int t_always_size])), (h_t_rules, .inr (4, [.ref h_t_rules_whens, .ref h_t_rules_thens, .ref h_t_rules_grades, .int t_rules_quarrel])), (h_t_rules_whens, .inr (5, [.ref h_t_rules_whens_kept, .int t_rules_whens_most, .int t_rules_whens_size])), (h_t_facts, .inr (5, [.ref h_t_facts_kept, .int t_facts_most, .int t_facts_size])), (h_t_guesses, .inr (5, [.ref h_t_guesses_kept, .int t_guesses_most, .int t_guesses_size]))] H := hP.sub [0, 5, 1, 2, 3, 4] rfl
  have hD : va_D A [(h_t, .inr (2, [.ref h_t_always, .ref h_t_rules, .ref h_t_facts, .ref h_t_guesses, .long t_there, .long t_ground])), (h_t_always, .inr (5, [.ref h_t_always_kept, .int t_always_most, .int t_always_size])), (h_t_rules, .inr (4, [.ref h_t_rules_whens, .ref h_t_rules_thens, .ref h_t_rules_grades, .int t_rules_quarrel])), (h_t_rules_whens, .inr (5, [.ref h_t_rules_whens_kept, .int t_rules_whens_most, .int t_rules_whens_size])), (h_t_facts, .inr (5, [.ref h_t_facts_kept, .int t_facts_most, .int t_facts_size])), (h_t_guesses, .inr (5, [.ref h_t_guesses_kept, .int t_guesses_most, .int t_guesses_size]))] := hD.sub [0, 5, 1, 2, 3, 4] (by decide) rfl
  refine lv_aload_n hx hb dX2_size_7 rfl (lv_at hl 0 rfl) ?_
  refine va_get (D := G.1) (ci := 2) (v := .ref h_t_rules) (C := RX2) (T := TX2) (N := 6) hx hb hts hiX2 hown hg.1 hP 0 rfl rfl 1 (by decide) (hts (.fieldLink RX2 23 "AsARule$Items" "rules" "LAsARule$Rules;") (by decide +kernel)) (fun _ h9 => h9) rfl dX2_size_8 ?_
  obtain ⟨o2, ho2, hf⟩ := bd_e hf
  refine af_i (wr := [(h_t, .inr (2, [.ref h_t_always, .ref h_t_rules, .ref h_t_facts, .ref h_t_guesses, .long t_there, .long t_ground])), (h_t_always, .inr (5, [.ref h_t_always_kept, .int t_always_most, .int t_always_size])), (h_t_facts, .inr (5, [.ref h_t_facts_kept, .int t_facts_most, .int t_facts_size])), (h_t_guesses, .inr (5, [.ref h_t_guesses_kept, .int t_guesses_most, .int t_guesses_size]))]) (va_runV (As := []) (rest := [.int o1]) ⟨hx, hb, hml, hown, hts⟩ (c_X4_size l G h_t_rules h_t_rules_whens h_t_rules_thens h_t_rules_grades h_t_rules_whens_kept H.size t_rules_quarrel t_rules_whens_most t_rules_whens_size o2 ho2) (cwV 0 hts gX2_size_X4_size rfl rfl rfl (by decide +kernel) ⟨Nat.le_of_ble_eq_true rfl, Nat.le_of_ble_eq_true rfl⟩) (pcA_preV hg hc hP hD hS hA [2, 3] rfl (by decide) (q0 := 2) (ci := 4) rfl rfl rfl) rfl rfl hl.1 rfl (lv_room (Nat.le_of_ble_eq_true rfl)) dX2_size_11 ⟨Nat.zero_le _, Nat.zero_le _⟩) hP hD hS hA [2, 3] [0, 1, 4, 5] rfl rfl (by decide) (by decide) (fun _ H locs _ hP hD hS => ?_)
  have hP : va_P G.1 vwCl [(h_t, .inr (2, [.ref h_t_always, .ref h_t_rules, .ref h_t_facts, .ref h_t_guesses, .long t_there, .long t_ground])), (h_t_always, .inr (5, [.ref h_t_always_kept, .int t_always_most, .int t_always_size])), (h_t_rules, .inr (4, [.ref h_t_rules_whens, .ref h_t_rules_thens, .ref h_t_rules_grades, .int t_rules_quarrel])), (h_t_rules_whens, .inr (5, [.ref h_t_rules_whens_kept, .int t_rules_whens_most, .int t_rules_whens_size])), (h_t_facts, .inr (5, [.ref h_t_facts_kept, .int t_facts_most, .int t_facts_size])), (h_t_guesses, .inr (5, [.ref h_t_guesses_kept, .int t_guesses_most, .int t_guesses_size]))] H := hP.sub [0, 1, 4, 5, 2, 3] rfl
  have hD : va_D A [(h_t, .inr (2, [.ref h_t_always, .ref h_t_rules, .ref h_t_facts, .ref h_t_guesses, .long t_there, .long t_ground])), (h_t_always, .inr (5, [.ref h_t_always_kept, .int t_always_most, .int t_always_size])), (h_t_rules, .inr (4, [.ref h_t_rules_whens, .ref h_t_rules_thens, .ref h_t_rules_grades, .int t_rules_quarrel])), (h_t_rules_whens, .inr (5, [.ref h_t_rules_whens_kept, .int t_rules_whens_most, .int t_rules_whens_size])), (h_t_facts, .inr (5, [.ref h_t_facts_kept, .int t_facts_most, .int t_facts_size])), (h_t_guesses, .inr (5, [.ref h_t_guesses_kept, .int t_guesses_most, .int t_guesses_size]))] := hD.sub [0, 1, 4, 5, 2, 3] (by decide) rfl
  refine lv_iadd hx hb dX2_size_14 ?_
  refine lv_aload_n hx hb dX2_size_15 rfl (lv_at hl 0 rfl) ?_
  refine va_get (D := G.1) (ci := 2) (v := .ref h_t_facts) (C := RX2) (T := TX2) (N := 6) hx hb hts hiX2 hown hg.1 hP 0 rfl rfl 2 (by decide) (hts (.fieldLink RX2 27 "AsARule$Items" "facts" "LAsARule$Sayings;") (by decide +kernel)) (fun _ h9 => h9) rfl dX2_size_16 ?_
  obtain ⟨o3, ho3, hf⟩ := bd_e hf
  refine af_i (wr := [(h_t, .inr (2, [.ref h_t_always, .ref h_t_rules, .ref h_t_facts, .ref h_t_guesses, .long t_there, .long t_ground])), (h_t_always, .inr (5, [.ref h_t_always_kept, .int t_always_most, .int t_always_size])), (h_t_rules, .inr (4, [.ref h_t_rules_whens, .ref h_t_rules_thens, .ref h_t_rules_grades, .int t_rules_quarrel])), (h_t_rules_whens, .inr (5, [.ref h_t_rules_whens_kept, .int t_rules_whens_most, .int t_rules_whens_size])), (h_t_guesses, .inr (5, [.ref h_t_guesses_kept, .int t_guesses_most, .int t_guesses_size]))]) (va_runV (As := []) (rest := [.int (o1 + o2)]) ⟨hx, hb, hml, hown, hts⟩ (c_X5_size l G h_t_facts h_t_facts_kept H.size t_facts_most t_facts_size o3 ho3) (cwV 0 hts gX2_size_X5_size rfl rfl rfl (by decide +kernel) ⟨Nat.le_of_ble_eq_true rfl, Nat.le_of_ble_eq_true rfl⟩) (pcA_preV hg hc hP hD hS hA [4] rfl (by decide) (q0 := 4) (ci := 5) rfl rfl rfl) rfl rfl hl.1 rfl (lv_room (Nat.le_of_ble_eq_true rfl)) dX2_size_19 ⟨Nat.zero_le _, Nat.zero_le _⟩) hP hD hS hA [4] [0, 1, 2, 3, 5] rfl rfl (by decide) (by decide) (fun _ H locs _ hP hD hS => ?_)
  have hP : va_P G.1 vwCl [(h_t, .inr (2, [.ref h_t_always, .ref h_t_rules, .ref h_t_facts, .ref h_t_guesses, .long t_there, .long t_ground])), (h_t_always, .inr (5, [.ref h_t_always_kept, .int t_always_most, .int t_always_size])), (h_t_rules, .inr (4, [.ref h_t_rules_whens, .ref h_t_rules_thens, .ref h_t_rules_grades, .int t_rules_quarrel])), (h_t_rules_whens, .inr (5, [.ref h_t_rules_whens_kept, .int t_rules_whens_most, .int t_rules_whens_size])), (h_t_facts, .inr (5, [.ref h_t_facts_kept, .int t_facts_most, .int t_facts_size])), (h_t_guesses, .inr (5, [.ref h_t_guesses_kept, .int t_guesses_most, .int t_guesses_size]))] H := hP.sub [0, 1, 2, 3, 5, 4] rfl
  have hD : va_D A [(h_t, .inr (2, [.ref h_t_always, .ref h_t_rules, .ref h_t_facts, .ref h_t_guesses, .long t_there, .long t_ground])), (h_t_always, .inr (5, [.ref h_t_always_kept, .int t_always_most, .int t_always_size])), (h_t_rules, .inr (4, [.ref h_t_rules_whens, .ref h_t_rules_thens, .ref h_t_rules_grades, .int t_rules_quarrel])), (h_t_rules_whens, .inr (5, [.ref h_t_rules_whens_kept, .int t_rules_whens_most, .int t_rules_whens_size])), (h_t_facts, .inr (5, [.ref h_t_facts_kept, .int t_facts_most, .int t_facts_size])), (h_t_guesses, .inr (5, [.ref h_t_guesses_kept, .int t_guesses_most, .int t_guesses_size]))] := hD.sub [0, 1, 2, 3, 5, 4] (by decide) rfl
  refine lv_iadd hx hb dX2_size_22 ?_
  refine lv_aload_n hx hb dX2_size_23 rfl (lv_at hl 0 rfl) ?_
  refine va_get (D := G.1) (ci := 2) (v := .ref h_t_guesses) (C := RX2) (T := TX2) (N := 6) hx hb hts hiX2 hown hg.1 hP 0 rfl rfl 3 (by decide) (hts (.fieldLink RX2 30 "AsARule$Items" "guesses" "LAsARule$Sayings;") (by decide +kernel)) (fun _ h9 => h9) rfl dX2_size_24 ?_
  obtain ⟨o4, ho4, hf⟩ := bd_e hf
  refine af_i (wr := [(h_t, .inr (2, [.ref h_t_always, .ref h_t_rules, .ref h_t_facts, .ref h_t_guesses, .long t_there, .long t_ground])), (h_t_always, .inr (5, [.ref h_t_always_kept, .int t_always_most, .int t_always_size])), (h_t_rules, .inr (4, [.ref h_t_rules_whens, .ref h_t_rules_thens, .ref h_t_rules_grades, .int t_rules_quarrel])), (h_t_rules_whens, .inr (5, [.ref h_t_rules_whens_kept, .int t_rules_whens_most, .int t_rules_whens_size])), (h_t_facts, .inr (5, [.ref h_t_facts_kept, .int t_facts_most, .int t_facts_size]))]) (va_runV (As := []) (rest := [.int ((o1 + o2) + o3)]) ⟨hx, hb, hml, hown, hts⟩ (c_X5_size l G h_t_guesses h_t_guesses_kept H.size t_guesses_most t_guesses_size o4 ho4) (cwV 0 hts gX2_size_X5_size rfl rfl rfl (by decide +kernel) ⟨Nat.le_of_ble_eq_true rfl, Nat.le_of_ble_eq_true rfl⟩) (pcA_preV hg hc hP hD hS hA [5] rfl (by decide) (q0 := 5) (ci := 5) rfl rfl rfl) rfl rfl hl.1 rfl (lv_room (Nat.le_of_ble_eq_true rfl)) dX2_size_27 ⟨Nat.zero_le _, Nat.zero_le _⟩) hP hD hS hA [5] [0, 1, 2, 3, 4] rfl rfl (by decide) (by decide) (fun _ H locs _ hP hD hS => ?_)
  have hP : va_P G.1 vwCl [(h_t, .inr (2, [.ref h_t_always, .ref h_t_rules, .ref h_t_facts, .ref h_t_guesses, .long t_there, .long t_ground])), (h_t_always, .inr (5, [.ref h_t_always_kept, .int t_always_most, .int t_always_size])), (h_t_rules, .inr (4, [.ref h_t_rules_whens, .ref h_t_rules_thens, .ref h_t_rules_grades, .int t_rules_quarrel])), (h_t_rules_whens, .inr (5, [.ref h_t_rules_whens_kept, .int t_rules_whens_most, .int t_rules_whens_size])), (h_t_facts, .inr (5, [.ref h_t_facts_kept, .int t_facts_most, .int t_facts_size])), (h_t_guesses, .inr (5, [.ref h_t_guesses_kept, .int t_guesses_most, .int t_guesses_size]))] H := hP
  have hD : va_D A [(h_t, .inr (2, [.ref h_t_always, .ref h_t_rules, .ref h_t_facts, .ref h_t_guesses, .long t_there, .long t_ground])), (h_t_always, .inr (5, [.ref h_t_always_kept, .int t_always_most, .int t_always_size])), (h_t_rules, .inr (4, [.ref h_t_rules_whens, .ref h_t_rules_thens, .ref h_t_rules_grades, .int t_rules_quarrel])), (h_t_rules_whens, .inr (5, [.ref h_t_rules_whens_kept, .int t_rules_whens_most, .int t_rules_whens_size])), (h_t_facts, .inr (5, [.ref h_t_facts_kept, .int t_facts_most, .int t_facts_size])), (h_t_guesses, .inr (5, [.ref h_t_guesses_kept, .int t_guesses_most, .int t_guesses_size]))] := hD
  refine lv_iadd hx hb dX2_size_30 ?_
  rw [← Option.some.inj hf]
  exact rt_i (u := ()) hx hb hr hlocks hP hD trivial hS dX2_size_31
-- method X2_empty
def f_X2_empty (t_always_size : Int32) (t_rules_whens_size : Int32) (t_rules_thens_size : Int32) (t_facts_size : Int32) (t_guesses_size : Int32) : Option (Int32 × Int32 × Int32 × Int32 × Int32) :=
  bd (f_X5_empty t_always_size) (fun o1 => bd (f_X4_empty t_rules_whens_size t_rules_thens_size) (fun o2 => bd (f_X5_empty t_facts_size) (fun o3 => bd (f_X5_empty t_guesses_size) (fun o4 => some (o1, o2.1, o2.2, o3, o4)))))
set_option maxHeartbeats 4000000 in
set_option maxRecDepth 100000 in
theorem c_X2_empty (l : Launch) (G : GG) (h_t h_t_always h_t_rules h_t_facts h_t_guesses h_t_always_kept h_t_rules_whens h_t_rules_thens h_t_rules_grades h_t_rules_whens_kept h_t_rules_thens_kept h_t_facts_kept h_t_guesses_kept : Nat) (sz : Nat) (t_there : Int64) (t_ground : Int64) (t_always_most : Int32) (t_always_size : Int32) (t_rules_quarrel : Int32) (t_rules_whens_most : Int32) (t_rules_whens_size : Int32) (t_rules_thens_most : Int32) (t_rules_thens_size : Int32) (t_facts_most : Int32) (t_facts_size : Int32) (t_guesses_most : Int32) (t_guesses_size : Int32)  (o : Int32 × Int32 × Int32 × Int32 × Int32) (ho : f_X2_empty t_always_size t_rules_whens_size t_rules_thens_size t_facts_size t_guesses_size = some o)  : Met l yX2_empty wsX2_empty ({ frames := 2, cells := 0, slots := 0, locals := 40 } : Room) (pcA G [.ref h_t] [(h_t, .inr (2, [.ref h_t_always, .ref h_t_rules, .ref h_t_facts, .ref h_t_guesses, .long t_there, .long t_ground])), (h_t_always, .inr (5, [.ref h_t_always_kept, .int t_always_most, .int t_always_size])), (h_t_rules, .inr (4, [.ref h_t_rules_whens, .ref h_t_rules_thens, .ref h_t_rules_grades, .int t_rules_quarrel])), (h_t_rules_whens, .inr (5, [.ref h_t_rules_whens_kept, .int t_rules_whens_most, .int t_rules_whens_size])), (h_t_rules_thens, .inr (5, [.ref h_t_rules_thens_kept, .int t_rules_thens_most, .int t_rules_thens_size])), (h_t_facts, .inr (5, [.ref h_t_facts_kept, .int t_facts_most, .int t_facts_size])), (h_t_guesses, .inr (5, [.ref h_t_guesses_kept, .int t_guesses_most, .int t_guesses_size]))] sz) (qcV Unit G (fun _ => True) (fun _ => [(h_t, .inr (2, [.ref h_t_always, .ref h_t_rules, .ref h_t_facts, .ref h_t_guesses, .long t_there, .long t_ground])), (h_t_always, .inr (5, [.ref h_t_always_kept, .int t_always_most, .int o.1])), (h_t_rules, .inr (4, [.ref h_t_rules_whens, .ref h_t_rules_thens, .ref h_t_rules_grades, .int t_rules_quarrel])), (h_t_rules_whens, .inr (5, [.ref h_t_rules_whens_kept, .int t_rules_whens_most, .int o.2.1])), (h_t_rules_thens, .inr (5, [.ref h_t_rules_thens_kept, .int t_rules_thens_most, .int o.2.2.1])), (h_t_facts, .inr (5, [.ref h_t_facts_kept, .int t_facts_most, .int o.2.2.2.1])), (h_t_guesses, .inr (5, [.ref h_t_guesses_kept, .int t_guesses_most, .int o.2.2.2.2]))]) (va_A [(h_t, .inr (2, [.ref h_t_always, .ref h_t_rules, .ref h_t_facts, .ref h_t_guesses, .long t_there, .long t_ground])), (h_t_always, .inr (5, [.ref h_t_always_kept, .int t_always_most, .int t_always_size])), (h_t_rules, .inr (4, [.ref h_t_rules_whens, .ref h_t_rules_thens, .ref h_t_rules_grades, .int t_rules_quarrel])), (h_t_rules_whens, .inr (5, [.ref h_t_rules_whens_kept, .int t_rules_whens_most, .int t_rules_whens_size])), (h_t_rules_thens, .inr (5, [.ref h_t_rules_thens_kept, .int t_rules_thens_most, .int t_rules_thens_size])), (h_t_facts, .inr (5, [.ref h_t_facts_kept, .int t_facts_most, .int t_facts_size])), (h_t_guesses, .inr (5, [.ref h_t_guesses_kept, .int t_guesses_most, .int t_guesses_size]))] sz)) 0 0 (va_A [(h_t, .inr (2, [.ref h_t_always, .ref h_t_rules, .ref h_t_facts, .ref h_t_guesses, .long t_there, .long t_ground])), (h_t_always, .inr (5, [.ref h_t_always_kept, .int t_always_most, .int t_always_size])), (h_t_rules, .inr (4, [.ref h_t_rules_whens, .ref h_t_rules_thens, .ref h_t_rules_grades, .int t_rules_quarrel])), (h_t_rules_whens, .inr (5, [.ref h_t_rules_whens_kept, .int t_rules_whens_most, .int t_rules_whens_size])), (h_t_rules_thens, .inr (5, [.ref h_t_rules_thens_kept, .int t_rules_thens_most, .int t_rules_thens_size])), (h_t_facts, .inr (5, [.ref h_t_facts_kept, .int t_facts_most, .int t_facts_size])), (h_t_guesses, .inr (5, [.ref h_t_guesses_kept, .int t_guesses_most, .int t_guesses_size]))] sz) := by
  refine Met.ofW (cc := cX2_empty) (maxL := 1) (ret := none) (by decide) rfl ?_
  intro p e s m args below meth c s₁ B hml hv
  obtain ⟨rfl, hsz, hP, hg, hD0, hc⟩ := hv
  have hx := B.exec
  have hb := B.bytes
  have hr := B.returns
  have hts := atoms_spec (ws := wsX2_empty) B.pre
  have hown : s.vm.findClass RX2 = some m.cls := findClass_of_methodNamed B.named
  have hlocks := B.notSynchronized
  subst hsz
  have hD := hD0.self (sz := s.heap.size)
  generalize hAe : va_A [(h_t, .inr (2, [.ref h_t_always, .ref h_t_rules, .ref h_t_facts, .ref h_t_guesses, .long t_there, .long t_ground])), (h_t_always, .inr (5, [.ref h_t_always_kept, .int t_always_most, .int t_always_size])), (h_t_rules, .inr (4, [.ref h_t_rules_whens, .ref h_t_rules_thens, .ref h_t_rules_grades, .int t_rules_quarrel])), (h_t_rules_whens, .inr (5, [.ref h_t_rules_whens_kept, .int t_rules_whens_most, .int t_rules_whens_size])), (h_t_rules_thens, .inr (5, [.ref h_t_rules_thens_kept, .int t_rules_thens_most, .int t_rules_thens_size])), (h_t_facts, .inr (5, [.ref h_t_facts_kept, .int t_facts_most, .int t_facts_size])), (h_t_guesses, .inr (5, [.ref h_t_guesses_kept, .int t_guesses_most, .int t_guesses_size]))] s.heap.size = A at hD hc ⊢
  have hA : ∀ q : Nat, s.heap.size ≤ q → A q := fun q h => by rw [← hAe]; exact Or.inr h
  have hiX2 : ∀ w ∈ wsX20, w ∈ wsX2_empty := by decide +kernel
  have hl := lv_entry ([.ref h_t]) (n := 1) (Nat.le_of_ble_eq_true rfl)
  rw [lg_entry_eq]
  generalize (lg_sl ([.ref h_t]) ++ List.replicate (1 - (lg_sl ([.ref h_t])).length) Slot.unset).toArray = ls at hl ⊢
  have hl : lv_has ls 1 [(0, .ref h_t)] := hl
  have hf := ho
  unfold f_X2_empty at hf
  refine en (fun H locs hP hD hS => ?_) hP hD
  refine lv_aload_n hx hb dX2_empty_0 rfl (lv_at hl 0 rfl) ?_
  refine va_get (D := G.1) (ci := 2) (v := .ref h_t_always) (C := RX2) (T := TX2) (N := 6) hx hb hts hiX2 hown hg.1 hP 0 rfl rfl 0 (by decide) (hts (.fieldLink RX2 14 "AsARule$Items" "always" "LAsARule$Sayings;") (by decide +kernel)) (fun _ h9 => h9) rfl dX2_empty_1 ?_
  obtain ⟨o1, ho1, hf⟩ := bd_e hf
  refine af_v (wr := [(h_t, .inr (2, [.ref h_t_always, .ref h_t_rules, .ref h_t_facts, .ref h_t_guesses, .long t_there, .long t_ground])), (h_t_rules, .inr (4, [.ref h_t_rules_whens, .ref h_t_rules_thens, .ref h_t_rules_grades, .int t_rules_quarrel])), (h_t_rules_whens, .inr (5, [.ref h_t_rules_whens_kept, .int t_rules_whens_most, .int t_rules_whens_size])), (h_t_rules_thens, .inr (5, [.ref h_t_rules_thens_kept, .int t_rules_thens_most, .int t_rules_thens_size])), (h_t_facts, .inr (5, [.ref h_t_facts_kept, .int t_facts_most, .int t_facts_size])), (h_t_guesses, .inr (5, [.ref h_t_guesses_kept, .int t_guesses_most, .int t_guesses_size]))]) (va_runV (As := []) (rest := []) ⟨hx, hb, hml, hown, hts⟩ (c_X5_empty l G h_t_always h_t_always_kept H.size t_always_most t_always_size o1 ho1) (cwV 0 hts gX2_empty_X5_empty rfl rfl rfl (by decide +kernel) ⟨Nat.le_of_ble_eq_true rfl, Nat.le_of_ble_eq_true rfl⟩) (pcA_preV hg hc hP hD hS hA [1] rfl (by decide) (q0 := 1) (ci := 5) rfl rfl rfl) rfl rfl hl.1 rfl (lv_room (Nat.le_of_ble_eq_true rfl)) dX2_empty_4 ⟨Nat.zero_le _, Nat.zero_le _⟩) hP hD hS hA [1] [0, 2, 3, 4, 5, 6] rfl rfl (by decide) (by decide) (fun _ H locs _ hP hD hS => ?_)
  have hP : va_P G.1 vwCl [(h_t, .inr (2, [.ref h_t_always, .ref h_t_rules, .ref h_t_facts, .ref h_t_guesses, .long t_there, .long t_ground])), (h_t_always, .inr (5, [.ref h_t_always_kept, .int t_always_most, .int o1])), (h_t_rules, .inr (4, [.ref h_t_rules_whens, .ref h_t_rules_thens, .ref h_t_rules_grades, .int t_rules_quarrel])), (h_t_rules_whens, .inr (5, [.ref h_t_rules_whens_kept, .int t_rules_whens_most, .int t_rules_whens_size])), (h_t_rules_thens, .inr (5, [.ref h_t_rules_thens_kept, .int t_rules_thens_most, .int t_rules_thens_size])), (h_t_facts, .inr (5, [.ref h_t_facts_kept, .int t_facts_most, .int t_facts_size])), (h_t_guesses, .inr (5, [.ref h_t_guesses_kept, .int t_guesses_most, .int t_guesses_size]))] H := hP.sub [0, 6, 1, 2, 3, 4, 5] rfl
  have hD : va_D A [(h_t, .inr (2, [.ref h_t_always, .ref h_t_rules, .ref h_t_facts, .ref h_t_guesses, .long t_there, .long t_ground])), (h_t_always, .inr (5, [.ref h_t_always_kept, .int t_always_most, .int o1])), (h_t_rules, .inr (4, [.ref h_t_rules_whens, .ref h_t_rules_thens, .ref h_t_rules_grades, .int t_rules_quarrel])), (h_t_rules_whens, .inr (5, [.ref h_t_rules_whens_kept, .int t_rules_whens_most, .int t_rules_whens_size])), (h_t_rules_thens, .inr (5, [.ref h_t_rules_thens_kept, .int t_rules_thens_most, .int t_rules_thens_size])), (h_t_facts, .inr (5, [.ref h_t_facts_kept, .int t_facts_most, .int t_facts_size])), (h_t_guesses, .inr (5, [.ref h_t_guesses_kept, .int t_guesses_most, .int t_guesses_size]))] := hD.sub [0, 6, 1, 2, 3, 4, 5] (by decide) rfl
  refine lv_aload_n hx hb dX2_empty_7 rfl (lv_at hl 0 rfl) ?_
  refine va_get (D := G.1) (ci := 2) (v := .ref h_t_rules) (C := RX2) (T := TX2) (N := 6) hx hb hts hiX2 hown hg.1 hP 0 rfl rfl 1 (by decide) (hts (.fieldLink RX2 23 "AsARule$Items" "rules" "LAsARule$Rules;") (by decide +kernel)) (fun _ h9 => h9) rfl dX2_empty_8 ?_
  obtain ⟨o2, ho2, hf⟩ := bd_e hf
  refine af_v (wr := [(h_t, .inr (2, [.ref h_t_always, .ref h_t_rules, .ref h_t_facts, .ref h_t_guesses, .long t_there, .long t_ground])), (h_t_always, .inr (5, [.ref h_t_always_kept, .int t_always_most, .int o1])), (h_t_facts, .inr (5, [.ref h_t_facts_kept, .int t_facts_most, .int t_facts_size])), (h_t_guesses, .inr (5, [.ref h_t_guesses_kept, .int t_guesses_most, .int t_guesses_size]))]) (va_runV (As := []) (rest := []) ⟨hx, hb, hml, hown, hts⟩ (c_X4_empty l G h_t_rules h_t_rules_whens h_t_rules_thens h_t_rules_grades h_t_rules_whens_kept h_t_rules_thens_kept H.size t_rules_quarrel t_rules_whens_most t_rules_whens_size t_rules_thens_most t_rules_thens_size o2 ho2) (cwV 0 hts gX2_empty_X4_empty rfl rfl rfl (by decide +kernel) ⟨Nat.le_of_ble_eq_true rfl, Nat.le_of_ble_eq_true rfl⟩) (pcA_preV hg hc hP hD hS hA [2, 3, 4] rfl (by decide) (q0 := 2) (ci := 4) rfl rfl rfl) rfl rfl hl.1 rfl (lv_room (Nat.le_of_ble_eq_true rfl)) dX2_empty_11 ⟨Nat.zero_le _, Nat.zero_le _⟩) hP hD hS hA [2, 3, 4] [0, 1, 5, 6] rfl rfl (by decide) (by decide) (fun _ H locs _ hP hD hS => ?_)
  have hP : va_P G.1 vwCl [(h_t, .inr (2, [.ref h_t_always, .ref h_t_rules, .ref h_t_facts, .ref h_t_guesses, .long t_there, .long t_ground])), (h_t_always, .inr (5, [.ref h_t_always_kept, .int t_always_most, .int o1])), (h_t_rules, .inr (4, [.ref h_t_rules_whens, .ref h_t_rules_thens, .ref h_t_rules_grades, .int t_rules_quarrel])), (h_t_rules_whens, .inr (5, [.ref h_t_rules_whens_kept, .int t_rules_whens_most, .int o2.1])), (h_t_rules_thens, .inr (5, [.ref h_t_rules_thens_kept, .int t_rules_thens_most, .int o2.2])), (h_t_facts, .inr (5, [.ref h_t_facts_kept, .int t_facts_most, .int t_facts_size])), (h_t_guesses, .inr (5, [.ref h_t_guesses_kept, .int t_guesses_most, .int t_guesses_size]))] H := hP.sub [0, 1, 4, 5, 6, 2, 3] rfl
  have hD : va_D A [(h_t, .inr (2, [.ref h_t_always, .ref h_t_rules, .ref h_t_facts, .ref h_t_guesses, .long t_there, .long t_ground])), (h_t_always, .inr (5, [.ref h_t_always_kept, .int t_always_most, .int o1])), (h_t_rules, .inr (4, [.ref h_t_rules_whens, .ref h_t_rules_thens, .ref h_t_rules_grades, .int t_rules_quarrel])), (h_t_rules_whens, .inr (5, [.ref h_t_rules_whens_kept, .int t_rules_whens_most, .int o2.1])), (h_t_rules_thens, .inr (5, [.ref h_t_rules_thens_kept, .int t_rules_thens_most, .int o2.2])), (h_t_facts, .inr (5, [.ref h_t_facts_kept, .int t_facts_most, .int t_facts_size])), (h_t_guesses, .inr (5, [.ref h_t_guesses_kept, .int t_guesses_most, .int t_guesses_size]))] := hD.sub [0, 1, 4, 5, 6, 2, 3] (by decide) rfl
  refine lv_aload_n hx hb dX2_empty_14 rfl (lv_at hl 0 rfl) ?_
  refine va_get (D := G.1) (ci := 2) (v := .ref h_t_facts) (C := RX2) (T := TX2) (N := 6) hx hb hts hiX2 hown hg.1 hP 0 rfl rfl 2 (by decide) (hts (.fieldLink RX2 27 "AsARule$Items" "facts" "LAsARule$Sayings;") (by decide +kernel)) (fun _ h9 => h9) rfl dX2_empty_15 ?_
  obtain ⟨o3, ho3, hf⟩ := bd_e hf
  refine af_v (wr := [(h_t, .inr (2, [.ref h_t_always, .ref h_t_rules, .ref h_t_facts, .ref h_t_guesses, .long t_there, .long t_ground])), (h_t_always, .inr (5, [.ref h_t_always_kept, .int t_always_most, .int o1])), (h_t_rules, .inr (4, [.ref h_t_rules_whens, .ref h_t_rules_thens, .ref h_t_rules_grades, .int t_rules_quarrel])), (h_t_rules_whens, .inr (5, [.ref h_t_rules_whens_kept, .int t_rules_whens_most, .int o2.1])), (h_t_rules_thens, .inr (5, [.ref h_t_rules_thens_kept, .int t_rules_thens_most, .int o2.2])), (h_t_guesses, .inr (5, [.ref h_t_guesses_kept, .int t_guesses_most, .int t_guesses_size]))]) (va_runV (As := []) (rest := []) ⟨hx, hb, hml, hown, hts⟩ (c_X5_empty l G h_t_facts h_t_facts_kept H.size t_facts_most t_facts_size o3 ho3) (cwV 0 hts gX2_empty_X5_empty rfl rfl rfl (by decide +kernel) ⟨Nat.le_of_ble_eq_true rfl, Nat.le_of_ble_eq_true rfl⟩) (pcA_preV hg hc hP hD hS hA [5] rfl (by decide) (q0 := 5) (ci := 5) rfl rfl rfl) rfl rfl hl.1 rfl (lv_room (Nat.le_of_ble_eq_true rfl)) dX2_empty_18 ⟨Nat.zero_le _, Nat.zero_le _⟩) hP hD hS hA [5] [0, 1, 2, 3, 4, 6] rfl rfl (by decide) (by decide) (fun _ H locs _ hP hD hS => ?_)
  have hP : va_P G.1 vwCl [(h_t, .inr (2, [.ref h_t_always, .ref h_t_rules, .ref h_t_facts, .ref h_t_guesses, .long t_there, .long t_ground])), (h_t_always, .inr (5, [.ref h_t_always_kept, .int t_always_most, .int o1])), (h_t_rules, .inr (4, [.ref h_t_rules_whens, .ref h_t_rules_thens, .ref h_t_rules_grades, .int t_rules_quarrel])), (h_t_rules_whens, .inr (5, [.ref h_t_rules_whens_kept, .int t_rules_whens_most, .int o2.1])), (h_t_rules_thens, .inr (5, [.ref h_t_rules_thens_kept, .int t_rules_thens_most, .int o2.2])), (h_t_facts, .inr (5, [.ref h_t_facts_kept, .int t_facts_most, .int o3])), (h_t_guesses, .inr (5, [.ref h_t_guesses_kept, .int t_guesses_most, .int t_guesses_size]))] H := hP.sub [0, 1, 2, 3, 4, 6, 5] rfl
  have hD : va_D A [(h_t, .inr (2, [.ref h_t_always, .ref h_t_rules, .ref h_t_facts, .ref h_t_guesses, .long t_there, .long t_ground])), (h_t_always, .inr (5, [.ref h_t_always_kept, .int t_always_most, .int o1])), (h_t_rules, .inr (4, [.ref h_t_rules_whens, .ref h_t_rules_thens, .ref h_t_rules_grades, .int t_rules_quarrel])), (h_t_rules_whens, .inr (5, [.ref h_t_rules_whens_kept, .int t_rules_whens_most, .int o2.1])), (h_t_rules_thens, .inr (5, [.ref h_t_rules_thens_kept, .int t_rules_thens_most, .int o2.2])), (h_t_facts, .inr (5, [.ref h_t_facts_kept, .int t_facts_most, .int o3])), (h_t_guesses, .inr (5, [.ref h_t_guesses_kept, .int t_guesses_most, .int t_guesses_size]))] := hD.sub [0, 1, 2, 3, 4, 6, 5] (by decide) rfl
  refine lv_aload_n hx hb dX2_empty_21 rfl (lv_at hl 0 rfl) ?_
  refine va_get (D := G.1) (ci := 2) (v := .ref h_t_guesses) (C := RX2) (T := TX2) (N := 6) hx hb hts hiX2 hown hg.1 hP 0 rfl rfl 3 (by decide) (hts (.fieldLink RX2 30 "AsARule$Items" "guesses" "LAsARule$Sayings;") (by decide +kernel)) (fun _ h9 => h9) rfl dX2_empty_22 ?_
  obtain ⟨o4, ho4, hf⟩ := bd_e hf
  refine af_v (wr := [(h_t, .inr (2, [.ref h_t_always, .ref h_t_rules, .ref h_t_facts, .ref h_t_guesses, .long t_there, .long t_ground])), (h_t_always, .inr (5, [.ref h_t_always_kept, .int t_always_most, .int o1])), (h_t_rules, .inr (4, [.ref h_t_rules_whens, .ref h_t_rules_thens, .ref h_t_rules_grades, .int t_rules_quarrel])), (h_t_rules_whens, .inr (5, [.ref h_t_rules_whens_kept, .int t_rules_whens_most, .int o2.1])), (h_t_rules_thens, .inr (5, [.ref h_t_rules_thens_kept, .int t_rules_thens_most, .int o2.2])), (h_t_facts, .inr (5, [.ref h_t_facts_kept, .int t_facts_most, .int o3]))]) (va_runV (As := []) (rest := []) ⟨hx, hb, hml, hown, hts⟩ (c_X5_empty l G h_t_guesses h_t_guesses_kept H.size t_guesses_most t_guesses_size o4 ho4) (cwV 0 hts gX2_empty_X5_empty rfl rfl rfl (by decide +kernel) ⟨Nat.le_of_ble_eq_true rfl, Nat.le_of_ble_eq_true rfl⟩) (pcA_preV hg hc hP hD hS hA [6] rfl (by decide) (q0 := 6) (ci := 5) rfl rfl rfl) rfl rfl hl.1 rfl (lv_room (Nat.le_of_ble_eq_true rfl)) dX2_empty_25 ⟨Nat.zero_le _, Nat.zero_le _⟩) hP hD hS hA [6] [0, 1, 2, 3, 4, 5] rfl rfl (by decide) (by decide) (fun _ H locs _ hP hD hS => ?_)
  have hP : va_P G.1 vwCl [(h_t, .inr (2, [.ref h_t_always, .ref h_t_rules, .ref h_t_facts, .ref h_t_guesses, .long t_there, .long t_ground])), (h_t_always, .inr (5, [.ref h_t_always_kept, .int t_always_most, .int o1])), (h_t_rules, .inr (4, [.ref h_t_rules_whens, .ref h_t_rules_thens, .ref h_t_rules_grades, .int t_rules_quarrel])), (h_t_rules_whens, .inr (5, [.ref h_t_rules_whens_kept, .int t_rules_whens_most, .int o2.1])), (h_t_rules_thens, .inr (5, [.ref h_t_rules_thens_kept, .int t_rules_thens_most, .int o2.2])), (h_t_facts, .inr (5, [.ref h_t_facts_kept, .int t_facts_most, .int o3])), (h_t_guesses, .inr (5, [.ref h_t_guesses_kept, .int t_guesses_most, .int o4]))] H := hP
  have hD : va_D A [(h_t, .inr (2, [.ref h_t_always, .ref h_t_rules, .ref h_t_facts, .ref h_t_guesses, .long t_there, .long t_ground])), (h_t_always, .inr (5, [.ref h_t_always_kept, .int t_always_most, .int o1])), (h_t_rules, .inr (4, [.ref h_t_rules_whens, .ref h_t_rules_thens, .ref h_t_rules_grades, .int t_rules_quarrel])), (h_t_rules_whens, .inr (5, [.ref h_t_rules_whens_kept, .int t_rules_whens_most, .int o2.1])), (h_t_rules_thens, .inr (5, [.ref h_t_rules_thens_kept, .int t_rules_thens_most, .int o2.2])), (h_t_facts, .inr (5, [.ref h_t_facts_kept, .int t_facts_most, .int o3])), (h_t_guesses, .inr (5, [.ref h_t_guesses_kept, .int t_guesses_most, .int o4]))] := hD
  rw [← Option.some.inj hf]
  exact rt_v (u := ()) hx hb hr hlocks hP hD trivial hS dX2_empty_28
-- method X2_settle
def f_X2_settle (t_there : Int64) (t_ground : Int64) (t_always_size : Int32) (t_always_kept : Nat → Int64) (t_rules_quarrel : Int32) (t_rules_whens_size : Int32) (t_rules_whens_kept : Nat → Int64) (t_rules_thens_size : Int32) (t_rules_thens_kept : Nat → Int64) (t_rules_grades : Nat → Int32) (t_facts_size : Int32) (t_facts_kept : Nat → Int64) : Option (Int64 × Int64 × Int32 × (Nat → Int32)) :=
  bd (f_X5_meet t_always_size t_always_kept) (fun o1 => bd (f_X5_meet t_facts_size t_facts_kept) (fun o2 => lt (o1 &&& o2) (fun x3 => bd (f_X4_sort t_rules_quarrel t_rules_whens_size t_rules_whens_kept t_rules_thens_size t_rules_thens_kept t_rules_grades o1) (fun o4 => some (o1, x3, o4.1, o4.2)))))
set_option maxHeartbeats 4000000 in
set_option maxRecDepth 100000 in
theorem c_X2_settle (l : Launch) (G : GG) (h_t h_t_always h_t_rules h_t_facts h_t_guesses h_t_always_kept h_t_rules_whens h_t_rules_thens h_t_rules_grades h_t_rules_whens_kept h_t_rules_thens_kept h_t_facts_kept : Nat) (sz : Nat) (t_there : Int64) (t_ground : Int64) (t_always_most : Int32) (t_always_size : Int32) (t_always_kept : Nat → Int64) (t_rules_quarrel : Int32) (t_rules_whens_most : Int32) (t_rules_whens_size : Int32) (t_rules_whens_kept : Nat → Int64) (t_rules_thens_most : Int32) (t_rules_thens_size : Int32) (t_rules_thens_kept : Nat → Int64) (t_rules_grades : Nat → Int32) (t_facts_most : Int32) (t_facts_size : Int32) (t_facts_kept : Nat → Int64)  (o : Int64 × Int64 × Int32 × (Nat → Int32)) (ho : f_X2_settle t_there t_ground t_always_size t_always_kept t_rules_quarrel t_rules_whens_size t_rules_whens_kept t_rules_thens_size t_rules_thens_kept t_rules_grades t_facts_size t_facts_kept = some o)  : Met l yX2_settle wsX2_settle ({ frames := 4, cells := 0, slots := 0, locals := 94 } : Room) (pcA G [.ref h_t] [(h_t, .inr (2, [.ref h_t_always, .ref h_t_rules, .ref h_t_facts, .ref h_t_guesses, .long t_there, .long t_ground])), (h_t_always, .inr (5, [.ref h_t_always_kept, .int t_always_most, .int t_always_size])), (h_t_always_kept, .inl (G.2.1.2.2, 9, .inr (.inl t_always_kept))), (h_t_rules, .inr (4, [.ref h_t_rules_whens, .ref h_t_rules_thens, .ref h_t_rules_grades, .int t_rules_quarrel])), (h_t_rules_whens, .inr (5, [.ref h_t_rules_whens_kept, .int t_rules_whens_most, .int t_rules_whens_size])), (h_t_rules_whens_kept, .inl (G.2.1.2.2, 9, .inr (.inl t_rules_whens_kept))), (h_t_rules_thens, .inr (5, [.ref h_t_rules_thens_kept, .int t_rules_thens_most, .int t_rules_thens_size])), (h_t_rules_thens_kept, .inl (G.2.1.2.2, 9, .inr (.inl t_rules_thens_kept))), (h_t_rules_grades, .inl (G.2.1.2.1, 9, .inl t_rules_grades)), (h_t_facts, .inr (5, [.ref h_t_facts_kept, .int t_facts_most, .int t_facts_size])), (h_t_facts_kept, .inl (G.2.1.2.2, 9, .inr (.inl t_facts_kept)))] sz) (qcV Unit G (fun _ => True) (fun _ => [(h_t, .inr (2, [.ref h_t_always, .ref h_t_rules, .ref h_t_facts, .ref h_t_guesses, .long o.1, .long o.2.1])), (h_t_always, .inr (5, [.ref h_t_always_kept, .int t_always_most, .int t_always_size])), (h_t_always_kept, .inl (G.2.1.2.2, 9, .inr (.inl t_always_kept))), (h_t_rules, .inr (4, [.ref h_t_rules_whens, .ref h_t_rules_thens, .ref h_t_rules_grades, .int o.2.2.1])), (h_t_rules_whens, .inr (5, [.ref h_t_rules_whens_kept, .int t_rules_whens_most, .int t_rules_whens_size])), (h_t_rules_whens_kept, .inl (G.2.1.2.2, 9, .inr (.inl t_rules_whens_kept))), (h_t_rules_thens, .inr (5, [.ref h_t_rules_thens_kept, .int t_rules_thens_most, .int t_rules_thens_size])), (h_t_rules_thens_kept, .inl (G.2.1.2.2, 9, .inr (.inl t_rules_thens_kept))), (h_t_rules_grades, .inl (G.2.1.2.1, 9, .inl o.2.2.2)), (h_t_facts, .inr (5, [.ref h_t_facts_kept, .int t_facts_most, .int t_facts_size])), (h_t_facts_kept, .inl (G.2.1.2.2, 9, .inr (.inl t_facts_kept)))]) (va_A [(h_t, .inr (2, [.ref h_t_always, .ref h_t_rules, .ref h_t_facts, .ref h_t_guesses, .long t_there, .long t_ground])), (h_t_always, .inr (5, [.ref h_t_always_kept, .int t_always_most, .int t_always_size])), (h_t_always_kept, .inl (G.2.1.2.2, 9, .inr (.inl t_always_kept))), (h_t_rules, .inr (4, [.ref h_t_rules_whens, .ref h_t_rules_thens, .ref h_t_rules_grades, .int t_rules_quarrel])), (h_t_rules_whens, .inr (5, [.ref h_t_rules_whens_kept, .int t_rules_whens_most, .int t_rules_whens_size])), (h_t_rules_whens_kept, .inl (G.2.1.2.2, 9, .inr (.inl t_rules_whens_kept))), (h_t_rules_thens, .inr (5, [.ref h_t_rules_thens_kept, .int t_rules_thens_most, .int t_rules_thens_size])), (h_t_rules_thens_kept, .inl (G.2.1.2.2, 9, .inr (.inl t_rules_thens_kept))), (h_t_rules_grades, .inl (G.2.1.2.1, 9, .inl t_rules_grades)), (h_t_facts, .inr (5, [.ref h_t_facts_kept, .int t_facts_most, .int t_facts_size])), (h_t_facts_kept, .inl (G.2.1.2.2, 9, .inr (.inl t_facts_kept)))] sz)) 0 0 (va_A [(h_t, .inr (2, [.ref h_t_always, .ref h_t_rules, .ref h_t_facts, .ref h_t_guesses, .long t_there, .long t_ground])), (h_t_always, .inr (5, [.ref h_t_always_kept, .int t_always_most, .int t_always_size])), (h_t_always_kept, .inl (G.2.1.2.2, 9, .inr (.inl t_always_kept))), (h_t_rules, .inr (4, [.ref h_t_rules_whens, .ref h_t_rules_thens, .ref h_t_rules_grades, .int t_rules_quarrel])), (h_t_rules_whens, .inr (5, [.ref h_t_rules_whens_kept, .int t_rules_whens_most, .int t_rules_whens_size])), (h_t_rules_whens_kept, .inl (G.2.1.2.2, 9, .inr (.inl t_rules_whens_kept))), (h_t_rules_thens, .inr (5, [.ref h_t_rules_thens_kept, .int t_rules_thens_most, .int t_rules_thens_size])), (h_t_rules_thens_kept, .inl (G.2.1.2.2, 9, .inr (.inl t_rules_thens_kept))), (h_t_rules_grades, .inl (G.2.1.2.1, 9, .inl t_rules_grades)), (h_t_facts, .inr (5, [.ref h_t_facts_kept, .int t_facts_most, .int t_facts_size])), (h_t_facts_kept, .inl (G.2.1.2.2, 9, .inr (.inl t_facts_kept)))] sz) := by
  refine Met.ofW (cc := cX2_settle) (maxL := 1) (ret := none) (by decide) rfl ?_
  intro p e s m args below meth c s₁ B hml hv
  obtain ⟨rfl, hsz, hP, hg, hD0, hc⟩ := hv
  have hx := B.exec
  have hb := B.bytes
  have hr := B.returns
  have hts := atoms_spec (ws := wsX2_settle) B.pre
  have hown : s.vm.findClass RX2 = some m.cls := findClass_of_methodNamed B.named
  have hlocks := B.notSynchronized
  subst hsz
  have hD := hD0.self (sz := s.heap.size)
  generalize hAe : va_A [(h_t, .inr (2, [.ref h_t_always, .ref h_t_rules, .ref h_t_facts, .ref h_t_guesses, .long t_there, .long t_ground])), (h_t_always, .inr (5, [.ref h_t_always_kept, .int t_always_most, .int t_always_size])), (h_t_always_kept, .inl (G.2.1.2.2, 9, .inr (.inl t_always_kept))), (h_t_rules, .inr (4, [.ref h_t_rules_whens, .ref h_t_rules_thens, .ref h_t_rules_grades, .int t_rules_quarrel])), (h_t_rules_whens, .inr (5, [.ref h_t_rules_whens_kept, .int t_rules_whens_most, .int t_rules_whens_size])), (h_t_rules_whens_kept, .inl (G.2.1.2.2, 9, .inr (.inl t_rules_whens_kept))), (h_t_rules_thens, .inr (5, [.ref h_t_rules_thens_kept, .int t_rules_thens_most, .int t_rules_thens_size])), (h_t_rules_thens_kept, .inl (G.2.1.2.2, 9, .inr (.inl t_rules_thens_kept))), (h_t_rules_grades, .inl (G.2.1.2.1, 9, .inl t_rules_grades)), (h_t_facts, .inr (5, [.ref h_t_facts_kept, .int t_facts_most, .int t_facts_size])), (h_t_facts_kept, .inl (G.2.1.2.2, 9, .inr (.inl t_facts_kept)))] s.heap.size = A at hD hc ⊢
  have hA : ∀ q : Nat, s.heap.size ≤ q → A q := fun q h => by rw [← hAe]; exact Or.inr h
  have hiX2 : ∀ w ∈ wsX20, w ∈ wsX2_settle := by decide +kernel
  have hl := lv_entry ([.ref h_t]) (n := 1) (Nat.le_of_ble_eq_true rfl)
  rw [lg_entry_eq]
  generalize (lg_sl ([.ref h_t]) ++ List.replicate (1 - (lg_sl ([.ref h_t])).length) Slot.unset).toArray = ls at hl ⊢
  have hl : lv_has ls 1 [(0, .ref h_t)] := hl
  have hf := ho
  unfold f_X2_settle at hf
  refine en (fun H locs hP hD hS => ?_) hP hD
  refine lv_aload_n hx hb dX2_settle_0 rfl (lv_at hl 0 rfl) ?_
  refine lv_aload_n hx hb dX2_settle_1 rfl (lv_at hl 0 rfl) ?_
  refine va_get (D := G.1) (ci := 2) (v := .ref h_t_always) (C := RX2) (T := TX2) (N := 6) hx hb hts hiX2 hown hg.1 hP 0 rfl rfl 0 (by decide) (hts (.fieldLink RX2 14 "AsARule$Items" "always" "LAsARule$Sayings;") (by decide +kernel)) (fun _ h9 => h9) rfl dX2_settle_2 ?_
  obtain ⟨o1, ho1, hf⟩ := bd_e hf
  refine af_l (wr := [(h_t, .inr (2, [.ref h_t_always, .ref h_t_rules, .ref h_t_facts, .ref h_t_guesses, .long t_there, .long t_ground])), (h_t_rules, .inr (4, [.ref h_t_rules_whens, .ref h_t_rules_thens, .ref h_t_rules_grades, .int t_rules_quarrel])), (h_t_rules_whens, .inr (5, [.ref h_t_rules_whens_kept, .int t_rules_whens_most, .int t_rules_whens_size])), (h_t_rules_whens_kept, .inl (G.2.1.2.2, 9, .inr (.inl t_rules_whens_kept))), (h_t_rules_thens, .inr (5, [.ref h_t_rules_thens_kept, .int t_rules_thens_most, .int t_rules_thens_size])), (h_t_rules_thens_kept, .inl (G.2.1.2.2, 9, .inr (.inl t_rules_thens_kept))), (h_t_rules_grades, .inl (G.2.1.2.1, 9, .inl t_rules_grades)), (h_t_facts, .inr (5, [.ref h_t_facts_kept, .int t_facts_most, .int t_facts_size])), (h_t_facts_kept, .inl (G.2.1.2.2, 9, .inr (.inl t_facts_kept)))]) (va_runV (As := []) (rest := [.ref h_t]) ⟨hx, hb, hml, hown, hts⟩ (c_X5_meet l G h_t_always h_t_always_kept H.size t_always_most t_always_size t_always_kept o1 ho1) (cwV 0 hts gX2_settle_X5_meet rfl rfl rfl (by decide +kernel) ⟨Nat.le_of_ble_eq_true rfl, Nat.le_of_ble_eq_true rfl⟩) (pcA_preV hg hc hP hD hS hA [1, 2] rfl (by decide) (q0 := 1) (ci := 5) rfl rfl rfl) rfl rfl hl.1 rfl (lv_room (Nat.le_of_ble_eq_true rfl)) dX2_settle_5 ⟨Nat.zero_le _, Nat.zero_le _⟩) hP hD hS hA [1, 2] [0, 3, 4, 5, 6, 7, 8, 9, 10] rfl rfl (by decide) (by decide) (fun _ H locs _ hP hD hS => ?_)
  have hP : va_P G.1 vwCl [(h_t, .inr (2, [.ref h_t_always, .ref h_t_rules, .ref h_t_facts, .ref h_t_guesses, .long t_there, .long t_ground])), (h_t_always, .inr (5, [.ref h_t_always_kept, .int t_always_most, .int t_always_size])), (h_t_always_kept, .inl (G.2.1.2.2, 9, .inr (.inl t_always_kept))), (h_t_rules, .inr (4, [.ref h_t_rules_whens, .ref h_t_rules_thens, .ref h_t_rules_grades, .int t_rules_quarrel])), (h_t_rules_whens, .inr (5, [.ref h_t_rules_whens_kept, .int t_rules_whens_most, .int t_rules_whens_size])), (h_t_rules_whens_kept, .inl (G.2.1.2.2, 9, .inr (.inl t_rules_whens_kept))), (h_t_rules_thens, .inr (5, [.ref h_t_rules_thens_kept, .int t_rules_thens_most, .int t_rules_thens_size])), (h_t_rules_thens_kept, .inl (G.2.1.2.2, 9, .inr (.inl t_rules_thens_kept))), (h_t_rules_grades, .inl (G.2.1.2.1, 9, .inl t_rules_grades)), (h_t_facts, .inr (5, [.ref h_t_facts_kept, .int t_facts_most, .int t_facts_size])), (h_t_facts_kept, .inl (G.2.1.2.2, 9, .inr (.inl t_facts_kept)))] H := hP.sub [0, 9, 10, 1, 2, 3, 4, 5, 6, 7, 8] rfl
  have hD : va_D A [(h_t, .inr (2, [.ref h_t_always, .ref h_t_rules, .ref h_t_facts, .ref h_t_guesses, .long t_there, .long t_ground])), (h_t_always, .inr (5, [.ref h_t_always_kept, .int t_always_most, .int t_always_size])), (h_t_always_kept, .inl (G.2.1.2.2, 9, .inr (.inl t_always_kept))), (h_t_rules, .inr (4, [.ref h_t_rules_whens, .ref h_t_rules_thens, .ref h_t_rules_grades, .int t_rules_quarrel])), (h_t_rules_whens, .inr (5, [.ref h_t_rules_whens_kept, .int t_rules_whens_most, .int t_rules_whens_size])), (h_t_rules_whens_kept, .inl (G.2.1.2.2, 9, .inr (.inl t_rules_whens_kept))), (h_t_rules_thens, .inr (5, [.ref h_t_rules_thens_kept, .int t_rules_thens_most, .int t_rules_thens_size])), (h_t_rules_thens_kept, .inl (G.2.1.2.2, 9, .inr (.inl t_rules_thens_kept))), (h_t_rules_grades, .inl (G.2.1.2.1, 9, .inl t_rules_grades)), (h_t_facts, .inr (5, [.ref h_t_facts_kept, .int t_facts_most, .int t_facts_size])), (h_t_facts_kept, .inl (G.2.1.2.2, 9, .inr (.inl t_facts_kept)))] := hD.sub [0, 9, 10, 1, 2, 3, 4, 5, 6, 7, 8] (by decide) rfl
  refine va_put (D := G.1) (ci := 2) (v := .long o1) (ty := .long) (C := RX2) (T := TX2) (N := 6) hx hb hts hiX2 tyX2 tyX2_ok nmX2 hown hg.1 hP hD hS 0 rfl rfl 4 (by decide) (hts (.fieldLink RX2 35 "AsARule$Items" "there" "J") (by decide +kernel)) (fun _ h9 => h9) rfl (by decide +kernel) rfl rfl (Nat.le_of_ble_eq_true rfl) dX2_settle_8 (fun H locs hP hD hS => ?_)
  have hP : va_P G.1 vwCl [(h_t, .inr (2, [.ref h_t_always, .ref h_t_rules, .ref h_t_facts, .ref h_t_guesses, .long o1, .long t_ground])), (h_t_always, .inr (5, [.ref h_t_always_kept, .int t_always_most, .int t_always_size])), (h_t_always_kept, .inl (G.2.1.2.2, 9, .inr (.inl t_always_kept))), (h_t_rules, .inr (4, [.ref h_t_rules_whens, .ref h_t_rules_thens, .ref h_t_rules_grades, .int t_rules_quarrel])), (h_t_rules_whens, .inr (5, [.ref h_t_rules_whens_kept, .int t_rules_whens_most, .int t_rules_whens_size])), (h_t_rules_whens_kept, .inl (G.2.1.2.2, 9, .inr (.inl t_rules_whens_kept))), (h_t_rules_thens, .inr (5, [.ref h_t_rules_thens_kept, .int t_rules_thens_most, .int t_rules_thens_size])), (h_t_rules_thens_kept, .inl (G.2.1.2.2, 9, .inr (.inl t_rules_thens_kept))), (h_t_rules_grades, .inl (G.2.1.2.1, 9, .inl t_rules_grades)), (h_t_facts, .inr (5, [.ref h_t_facts_kept, .int t_facts_most, .int t_facts_size])), (h_t_facts_kept, .inl (G.2.1.2.2, 9, .inr (.inl t_facts_kept)))] H := hP
  have hD : va_D A [(h_t, .inr (2, [.ref h_t_always, .ref h_t_rules, .ref h_t_facts, .ref h_t_guesses, .long o1, .long t_ground])), (h_t_always, .inr (5, [.ref h_t_always_kept, .int t_always_most, .int t_always_size])), (h_t_always_kept, .inl (G.2.1.2.2, 9, .inr (.inl t_always_kept))), (h_t_rules, .inr (4, [.ref h_t_rules_whens, .ref h_t_rules_thens, .ref h_t_rules_grades, .int t_rules_quarrel])), (h_t_rules_whens, .inr (5, [.ref h_t_rules_whens_kept, .int t_rules_whens_most, .int t_rules_whens_size])), (h_t_rules_whens_kept, .inl (G.2.1.2.2, 9, .inr (.inl t_rules_whens_kept))), (h_t_rules_thens, .inr (5, [.ref h_t_rules_thens_kept, .int t_rules_thens_most, .int t_rules_thens_size])), (h_t_rules_thens_kept, .inl (G.2.1.2.2, 9, .inr (.inl t_rules_thens_kept))), (h_t_rules_grades, .inl (G.2.1.2.1, 9, .inl t_rules_grades)), (h_t_facts, .inr (5, [.ref h_t_facts_kept, .int t_facts_most, .int t_facts_size])), (h_t_facts_kept, .inl (G.2.1.2.2, 9, .inr (.inl t_facts_kept)))] := hD
  refine lv_aload_n hx hb dX2_settle_11 rfl (lv_at hl 0 rfl) ?_
  refine lv_aload_n hx hb dX2_settle_12 rfl (lv_at hl 0 rfl) ?_
  refine va_get (D := G.1) (ci := 2) (v := .long o1) (C := RX2) (T := TX2) (N := 6) hx hb hts hiX2 hown hg.1 hP 0 rfl rfl 4 (by decide) (hts (.fieldLink RX2 35 "AsARule$Items" "there" "J") (by decide +kernel)) (fun _ h9 => h9) rfl dX2_settle_13 ?_
  refine lv_aload_n hx hb dX2_settle_16 rfl (lv_at hl 0 rfl) ?_
  refine va_get (D := G.1) (ci := 2) (v := .ref h_t_facts) (C := RX2) (T := TX2) (N := 6) hx hb hts hiX2 hown hg.1 hP 0 rfl rfl 2 (by decide) (hts (.fieldLink RX2 27 "AsARule$Items" "facts" "LAsARule$Sayings;") (by decide +kernel)) (fun _ h9 => h9) rfl dX2_settle_17 ?_
  obtain ⟨o2, ho2, hf⟩ := bd_e hf
  refine af_l (wr := [(h_t, .inr (2, [.ref h_t_always, .ref h_t_rules, .ref h_t_facts, .ref h_t_guesses, .long o1, .long t_ground])), (h_t_always, .inr (5, [.ref h_t_always_kept, .int t_always_most, .int t_always_size])), (h_t_always_kept, .inl (G.2.1.2.2, 9, .inr (.inl t_always_kept))), (h_t_rules, .inr (4, [.ref h_t_rules_whens, .ref h_t_rules_thens, .ref h_t_rules_grades, .int t_rules_quarrel])), (h_t_rules_whens, .inr (5, [.ref h_t_rules_whens_kept, .int t_rules_whens_most, .int t_rules_whens_size])), (h_t_rules_whens_kept, .inl (G.2.1.2.2, 9, .inr (.inl t_rules_whens_kept))), (h_t_rules_thens, .inr (5, [.ref h_t_rules_thens_kept, .int t_rules_thens_most, .int t_rules_thens_size])), (h_t_rules_thens_kept, .inl (G.2.1.2.2, 9, .inr (.inl t_rules_thens_kept))), (h_t_rules_grades, .inl (G.2.1.2.1, 9, .inl t_rules_grades))]) (va_runV (As := []) (rest := [.long o1, .ref h_t]) ⟨hx, hb, hml, hown, hts⟩ (c_X5_meet l G h_t_facts h_t_facts_kept H.size t_facts_most t_facts_size t_facts_kept o2 ho2) (cwV 0 hts gX2_settle_X5_meet rfl rfl rfl (by decide +kernel) ⟨Nat.le_of_ble_eq_true rfl, Nat.le_of_ble_eq_true rfl⟩) (pcA_preV hg hc hP hD hS hA [9, 10] rfl (by decide) (q0 := 9) (ci := 5) rfl rfl rfl) rfl rfl hl.1 rfl (lv_room (Nat.le_of_ble_eq_true rfl)) dX2_settle_20 ⟨Nat.zero_le _, Nat.zero_le _⟩) hP hD hS hA [9, 10] [0, 1, 2, 3, 4, 5, 6, 7, 8] rfl rfl (by decide) (by decide) (fun _ H locs _ hP hD hS => ?_)
  have hP : va_P G.1 vwCl [(h_t, .inr (2, [.ref h_t_always, .ref h_t_rules, .ref h_t_facts, .ref h_t_guesses, .long o1, .long t_ground])), (h_t_always, .inr (5, [.ref h_t_always_kept, .int t_always_most, .int t_always_size])), (h_t_always_kept, .inl (G.2.1.2.2, 9, .inr (.inl t_always_kept))), (h_t_rules, .inr (4, [.ref h_t_rules_whens, .ref h_t_rules_thens, .ref h_t_rules_grades, .int t_rules_quarrel])), (h_t_rules_whens, .inr (5, [.ref h_t_rules_whens_kept, .int t_rules_whens_most, .int t_rules_whens_size])), (h_t_rules_whens_kept, .inl (G.2.1.2.2, 9, .inr (.inl t_rules_whens_kept))), (h_t_rules_thens, .inr (5, [.ref h_t_rules_thens_kept, .int t_rules_thens_most, .int t_rules_thens_size])), (h_t_rules_thens_kept, .inl (G.2.1.2.2, 9, .inr (.inl t_rules_thens_kept))), (h_t_rules_grades, .inl (G.2.1.2.1, 9, .inl t_rules_grades)), (h_t_facts, .inr (5, [.ref h_t_facts_kept, .int t_facts_most, .int t_facts_size])), (h_t_facts_kept, .inl (G.2.1.2.2, 9, .inr (.inl t_facts_kept)))] H := hP
  have hD : va_D A [(h_t, .inr (2, [.ref h_t_always, .ref h_t_rules, .ref h_t_facts, .ref h_t_guesses, .long o1, .long t_ground])), (h_t_always, .inr (5, [.ref h_t_always_kept, .int t_always_most, .int t_always_size])), (h_t_always_kept, .inl (G.2.1.2.2, 9, .inr (.inl t_always_kept))), (h_t_rules, .inr (4, [.ref h_t_rules_whens, .ref h_t_rules_thens, .ref h_t_rules_grades, .int t_rules_quarrel])), (h_t_rules_whens, .inr (5, [.ref h_t_rules_whens_kept, .int t_rules_whens_most, .int t_rules_whens_size])), (h_t_rules_whens_kept, .inl (G.2.1.2.2, 9, .inr (.inl t_rules_whens_kept))), (h_t_rules_thens, .inr (5, [.ref h_t_rules_thens_kept, .int t_rules_thens_most, .int t_rules_thens_size])), (h_t_rules_thens_kept, .inl (G.2.1.2.2, 9, .inr (.inl t_rules_thens_kept))), (h_t_rules_grades, .inl (G.2.1.2.1, 9, .inl t_rules_grades)), (h_t_facts, .inr (5, [.ref h_t_facts_kept, .int t_facts_most, .int t_facts_size])), (h_t_facts_kept, .inl (G.2.1.2.2, 9, .inr (.inl t_facts_kept)))] := hD
  refine lv_land hx hb dX2_settle_23 ?_
  refine lv_topl (fun x3 ex3 => ?_)
  have hf := lt_n hf x3 ex3
  refine va_put (D := G.1) (ci := 2) (v := .long x3) (ty := .long) (C := RX2) (T := TX2) (N := 6) hx hb hts hiX2 tyX2 tyX2_ok nmX2 hown hg.1 hP hD hS 0 rfl rfl 5 (by decide) (hts (.fieldLink RX2 39 "AsARule$Items" "ground" "J") (by decide +kernel)) (fun _ h9 => h9) rfl (by decide +kernel) rfl rfl (Nat.le_of_ble_eq_true rfl) dX2_settle_24 (fun H locs hP hD hS => ?_)
  have hP : va_P G.1 vwCl [(h_t, .inr (2, [.ref h_t_always, .ref h_t_rules, .ref h_t_facts, .ref h_t_guesses, .long o1, .long x3])), (h_t_always, .inr (5, [.ref h_t_always_kept, .int t_always_most, .int t_always_size])), (h_t_always_kept, .inl (G.2.1.2.2, 9, .inr (.inl t_always_kept))), (h_t_rules, .inr (4, [.ref h_t_rules_whens, .ref h_t_rules_thens, .ref h_t_rules_grades, .int t_rules_quarrel])), (h_t_rules_whens, .inr (5, [.ref h_t_rules_whens_kept, .int t_rules_whens_most, .int t_rules_whens_size])), (h_t_rules_whens_kept, .inl (G.2.1.2.2, 9, .inr (.inl t_rules_whens_kept))), (h_t_rules_thens, .inr (5, [.ref h_t_rules_thens_kept, .int t_rules_thens_most, .int t_rules_thens_size])), (h_t_rules_thens_kept, .inl (G.2.1.2.2, 9, .inr (.inl t_rules_thens_kept))), (h_t_rules_grades, .inl (G.2.1.2.1, 9, .inl t_rules_grades)), (h_t_facts, .inr (5, [.ref h_t_facts_kept, .int t_facts_most, .int t_facts_size])), (h_t_facts_kept, .inl (G.2.1.2.2, 9, .inr (.inl t_facts_kept)))] H := hP
  have hD : va_D A [(h_t, .inr (2, [.ref h_t_always, .ref h_t_rules, .ref h_t_facts, .ref h_t_guesses, .long o1, .long x3])), (h_t_always, .inr (5, [.ref h_t_always_kept, .int t_always_most, .int t_always_size])), (h_t_always_kept, .inl (G.2.1.2.2, 9, .inr (.inl t_always_kept))), (h_t_rules, .inr (4, [.ref h_t_rules_whens, .ref h_t_rules_thens, .ref h_t_rules_grades, .int t_rules_quarrel])), (h_t_rules_whens, .inr (5, [.ref h_t_rules_whens_kept, .int t_rules_whens_most, .int t_rules_whens_size])), (h_t_rules_whens_kept, .inl (G.2.1.2.2, 9, .inr (.inl t_rules_whens_kept))), (h_t_rules_thens, .inr (5, [.ref h_t_rules_thens_kept, .int t_rules_thens_most, .int t_rules_thens_size])), (h_t_rules_thens_kept, .inl (G.2.1.2.2, 9, .inr (.inl t_rules_thens_kept))), (h_t_rules_grades, .inl (G.2.1.2.1, 9, .inl t_rules_grades)), (h_t_facts, .inr (5, [.ref h_t_facts_kept, .int t_facts_most, .int t_facts_size])), (h_t_facts_kept, .inl (G.2.1.2.2, 9, .inr (.inl t_facts_kept)))] := hD
  refine lv_aload_n hx hb dX2_settle_27 rfl (lv_at hl 0 rfl) ?_
  refine va_get (D := G.1) (ci := 2) (v := .ref h_t_rules) (C := RX2) (T := TX2) (N := 6) hx hb hts hiX2 hown hg.1 hP 0 rfl rfl 1 (by decide) (hts (.fieldLink RX2 23 "AsARule$Items" "rules" "LAsARule$Rules;") (by decide +kernel)) (fun _ h9 => h9) rfl dX2_settle_28 ?_
  refine lv_aload_n hx hb dX2_settle_31 rfl (lv_at hl 0 rfl) ?_
  refine va_get (D := G.1) (ci := 2) (v := .long o1) (C := RX2) (T := TX2) (N := 6) hx hb hts hiX2 hown hg.1 hP 0 rfl rfl 4 (by decide) (hts (.fieldLink RX2 35 "AsARule$Items" "there" "J") (by decide +kernel)) (fun _ h9 => h9) rfl dX2_settle_32 ?_
  obtain ⟨o4, ho4, hf⟩ := bd_e hf
  refine af_v (wr := [(h_t, .inr (2, [.ref h_t_always, .ref h_t_rules, .ref h_t_facts, .ref h_t_guesses, .long o1, .long x3])), (h_t_always, .inr (5, [.ref h_t_always_kept, .int t_always_most, .int t_always_size])), (h_t_always_kept, .inl (G.2.1.2.2, 9, .inr (.inl t_always_kept))), (h_t_facts, .inr (5, [.ref h_t_facts_kept, .int t_facts_most, .int t_facts_size])), (h_t_facts_kept, .inl (G.2.1.2.2, 9, .inr (.inl t_facts_kept)))]) (va_runV (As := [.long o1]) (rest := []) ⟨hx, hb, hml, hown, hts⟩ (c_X4_sort l G h_t_rules h_t_rules_whens h_t_rules_thens h_t_rules_grades h_t_rules_whens_kept h_t_rules_thens_kept H.size t_rules_quarrel t_rules_whens_most t_rules_whens_size t_rules_whens_kept t_rules_thens_most t_rules_thens_size t_rules_thens_kept t_rules_grades o1 o4 ho4) (cwV 1 hts gX2_settle_X4_sort rfl rfl rfl (by decide +kernel) ⟨Nat.le_of_ble_eq_true rfl, Nat.le_of_ble_eq_true rfl⟩) (pcA_preV hg hc hP hD hS hA [3, 4, 5, 6, 7, 8] rfl (by decide) (q0 := 3) (ci := 4) rfl rfl rfl) rfl rfl hl.1 rfl (lv_room (Nat.le_of_ble_eq_true rfl)) dX2_settle_35 ⟨Nat.zero_le _, Nat.zero_le _⟩) hP hD hS hA [3, 4, 5, 6, 7, 8] [0, 1, 2, 9, 10] rfl rfl (by decide) (by decide) (fun _ H locs _ hP hD hS => ?_)
  have hP : va_P G.1 vwCl [(h_t, .inr (2, [.ref h_t_always, .ref h_t_rules, .ref h_t_facts, .ref h_t_guesses, .long o1, .long x3])), (h_t_always, .inr (5, [.ref h_t_always_kept, .int t_always_most, .int t_always_size])), (h_t_always_kept, .inl (G.2.1.2.2, 9, .inr (.inl t_always_kept))), (h_t_rules, .inr (4, [.ref h_t_rules_whens, .ref h_t_rules_thens, .ref h_t_rules_grades, .int o4.1])), (h_t_rules_whens, .inr (5, [.ref h_t_rules_whens_kept, .int t_rules_whens_most, .int t_rules_whens_size])), (h_t_rules_whens_kept, .inl (G.2.1.2.2, 9, .inr (.inl t_rules_whens_kept))), (h_t_rules_thens, .inr (5, [.ref h_t_rules_thens_kept, .int t_rules_thens_most, .int t_rules_thens_size])), (h_t_rules_thens_kept, .inl (G.2.1.2.2, 9, .inr (.inl t_rules_thens_kept))), (h_t_rules_grades, .inl (G.2.1.2.1, 9, .inl o4.2)), (h_t_facts, .inr (5, [.ref h_t_facts_kept, .int t_facts_most, .int t_facts_size])), (h_t_facts_kept, .inl (G.2.1.2.2, 9, .inr (.inl t_facts_kept)))] H := hP.sub [0, 1, 2, 5, 6, 7, 8, 9, 10, 3, 4] rfl
  have hD : va_D A [(h_t, .inr (2, [.ref h_t_always, .ref h_t_rules, .ref h_t_facts, .ref h_t_guesses, .long o1, .long x3])), (h_t_always, .inr (5, [.ref h_t_always_kept, .int t_always_most, .int t_always_size])), (h_t_always_kept, .inl (G.2.1.2.2, 9, .inr (.inl t_always_kept))), (h_t_rules, .inr (4, [.ref h_t_rules_whens, .ref h_t_rules_thens, .ref h_t_rules_grades, .int o4.1])), (h_t_rules_whens, .inr (5, [.ref h_t_rules_whens_kept, .int t_rules_whens_most, .int t_rules_whens_size])), (h_t_rules_whens_kept, .inl (G.2.1.2.2, 9, .inr (.inl t_rules_whens_kept))), (h_t_rules_thens, .inr (5, [.ref h_t_rules_thens_kept, .int t_rules_thens_most, .int t_rules_thens_size])), (h_t_rules_thens_kept, .inl (G.2.1.2.2, 9, .inr (.inl t_rules_thens_kept))), (h_t_rules_grades, .inl (G.2.1.2.1, 9, .inl o4.2)), (h_t_facts, .inr (5, [.ref h_t_facts_kept, .int t_facts_most, .int t_facts_size])), (h_t_facts_kept, .inl (G.2.1.2.2, 9, .inr (.inl t_facts_kept)))] := hD.sub [0, 1, 2, 5, 6, 7, 8, 9, 10, 3, 4] (by decide) rfl
  rw [← Option.some.inj hf]
  exact rt_v (u := ()) hx hb hr hlocks hP hD trivial hS dX2_settle_38
-- method X2_worldsThere
def f_X2_worldsThere (t_there : Int64) : Option (Int64) :=
  some (t_there)
set_option maxHeartbeats 4000000 in
set_option maxRecDepth 100000 in
theorem c_X2_worldsThere (l : Launch) (G : GG) (h_t h_t_always h_t_rules h_t_facts h_t_guesses : Nat) (sz : Nat) (t_there : Int64) (t_ground : Int64)  (o : Int64) (ho : f_X2_worldsThere t_there = some o)  : Met l yX2_worldsThere wsX2_worldsThere ({ frames := 0, cells := 0, slots := 0, locals := 0 } : Room) (pcA G [.ref h_t] [(h_t, .inr (2, [.ref h_t_always, .ref h_t_rules, .ref h_t_facts, .ref h_t_guesses, .long t_there, .long t_ground]))] sz) (qcL Unit G o (fun _ => True) (fun _ => [(h_t, .inr (2, [.ref h_t_always, .ref h_t_rules, .ref h_t_facts, .ref h_t_guesses, .long t_there, .long t_ground]))]) (va_A [(h_t, .inr (2, [.ref h_t_always, .ref h_t_rules, .ref h_t_facts, .ref h_t_guesses, .long t_there, .long t_ground]))] sz)) 0 0 (va_A [(h_t, .inr (2, [.ref h_t_always, .ref h_t_rules, .ref h_t_facts, .ref h_t_guesses, .long t_there, .long t_ground]))] sz) := by
  refine Met.ofW (cc := cX2_worldsThere) (maxL := 1) (ret := (some .long)) (by decide) rfl ?_
  intro p e s m args below meth c s₁ B hml hv
  obtain ⟨rfl, hsz, hP, hg, hD0, hc⟩ := hv
  have hx := B.exec
  have hb := B.bytes
  have hr := B.returns
  have hts := atoms_spec (ws := wsX2_worldsThere) B.pre
  have hown : s.vm.findClass RX2 = some m.cls := findClass_of_methodNamed B.named
  have hlocks := B.notSynchronized
  subst hsz
  have hD := hD0.self (sz := s.heap.size)
  generalize hAe : va_A [(h_t, .inr (2, [.ref h_t_always, .ref h_t_rules, .ref h_t_facts, .ref h_t_guesses, .long t_there, .long t_ground]))] s.heap.size = A at hD hc ⊢
  have hA : ∀ q : Nat, s.heap.size ≤ q → A q := fun q h => by rw [← hAe]; exact Or.inr h
  have hiX2 : ∀ w ∈ wsX20, w ∈ wsX2_worldsThere := by decide +kernel
  have hl := lv_entry ([.ref h_t]) (n := 1) (Nat.le_of_ble_eq_true rfl)
  rw [lg_entry_eq]
  generalize (lg_sl ([.ref h_t]) ++ List.replicate (1 - (lg_sl ([.ref h_t])).length) Slot.unset).toArray = ls at hl ⊢
  have hl : lv_has ls 1 [(0, .ref h_t)] := hl
  have hf := ho
  unfold f_X2_worldsThere at hf
  refine en (fun H locs hP hD hS => ?_) hP hD
  refine lv_aload_n hx hb dX2_worldsThere_0 rfl (lv_at hl 0 rfl) ?_
  refine va_get (D := G.1) (ci := 2) (v := .long t_there) (C := RX2) (T := TX2) (N := 6) hx hb hts hiX2 hown hg.1 hP 0 rfl rfl 4 (by decide) (hts (.fieldLink RX2 35 "AsARule$Items" "there" "J") (by decide +kernel)) (fun _ h9 => h9) rfl dX2_worldsThere_1 ?_
  rw [← Option.some.inj hf]
  exact rt_l (u := ()) hx hb hr hlocks hP hD trivial hS dX2_worldsThere_4
-- method X2_worldsOfGround
def f_X2_worldsOfGround (t_ground : Int64) : Option (Int64) :=
  some (t_ground)
set_option maxHeartbeats 4000000 in
set_option maxRecDepth 100000 in
theorem c_X2_worldsOfGround (l : Launch) (G : GG) (h_t h_t_always h_t_rules h_t_facts h_t_guesses : Nat) (sz : Nat) (t_there : Int64) (t_ground : Int64)  (o : Int64) (ho : f_X2_worldsOfGround t_ground = some o)  : Met l yX2_worldsOfGround wsX2_worldsOfGround ({ frames := 0, cells := 0, slots := 0, locals := 0 } : Room) (pcA G [.ref h_t] [(h_t, .inr (2, [.ref h_t_always, .ref h_t_rules, .ref h_t_facts, .ref h_t_guesses, .long t_there, .long t_ground]))] sz) (qcL Unit G o (fun _ => True) (fun _ => [(h_t, .inr (2, [.ref h_t_always, .ref h_t_rules, .ref h_t_facts, .ref h_t_guesses, .long t_there, .long t_ground]))]) (va_A [(h_t, .inr (2, [.ref h_t_always, .ref h_t_rules, .ref h_t_facts, .ref h_t_guesses, .long t_there, .long t_ground]))] sz)) 0 0 (va_A [(h_t, .inr (2, [.ref h_t_always, .ref h_t_rules, .ref h_t_facts, .ref h_t_guesses, .long t_there, .long t_ground]))] sz) := by
  refine Met.ofW (cc := cX2_worldsOfGround) (maxL := 1) (ret := (some .long)) (by decide) rfl ?_
  intro p e s m args below meth c s₁ B hml hv
  obtain ⟨rfl, hsz, hP, hg, hD0, hc⟩ := hv
  have hx := B.exec
  have hb := B.bytes
  have hr := B.returns
  have hts := atoms_spec (ws := wsX2_worldsOfGround) B.pre
  have hown : s.vm.findClass RX2 = some m.cls := findClass_of_methodNamed B.named
  have hlocks := B.notSynchronized
  subst hsz
  have hD := hD0.self (sz := s.heap.size)
  generalize hAe : va_A [(h_t, .inr (2, [.ref h_t_always, .ref h_t_rules, .ref h_t_facts, .ref h_t_guesses, .long t_there, .long t_ground]))] s.heap.size = A at hD hc ⊢
  have hA : ∀ q : Nat, s.heap.size ≤ q → A q := fun q h => by rw [← hAe]; exact Or.inr h
  have hiX2 : ∀ w ∈ wsX20, w ∈ wsX2_worldsOfGround := by decide +kernel
  have hl := lv_entry ([.ref h_t]) (n := 1) (Nat.le_of_ble_eq_true rfl)
  rw [lg_entry_eq]
  generalize (lg_sl ([.ref h_t]) ++ List.replicate (1 - (lg_sl ([.ref h_t])).length) Slot.unset).toArray = ls at hl ⊢
  have hl : lv_has ls 1 [(0, .ref h_t)] := hl
  have hf := ho
  unfold f_X2_worldsOfGround at hf
  refine en (fun H locs hP hD hS => ?_) hP hD
  refine lv_aload_n hx hb dX2_worldsOfGround_0 rfl (lv_at hl 0 rfl) ?_
  refine va_get (D := G.1) (ci := 2) (v := .long t_ground) (C := RX2) (T := TX2) (N := 6) hx hb hts hiX2 hown hg.1 hP 0 rfl rfl 5 (by decide) (hts (.fieldLink RX2 39 "AsARule$Items" "ground" "J") (by decide +kernel)) (fun _ h9 => h9) rfl dX2_worldsOfGround_1 ?_
  rw [← Option.some.inj hf]
  exact rt_l (u := ()) hx hb hr hlocks hP hD trivial hS dX2_worldsOfGround_4
-- method X2_unbroken
def lp_X2_unbroken_7 (t_there : Int64) (t_rules_whens_size : Int32) (t_rules_whens_kept : Nat → Int64) (t_rules_thens_size : Int32) (t_rules_thens_kept : Nat → Int64) : Nat → Int64 → Int32 → Option (Int64)
  | 0, _, _ => none
  | n + 1, v1, v3 => bd (f_X4_size t_rules_whens_size) (fun o1 => if o1 ≤ v3 then some (v1) else bd (f_X4_breaking t_rules_whens_size t_rules_whens_kept t_rules_thens_size t_rules_thens_kept v3) (fun o3 => lt (v1 &&& (o3 ^^^ (-1 : Int64))) (fun x4 => lt (v3 + (1 : Int32)) (fun x5 => lp_X2_unbroken_7 t_there t_rules_whens_size t_rules_whens_kept t_rules_thens_size t_rules_thens_kept n x4 x5))))
def f_X2_unbroken (t_there : Int64) (t_rules_whens_size : Int32) (t_rules_whens_kept : Nat → Int64) (t_rules_thens_size : Int32) (t_rules_thens_kept : Nat → Int64) : Option (Int64) :=
  lp_X2_unbroken_7 t_there t_rules_whens_size t_rules_whens_kept t_rules_thens_size t_rules_thens_kept fu t_there (0 : Int32)
set_option maxHeartbeats 4000000 in
set_option maxRecDepth 100000 in
theorem c_X2_unbroken (l : Launch) (G : GG) (h_t h_t_always h_t_rules h_t_facts h_t_guesses h_t_rules_whens h_t_rules_thens h_t_rules_grades h_t_rules_whens_kept h_t_rules_thens_kept : Nat) (sz : Nat) (t_there : Int64) (t_ground : Int64) (t_rules_quarrel : Int32) (t_rules_whens_most : Int32) (t_rules_whens_size : Int32) (t_rules_whens_kept : Nat → Int64) (t_rules_thens_most : Int32) (t_rules_thens_size : Int32) (t_rules_thens_kept : Nat → Int64)  (o : Int64) (ho : f_X2_unbroken t_there t_rules_whens_size t_rules_whens_kept t_rules_thens_size t_rules_thens_kept = some o)  : Met l yX2_unbroken wsX2_unbroken ({ frames := 2, cells := 0, slots := 0, locals := 42 } : Room) (pcA G [.ref h_t] [(h_t, .inr (2, [.ref h_t_always, .ref h_t_rules, .ref h_t_facts, .ref h_t_guesses, .long t_there, .long t_ground])), (h_t_rules, .inr (4, [.ref h_t_rules_whens, .ref h_t_rules_thens, .ref h_t_rules_grades, .int t_rules_quarrel])), (h_t_rules_whens, .inr (5, [.ref h_t_rules_whens_kept, .int t_rules_whens_most, .int t_rules_whens_size])), (h_t_rules_whens_kept, .inl (G.2.1.2.2, 9, .inr (.inl t_rules_whens_kept))), (h_t_rules_thens, .inr (5, [.ref h_t_rules_thens_kept, .int t_rules_thens_most, .int t_rules_thens_size])), (h_t_rules_thens_kept, .inl (G.2.1.2.2, 9, .inr (.inl t_rules_thens_kept)))] sz) (qcL Unit G o (fun _ => True) (fun _ => [(h_t, .inr (2, [.ref h_t_always, .ref h_t_rules, .ref h_t_facts, .ref h_t_guesses, .long t_there, .long t_ground])), (h_t_rules, .inr (4, [.ref h_t_rules_whens, .ref h_t_rules_thens, .ref h_t_rules_grades, .int t_rules_quarrel])), (h_t_rules_whens, .inr (5, [.ref h_t_rules_whens_kept, .int t_rules_whens_most, .int t_rules_whens_size])), (h_t_rules_whens_kept, .inl (G.2.1.2.2, 9, .inr (.inl t_rules_whens_kept))), (h_t_rules_thens, .inr (5, [.ref h_t_rules_thens_kept, .int t_rules_thens_most, .int t_rules_thens_size])), (h_t_rules_thens_kept, .inl (G.2.1.2.2, 9, .inr (.inl t_rules_thens_kept)))]) (va_A [(h_t, .inr (2, [.ref h_t_always, .ref h_t_rules, .ref h_t_facts, .ref h_t_guesses, .long t_there, .long t_ground])), (h_t_rules, .inr (4, [.ref h_t_rules_whens, .ref h_t_rules_thens, .ref h_t_rules_grades, .int t_rules_quarrel])), (h_t_rules_whens, .inr (5, [.ref h_t_rules_whens_kept, .int t_rules_whens_most, .int t_rules_whens_size])), (h_t_rules_whens_kept, .inl (G.2.1.2.2, 9, .inr (.inl t_rules_whens_kept))), (h_t_rules_thens, .inr (5, [.ref h_t_rules_thens_kept, .int t_rules_thens_most, .int t_rules_thens_size])), (h_t_rules_thens_kept, .inl (G.2.1.2.2, 9, .inr (.inl t_rules_thens_kept)))] sz)) 0 0 (va_A [(h_t, .inr (2, [.ref h_t_always, .ref h_t_rules, .ref h_t_facts, .ref h_t_guesses, .long t_there, .long t_ground])), (h_t_rules, .inr (4, [.ref h_t_rules_whens, .ref h_t_rules_thens, .ref h_t_rules_grades, .int t_rules_quarrel])), (h_t_rules_whens, .inr (5, [.ref h_t_rules_whens_kept, .int t_rules_whens_most, .int t_rules_whens_size])), (h_t_rules_whens_kept, .inl (G.2.1.2.2, 9, .inr (.inl t_rules_whens_kept))), (h_t_rules_thens, .inr (5, [.ref h_t_rules_thens_kept, .int t_rules_thens_most, .int t_rules_thens_size])), (h_t_rules_thens_kept, .inl (G.2.1.2.2, 9, .inr (.inl t_rules_thens_kept)))] sz) := by
  refine Met.ofW (cc := cX2_unbroken) (maxL := 4) (ret := (some .long)) (by decide) rfl ?_
  intro p e s m args below meth c s₁ B hml hv
  obtain ⟨rfl, hsz, hP, hg, hD0, hc⟩ := hv
  have hx := B.exec
  have hb := B.bytes
  have hr := B.returns
  have hts := atoms_spec (ws := wsX2_unbroken) B.pre
  have hown : s.vm.findClass RX2 = some m.cls := findClass_of_methodNamed B.named
  have hlocks := B.notSynchronized
  subst hsz
  have hD := hD0.self (sz := s.heap.size)
  generalize hAe : va_A [(h_t, .inr (2, [.ref h_t_always, .ref h_t_rules, .ref h_t_facts, .ref h_t_guesses, .long t_there, .long t_ground])), (h_t_rules, .inr (4, [.ref h_t_rules_whens, .ref h_t_rules_thens, .ref h_t_rules_grades, .int t_rules_quarrel])), (h_t_rules_whens, .inr (5, [.ref h_t_rules_whens_kept, .int t_rules_whens_most, .int t_rules_whens_size])), (h_t_rules_whens_kept, .inl (G.2.1.2.2, 9, .inr (.inl t_rules_whens_kept))), (h_t_rules_thens, .inr (5, [.ref h_t_rules_thens_kept, .int t_rules_thens_most, .int t_rules_thens_size])), (h_t_rules_thens_kept, .inl (G.2.1.2.2, 9, .inr (.inl t_rules_thens_kept)))] s.heap.size = A at hD hc ⊢
  have hA : ∀ q : Nat, s.heap.size ≤ q → A q := fun q h => by rw [← hAe]; exact Or.inr h
  have hiX2 : ∀ w ∈ wsX20, w ∈ wsX2_unbroken := by decide +kernel
  have hl := lv_entry ([.ref h_t]) (n := 4) (Nat.le_of_ble_eq_true rfl)
  rw [lg_entry_eq]
  generalize (lg_sl ([.ref h_t]) ++ List.replicate (4 - (lg_sl ([.ref h_t])).length) Slot.unset).toArray = ls at hl ⊢
  have hl : lv_has ls 4 [(0, .ref h_t)] := hl
  have hf := ho
  have hw_7 : ∀  (n : Nat) (v1 : Int64) (v3 : Int32), lp_X2_unbroken_7 t_there t_rules_whens_size t_rules_whens_kept t_rules_thens_size t_rules_thens_kept n v1 v3 = some o → ∀ (H : Heap) (locs : List Loc), va_P G.1 vwCl [(h_t, .inr (2, [.ref h_t_always, .ref h_t_rules, .ref h_t_facts, .ref h_t_guesses, .long t_there, .long t_ground])), (h_t_rules, .inr (4, [.ref h_t_rules_whens, .ref h_t_rules_thens, .ref h_t_rules_grades, .int t_rules_quarrel])), (h_t_rules_whens, .inr (5, [.ref h_t_rules_whens_kept, .int t_rules_whens_most, .int t_rules_whens_size])), (h_t_rules_whens_kept, .inl (G.2.1.2.2, 9, .inr (.inl t_rules_whens_kept))), (h_t_rules_thens, .inr (5, [.ref h_t_rules_thens_kept, .int t_rules_thens_most, .int t_rules_thens_size])), (h_t_rules_thens_kept, .inl (G.2.1.2.2, 9, .inr (.inl t_rules_thens_kept)))] H → va_D A [(h_t, .inr (2, [.ref h_t_always, .ref h_t_rules, .ref h_t_facts, .ref h_t_guesses, .long t_there, .long t_ground])), (h_t_rules, .inr (4, [.ref h_t_rules_whens, .ref h_t_rules_thens, .ref h_t_rules_grades, .int t_rules_quarrel])), (h_t_rules_whens, .inr (5, [.ref h_t_rules_whens_kept, .int t_rules_whens_most, .int t_rules_whens_size])), (h_t_rules_whens_kept, .inl (G.2.1.2.2, 9, .inr (.inl t_rules_whens_kept))), (h_t_rules_thens, .inr (5, [.ref h_t_rules_thens_kept, .int t_rules_thens_most, .int t_rules_thens_size])), (h_t_rules_thens_kept, .inl (G.2.1.2.2, 9, .inr (.inl t_rules_thens_kept)))] → va_S A s.heap H locs → ∀ (ls : Array Slot), lv_has ls 4 [(0, .ref h_t), (1, .long v1), (3, .int v3)] → W p l e (headSpec wsX2_unbroken ({ frames := 2, cells := 0, slots := 0, locals := 42 } : Room)).room s m ([.ref h_t] : List Value).toArray below meth c H locs 0 0 (MQ below (qcL Unit G o (fun _ => True) (fun _ => [(h_t, .inr (2, [.ref h_t_always, .ref h_t_rules, .ref h_t_facts, .ref h_t_guesses, .long t_there, .long t_ground])), (h_t_rules, .inr (4, [.ref h_t_rules_whens, .ref h_t_rules_thens, .ref h_t_rules_grades, .int t_rules_quarrel])), (h_t_rules_whens, .inr (5, [.ref h_t_rules_whens_kept, .int t_rules_whens_most, .int t_rules_whens_size])), (h_t_rules_whens_kept, .inl (G.2.1.2.2, 9, .inr (.inl t_rules_whens_kept))), (h_t_rules_thens, .inr (5, [.ref h_t_rules_thens_kept, .int t_rules_thens_most, .int t_rules_thens_size])), (h_t_rules_thens_kept, .inl (G.2.1.2.2, 9, .inr (.inl t_rules_thens_kept)))]) A) ([.ref h_t] : List Value).toArray s 0 0 A) (F0 m 7 ls []) := by
    intro n
    induction n with
    | zero =>
      intro v1 v3 hf
      exact absurd hf (by rw [lp_X2_unbroken_7]; intro h; cases h)
    | succ n ih =>
      intro v1 v3 hf H locs hP hD hS ls hl
      rw [lp_X2_unbroken_7] at hf
      refine lv_iload_n hx hb dX2_unbroken_7 rfl (lv_at hl 2 rfl) ?_
      refine lv_aload_n hx hb dX2_unbroken_8 rfl (lv_at hl 0 rfl) ?_
      refine va_get (D := G.1) (ci := 2) (v := .ref h_t_rules) (C := RX2) (T := TX2) (N := 6) hx hb hts hiX2 hown hg.1 hP 0 rfl rfl 1 (by decide) (hts (.fieldLink RX2 23 "AsARule$Items" "rules" "LAsARule$Rules;") (by decide +kernel)) (fun _ h9 => h9) rfl dX2_unbroken_9 ?_
      obtain ⟨o1, ho1, hf⟩ := bd_e hf
      refine af_i (wr := [(h_t, .inr (2, [.ref h_t_always, .ref h_t_rules, .ref h_t_facts, .ref h_t_guesses, .long t_there, .long t_ground])), (h_t_rules_whens_kept, .inl (G.2.1.2.2, 9, .inr (.inl t_rules_whens_kept))), (h_t_rules_thens, .inr (5, [.ref h_t_rules_thens_kept, .int t_rules_thens_most, .int t_rules_thens_size])), (h_t_rules_thens_kept, .inl (G.2.1.2.2, 9, .inr (.inl t_rules_thens_kept)))]) (va_runV (As := []) (rest := [.int v3]) ⟨hx, hb, hml, hown, hts⟩ (c_X4_size l G h_t_rules h_t_rules_whens h_t_rules_thens h_t_rules_grades h_t_rules_whens_kept H.size t_rules_quarrel t_rules_whens_most t_rules_whens_size o1 ho1) (cwV 0 hts gX2_unbroken_X4_size rfl rfl rfl (by decide +kernel) ⟨Nat.le_of_ble_eq_true rfl, Nat.le_of_ble_eq_true rfl⟩) (pcA_preV hg hc hP hD hS hA [1, 2] rfl (by decide) (q0 := 1) (ci := 4) rfl rfl rfl) rfl rfl hl.1 rfl (lv_room (Nat.le_of_ble_eq_true rfl)) dX2_unbroken_12 ⟨Nat.zero_le _, Nat.zero_le _⟩) hP hD hS hA [1, 2] [0, 3, 4, 5] rfl rfl (by decide) (by decide) (fun _ H locs _ hP hD hS => ?_)
      have hP : va_P G.1 vwCl [(h_t, .inr (2, [.ref h_t_always, .ref h_t_rules, .ref h_t_facts, .ref h_t_guesses, .long t_there, .long t_ground])), (h_t_rules, .inr (4, [.ref h_t_rules_whens, .ref h_t_rules_thens, .ref h_t_rules_grades, .int t_rules_quarrel])), (h_t_rules_whens, .inr (5, [.ref h_t_rules_whens_kept, .int t_rules_whens_most, .int t_rules_whens_size])), (h_t_rules_whens_kept, .inl (G.2.1.2.2, 9, .inr (.inl t_rules_whens_kept))), (h_t_rules_thens, .inr (5, [.ref h_t_rules_thens_kept, .int t_rules_thens_most, .int t_rules_thens_size])), (h_t_rules_thens_kept, .inl (G.2.1.2.2, 9, .inr (.inl t_rules_thens_kept)))] H := hP.sub [0, 4, 5, 1, 2, 3] rfl
      have hD : va_D A [(h_t, .inr (2, [.ref h_t_always, .ref h_t_rules, .ref h_t_facts, .ref h_t_guesses, .long t_there, .long t_ground])), (h_t_rules, .inr (4, [.ref h_t_rules_whens, .ref h_t_rules_thens, .ref h_t_rules_grades, .int t_rules_quarrel])), (h_t_rules_whens, .inr (5, [.ref h_t_rules_whens_kept, .int t_rules_whens_most, .int t_rules_whens_size])), (h_t_rules_whens_kept, .inl (G.2.1.2.2, 9, .inr (.inl t_rules_whens_kept))), (h_t_rules_thens, .inr (5, [.ref h_t_rules_thens_kept, .int t_rules_thens_most, .int t_rules_thens_size])), (h_t_rules_thens_kept, .inl (G.2.1.2.2, 9, .inr (.inl t_rules_thens_kept)))] := hD.sub [0, 4, 5, 1, 2, 3] (by decide) rfl
      refine lv_icmp_ge (tgt := 39) hx hb dX2_unbroken_15 (by decide) (fun c2 => ?_) (fun c2 => ?_)
      · have hf := it_t c2 hf
        refine lv_lload_n hx hb dX2_unbroken_39 rfl (lv_at hl 1 rfl) ?_
        rw [← Option.some.inj hf]
        exact rt_l (u := ()) hx hb hr hlocks hP hD trivial hS dX2_unbroken_40
      · have hf := it_f c2 hf
        refine lv_lload_n hx hb dX2_unbroken_18 rfl (lv_at hl 1 rfl) ?_
        refine lv_aload_n hx hb dX2_unbroken_19 rfl (lv_at hl 0 rfl) ?_
        refine va_get (D := G.1) (ci := 2) (v := .ref h_t_rules) (C := RX2) (T := TX2) (N := 6) hx hb hts hiX2 hown hg.1 hP 0 rfl rfl 1 (by decide) (hts (.fieldLink RX2 23 "AsARule$Items" "rules" "LAsARule$Rules;") (by decide +kernel)) (fun _ h9 => h9) rfl dX2_unbroken_20 ?_
        refine lv_iload_n hx hb dX2_unbroken_23 rfl (lv_at hl 2 rfl) ?_
        obtain ⟨o3, ho3, hf⟩ := bd_e hf
        refine af_l (wr := [(h_t, .inr (2, [.ref h_t_always, .ref h_t_rules, .ref h_t_facts, .ref h_t_guesses, .long t_there, .long t_ground]))]) (va_runV (As := [.int v3]) (rest := [.long v1]) ⟨hx, hb, hml, hown, hts⟩ (c_X4_breaking l G h_t_rules h_t_rules_whens h_t_rules_thens h_t_rules_grades h_t_rules_whens_kept h_t_rules_thens_kept H.size t_rules_quarrel t_rules_whens_most t_rules_whens_size t_rules_whens_kept t_rules_thens_most t_rules_thens_size t_rules_thens_kept v3 o3 ho3) (cwV 1 hts gX2_unbroken_X4_breaking rfl rfl rfl (by decide +kernel) ⟨Nat.le_of_ble_eq_true rfl, Nat.le_of_ble_eq_true rfl⟩) (pcA_preV hg hc hP hD hS hA [1, 2, 3, 4, 5] rfl (by decide) (q0 := 1) (ci := 4) rfl rfl rfl) rfl rfl hl.1 rfl (lv_room (Nat.le_of_ble_eq_true rfl)) dX2_unbroken_24 ⟨Nat.zero_le _, Nat.zero_le _⟩) hP hD hS hA [1, 2, 3, 4, 5] [0] rfl rfl (by decide) (by decide) (fun _ H locs _ hP hD hS => ?_)
        have hP : va_P G.1 vwCl [(h_t, .inr (2, [.ref h_t_always, .ref h_t_rules, .ref h_t_facts, .ref h_t_guesses, .long t_there, .long t_ground])), (h_t_rules, .inr (4, [.ref h_t_rules_whens, .ref h_t_rules_thens, .ref h_t_rules_grades, .int t_rules_quarrel])), (h_t_rules_whens, .inr (5, [.ref h_t_rules_whens_kept, .int t_rules_whens_most, .int t_rules_whens_size])), (h_t_rules_whens_kept, .inl (G.2.1.2.2, 9, .inr (.inl t_rules_whens_kept))), (h_t_rules_thens, .inr (5, [.ref h_t_rules_thens_kept, .int t_rules_thens_most, .int t_rules_thens_size])), (h_t_rules_thens_kept, .inl (G.2.1.2.2, 9, .inr (.inl t_rules_thens_kept)))] H := hP
        have hD : va_D A [(h_t, .inr (2, [.ref h_t_always, .ref h_t_rules, .ref h_t_facts, .ref h_t_guesses, .long t_there, .long t_ground])), (h_t_rules, .inr (4, [.ref h_t_rules_whens, .ref h_t_rules_thens, .ref h_t_rules_grades, .int t_rules_quarrel])), (h_t_rules_whens, .inr (5, [.ref h_t_rules_whens_kept, .int t_rules_whens_most, .int t_rules_whens_size])), (h_t_rules_whens_kept, .inl (G.2.1.2.2, 9, .inr (.inl t_rules_whens_kept))), (h_t_rules_thens, .inr (5, [.ref h_t_rules_thens_kept, .int t_rules_thens_most, .int t_rules_thens_size])), (h_t_rules_thens_kept, .inl (G.2.1.2.2, 9, .inr (.inl t_rules_thens_kept)))] := hD
        refine lv_ldc2 (v := (-1 : Int64)) hx hb hown (hts (.constantLong RX2 33 (-1 : Int64)) (by decide +kernel)) dX2_unbroken_27 ?_
        refine lv_lxor hx hb dX2_unbroken_30 ?_
        refine lv_land hx hb dX2_unbroken_31 ?_
        refine lv_topl (fun x4 ex4 => ?_)
        have hf := lt_n hf x4 ex4
        refine lv_lstore_n (lv' := [(1, .long x4), (0, .ref h_t), (3, .int v3)]) hx hb dX2_unbroken_32 rfl hl (by decide) rfl (fun ls hl => ?_)
        obtain ⟨x5, ex5⟩ : ∃ y : Int32, y = (v3 + (1 : Int32)) := ⟨_, rfl⟩
        have hf := lt_n hf x5 ex5
        refine lv_iinc (v := x5) (lv' := [(3, .int x5), (1, .long x4), (0, .ref h_t)]) hx hb dX2_unbroken_33 hl (k := 2) rfl (by rw [ex5]; rfl) (by decide) rfl (fun ls hl => ?_)
        refine lv_goto (tgt := 7) hx hb dX2_unbroken_36 (by decide) ?_
        exact ih x4 x5 hf _ _ hP hD hS _ (lv_sub hl [2, 1, 0] rfl)
  unfold f_X2_unbroken at hf
  refine en (fun H locs hP hD hS => ?_) hP hD
  refine lv_aload_n hx hb dX2_unbroken_0 rfl (lv_at hl 0 rfl) ?_
  refine va_get (D := G.1) (ci := 2) (v := .long t_there) (C := RX2) (T := TX2) (N := 6) hx hb hts hiX2 hown hg.1 hP 0 rfl rfl 4 (by decide) (hts (.fieldLink RX2 35 "AsARule$Items" "there" "J") (by decide +kernel)) (fun _ h9 => h9) rfl dX2_unbroken_1 ?_
  refine lv_lstore_n (lv' := [(1, .long t_there), (0, .ref h_t)]) hx hb dX2_unbroken_4 rfl hl (by decide) rfl (fun ls hl => ?_)
  refine lv_iconst (v := (0 : Int32)) hx hb dX2_unbroken_5 (by decide) ?_
  refine lv_istore_n (lv' := [(3, .int (0 : Int32)), (1, .long t_there), (0, .ref h_t)]) hx hb dX2_unbroken_6 rfl hl (by decide) rfl (fun ls hl => ?_)
  exact hw_7 fu t_there (0 : Int32) hf _ _ hP hD hS _ (lv_sub hl [2, 1, 0] rfl)
-- method X2_rank
def f_X2_rank (t_there : Int64) (t_rules_whens_size : Int32) (t_rules_whens_kept : Nat → Int64) (t_rules_thens_size : Int32) (t_rules_thens_kept : Nat → Int64) (t_rules_grades : Nat → Int32) (a1 : Int32) : Option (Int32) :=
  bd (f_X7_holds t_there a1) (fun o1 => if o1 = (0 : Int32) then some ((-9 : Int32)) else bd (f_X4_brokenIn t_rules_whens_size t_rules_whens_kept t_rules_thens_size t_rules_thens_kept a1) (fun o3 => bd (f_X4_rankOf t_rules_whens_size t_rules_grades o3) (fun o4 => some (o4))))
set_option maxHeartbeats 4000000 in
set_option maxRecDepth 100000 in
theorem c_X2_rank (l : Launch) (G : GG) (h_t h_t_always h_t_rules h_t_facts h_t_guesses h_t_rules_whens h_t_rules_thens h_t_rules_grades h_t_rules_whens_kept h_t_rules_thens_kept : Nat) (sz : Nat) (t_there : Int64) (t_ground : Int64) (t_rules_quarrel : Int32) (t_rules_whens_most : Int32) (t_rules_whens_size : Int32) (t_rules_whens_kept : Nat → Int64) (t_rules_thens_most : Int32) (t_rules_thens_size : Int32) (t_rules_thens_kept : Nat → Int64) (t_rules_grades : Nat → Int32) (a1 : Int32) (o : Int32) (ho : f_X2_rank t_there t_rules_whens_size t_rules_whens_kept t_rules_thens_size t_rules_thens_kept t_rules_grades a1 = some o)  : Met l yX2_rank wsX2_rank ({ frames := 3, cells := 0, slots := 0, locals := 66 } : Room) (pcA G [.ref h_t, .int a1] [(h_t, .inr (2, [.ref h_t_always, .ref h_t_rules, .ref h_t_facts, .ref h_t_guesses, .long t_there, .long t_ground])), (h_t_rules, .inr (4, [.ref h_t_rules_whens, .ref h_t_rules_thens, .ref h_t_rules_grades, .int t_rules_quarrel])), (h_t_rules_whens, .inr (5, [.ref h_t_rules_whens_kept, .int t_rules_whens_most, .int t_rules_whens_size])), (h_t_rules_whens_kept, .inl (G.2.1.2.2, 9, .inr (.inl t_rules_whens_kept))), (h_t_rules_thens, .inr (5, [.ref h_t_rules_thens_kept, .int t_rules_thens_most, .int t_rules_thens_size])), (h_t_rules_thens_kept, .inl (G.2.1.2.2, 9, .inr (.inl t_rules_thens_kept))), (h_t_rules_grades, .inl (G.2.1.2.1, 9, .inl t_rules_grades))] sz) (qcI Unit G o (fun _ => True) (fun _ => [(h_t, .inr (2, [.ref h_t_always, .ref h_t_rules, .ref h_t_facts, .ref h_t_guesses, .long t_there, .long t_ground])), (h_t_rules, .inr (4, [.ref h_t_rules_whens, .ref h_t_rules_thens, .ref h_t_rules_grades, .int t_rules_quarrel])), (h_t_rules_whens, .inr (5, [.ref h_t_rules_whens_kept, .int t_rules_whens_most, .int t_rules_whens_size])), (h_t_rules_whens_kept, .inl (G.2.1.2.2, 9, .inr (.inl t_rules_whens_kept))), (h_t_rules_thens, .inr (5, [.ref h_t_rules_thens_kept, .int t_rules_thens_most, .int t_rules_thens_size])), (h_t_rules_thens_kept, .inl (G.2.1.2.2, 9, .inr (.inl t_rules_thens_kept))), (h_t_rules_grades, .inl (G.2.1.2.1, 9, .inl t_rules_grades))]) (va_A [(h_t, .inr (2, [.ref h_t_always, .ref h_t_rules, .ref h_t_facts, .ref h_t_guesses, .long t_there, .long t_ground])), (h_t_rules, .inr (4, [.ref h_t_rules_whens, .ref h_t_rules_thens, .ref h_t_rules_grades, .int t_rules_quarrel])), (h_t_rules_whens, .inr (5, [.ref h_t_rules_whens_kept, .int t_rules_whens_most, .int t_rules_whens_size])), (h_t_rules_whens_kept, .inl (G.2.1.2.2, 9, .inr (.inl t_rules_whens_kept))), (h_t_rules_thens, .inr (5, [.ref h_t_rules_thens_kept, .int t_rules_thens_most, .int t_rules_thens_size])), (h_t_rules_thens_kept, .inl (G.2.1.2.2, 9, .inr (.inl t_rules_thens_kept))), (h_t_rules_grades, .inl (G.2.1.2.1, 9, .inl t_rules_grades))] sz)) 0 0 (va_A [(h_t, .inr (2, [.ref h_t_always, .ref h_t_rules, .ref h_t_facts, .ref h_t_guesses, .long t_there, .long t_ground])), (h_t_rules, .inr (4, [.ref h_t_rules_whens, .ref h_t_rules_thens, .ref h_t_rules_grades, .int t_rules_quarrel])), (h_t_rules_whens, .inr (5, [.ref h_t_rules_whens_kept, .int t_rules_whens_most, .int t_rules_whens_size])), (h_t_rules_whens_kept, .inl (G.2.1.2.2, 9, .inr (.inl t_rules_whens_kept))), (h_t_rules_thens, .inr (5, [.ref h_t_rules_thens_kept, .int t_rules_thens_most, .int t_rules_thens_size])), (h_t_rules_thens_kept, .inl (G.2.1.2.2, 9, .inr (.inl t_rules_thens_kept))), (h_t_rules_grades, .inl (G.2.1.2.1, 9, .inl t_rules_grades))] sz) := by
  refine Met.ofW (cc := cX2_rank) (maxL := 2) (ret := (some .int)) (by decide) rfl ?_
  intro p e s m args below meth c s₁ B hml hv
  obtain ⟨rfl, hsz, hP, hg, hD0, hc⟩ := hv
  have hx := B.exec
  have hb := B.bytes
  have hr := B.returns
  have hts := atoms_spec (ws := wsX2_rank) B.pre
  have hown : s.vm.findClass RX2 = some m.cls := findClass_of_methodNamed B.named
  have hlocks := B.notSynchronized
  subst hsz
  have hD := hD0.self (sz := s.heap.size)
  generalize hAe : va_A [(h_t, .inr (2, [.ref h_t_always, .ref h_t_rules, .ref h_t_facts, .ref h_t_guesses, .long t_there, .long t_ground])), (h_t_rules, .inr (4, [.ref h_t_rules_whens, .ref h_t_rules_thens, .ref h_t_rules_grades, .int t_rules_quarrel])), (h_t_rules_whens, .inr (5, [.ref h_t_rules_whens_kept, .int t_rules_whens_most, .int t_rules_whens_size])), (h_t_rules_whens_kept, .inl (G.2.1.2.2, 9, .inr (.inl t_rules_whens_kept))), (h_t_rules_thens, .inr (5, [.ref h_t_rules_thens_kept, .int t_rules_thens_most, .int t_rules_thens_size])), (h_t_rules_thens_kept, .inl (G.2.1.2.2, 9, .inr (.inl t_rules_thens_kept))), (h_t_rules_grades, .inl (G.2.1.2.1, 9, .inl t_rules_grades))] s.heap.size = A at hD hc ⊢
  have hA : ∀ q : Nat, s.heap.size ≤ q → A q := fun q h => by rw [← hAe]; exact Or.inr h
  have hiX2 : ∀ w ∈ wsX20, w ∈ wsX2_rank := by decide +kernel
  have hl := lv_entry ([.ref h_t, .int a1]) (n := 2) (Nat.le_of_ble_eq_true rfl)
  rw [lg_entry_eq]
  generalize (lg_sl ([.ref h_t, .int a1]) ++ List.replicate (2 - (lg_sl ([.ref h_t, .int a1])).length) Slot.unset).toArray = ls at hl ⊢
  have hl : lv_has ls 2 [(0, .ref h_t), (1, .int a1)] := hl
  have hf := ho
  unfold f_X2_rank at hf
  refine en (fun H locs hP hD hS => ?_) hP hD
  refine lv_aload_n hx hb dX2_rank_0 rfl (lv_at hl 0 rfl) ?_
  refine va_get (D := G.1) (ci := 2) (v := .long t_there) (C := RX2) (T := TX2) (N := 6) hx hb hts hiX2 hown hg.1 hP 0 rfl rfl 4 (by decide) (hts (.fieldLink RX2 35 "AsARule$Items" "there" "J") (by decide +kernel)) (fun _ h9 => h9) rfl dX2_rank_1 ?_
  refine lv_iload_n hx hb dX2_rank_4 rfl (lv_at hl 1 rfl) ?_
  obtain ⟨o1, ho1, hf⟩ := bd_e hf
  refine af0_i (va_runSN (As := [.long t_there, .int a1]) (rest := []) ⟨hx, hb, hml, hown, hts⟩ (c_X7_holds l G H.size t_there a1 o1 ho1) ⟨va_cnB (host := "AsARule") 2 hts gX2_rank_X7_holds_n63 rfl rfl rfl (hg.2 _ (List.mem_of_getElem? (i := 3) rfl)) (hts (.initialized RX7) (by decide +kernel)) (by decide +kernel) ⟨Nat.le_of_ble_eq_true rfl, Nat.le_of_ble_eq_true rfl⟩, (hts (.static yX7_holds) (by decide +kernel)), trivial⟩ (pcA_pre hg hc hP hD hS hA [] rfl rfl [.long t_there, .int a1]) rfl rfl hl.1 rfl (lv_room (Nat.le_of_ble_eq_true rfl)) dX2_rank_5 ⟨Nat.zero_le _, Nat.zero_le _⟩) hP hD hS hA (fun H locs hP hD hS => ?_)
  refine lv_if_eq (tgt := 29) hx hb dX2_rank_8 (by decide) (fun c2 => ?_) (fun c2 => ?_)
  · have hf := it_t c2 hf
    refine lv_bipush (v := (-9 : Int32)) hx hb dX2_rank_29 (by decide) ?_
    rw [← Option.some.inj hf]
    exact rt_i (u := ()) hx hb hr hlocks hP hD trivial hS dX2_rank_31
  · have hf := it_f c2 hf
    refine lv_aload_n hx hb dX2_rank_11 rfl (lv_at hl 0 rfl) ?_
    refine va_get (D := G.1) (ci := 2) (v := .ref h_t_rules) (C := RX2) (T := TX2) (N := 6) hx hb hts hiX2 hown hg.1 hP 0 rfl rfl 1 (by decide) (hts (.fieldLink RX2 23 "AsARule$Items" "rules" "LAsARule$Rules;") (by decide +kernel)) (fun _ h9 => h9) rfl dX2_rank_12 ?_
    refine lv_aload_n hx hb dX2_rank_15 rfl (lv_at hl 0 rfl) ?_
    refine va_get (D := G.1) (ci := 2) (v := .ref h_t_rules) (C := RX2) (T := TX2) (N := 6) hx hb hts hiX2 hown hg.1 hP 0 rfl rfl 1 (by decide) (hts (.fieldLink RX2 23 "AsARule$Items" "rules" "LAsARule$Rules;") (by decide +kernel)) (fun _ h9 => h9) rfl dX2_rank_16 ?_
    refine lv_iload_n hx hb dX2_rank_19 rfl (lv_at hl 1 rfl) ?_
    obtain ⟨o3, ho3, hf⟩ := bd_e hf
    refine af_i (wr := [(h_t, .inr (2, [.ref h_t_always, .ref h_t_rules, .ref h_t_facts, .ref h_t_guesses, .long t_there, .long t_ground])), (h_t_rules_grades, .inl (G.2.1.2.1, 9, .inl t_rules_grades))]) (va_runV (As := [.int a1]) (rest := [.ref h_t_rules]) ⟨hx, hb, hml, hown, hts⟩ (c_X4_brokenIn l G h_t_rules h_t_rules_whens h_t_rules_thens h_t_rules_grades h_t_rules_whens_kept h_t_rules_thens_kept H.size t_rules_quarrel t_rules_whens_most t_rules_whens_size t_rules_whens_kept t_rules_thens_most t_rules_thens_size t_rules_thens_kept a1 o3 ho3) (cwV 1 hts gX2_rank_X4_brokenIn rfl rfl rfl (by decide +kernel) ⟨Nat.le_of_ble_eq_true rfl, Nat.le_of_ble_eq_true rfl⟩) (pcA_preV hg hc hP hD hS hA [1, 2, 3, 4, 5] rfl (by decide) (q0 := 1) (ci := 4) rfl rfl rfl) rfl rfl hl.1 rfl (lv_room (Nat.le_of_ble_eq_true rfl)) dX2_rank_20 ⟨Nat.zero_le _, Nat.zero_le _⟩) hP hD hS hA [1, 2, 3, 4, 5] [0, 6] rfl rfl (by decide) (by decide) (fun _ H locs _ hP hD hS => ?_)
    have hP : va_P G.1 vwCl [(h_t, .inr (2, [.ref h_t_always, .ref h_t_rules, .ref h_t_facts, .ref h_t_guesses, .long t_there, .long t_ground])), (h_t_rules, .inr (4, [.ref h_t_rules_whens, .ref h_t_rules_thens, .ref h_t_rules_grades, .int t_rules_quarrel])), (h_t_rules_whens, .inr (5, [.ref h_t_rules_whens_kept, .int t_rules_whens_most, .int t_rules_whens_size])), (h_t_rules_whens_kept, .inl (G.2.1.2.2, 9, .inr (.inl t_rules_whens_kept))), (h_t_rules_thens, .inr (5, [.ref h_t_rules_thens_kept, .int t_rules_thens_most, .int t_rules_thens_size])), (h_t_rules_thens_kept, .inl (G.2.1.2.2, 9, .inr (.inl t_rules_thens_kept))), (h_t_rules_grades, .inl (G.2.1.2.1, 9, .inl t_rules_grades))] H := hP.sub [0, 2, 3, 4, 5, 6, 1] rfl
    have hD : va_D A [(h_t, .inr (2, [.ref h_t_always, .ref h_t_rules, .ref h_t_facts, .ref h_t_guesses, .long t_there, .long t_ground])), (h_t_rules, .inr (4, [.ref h_t_rules_whens, .ref h_t_rules_thens, .ref h_t_rules_grades, .int t_rules_quarrel])), (h_t_rules_whens, .inr (5, [.ref h_t_rules_whens_kept, .int t_rules_whens_most, .int t_rules_whens_size])), (h_t_rules_whens_kept, .inl (G.2.1.2.2, 9, .inr (.inl t_rules_whens_kept))), (h_t_rules_thens, .inr (5, [.ref h_t_rules_thens_kept, .int t_rules_thens_most, .int t_rules_thens_size])), (h_t_rules_thens_kept, .inl (G.2.1.2.2, 9, .inr (.inl t_rules_thens_kept))), (h_t_rules_grades, .inl (G.2.1.2.1, 9, .inl t_rules_grades))] := hD.sub [0, 2, 3, 4, 5, 6, 1] (by decide) rfl
    obtain ⟨o4, ho4, hf⟩ := bd_e hf
    refine af_i (wr := [(h_t, .inr (2, [.ref h_t_always, .ref h_t_rules, .ref h_t_facts, .ref h_t_guesses, .long t_there, .long t_ground])), (h_t_rules_whens_kept, .inl (G.2.1.2.2, 9, .inr (.inl t_rules_whens_kept))), (h_t_rules_thens, .inr (5, [.ref h_t_rules_thens_kept, .int t_rules_thens_most, .int t_rules_thens_size])), (h_t_rules_thens_kept, .inl (G.2.1.2.2, 9, .inr (.inl t_rules_thens_kept)))]) (va_runV (As := [.int o3]) (rest := []) ⟨hx, hb, hml, hown, hts⟩ (c_X4_rankOf l G h_t_rules h_t_rules_whens h_t_rules_thens h_t_rules_grades h_t_rules_whens_kept H.size t_rules_quarrel t_rules_whens_most t_rules_whens_size t_rules_grades o3 o4 ho4) (cwV 1 hts gX2_rank_X4_rankOf rfl rfl rfl (by decide +kernel) ⟨Nat.le_of_ble_eq_true rfl, Nat.le_of_ble_eq_true rfl⟩) (pcA_preV hg hc hP hD hS hA [1, 2, 6] rfl (by decide) (q0 := 1) (ci := 4) rfl rfl rfl) rfl rfl hl.1 rfl (lv_room (Nat.le_of_ble_eq_true rfl)) dX2_rank_23 ⟨Nat.zero_le _, Nat.zero_le _⟩) hP hD hS hA [1, 2, 6] [0, 3, 4, 5] rfl rfl (by decide) (by decide) (fun _ H locs _ hP hD hS => ?_)
    have hP : va_P G.1 vwCl [(h_t, .inr (2, [.ref h_t_always, .ref h_t_rules, .ref h_t_facts, .ref h_t_guesses, .long t_there, .long t_ground])), (h_t_rules, .inr (4, [.ref h_t_rules_whens, .ref h_t_rules_thens, .ref h_t_rules_grades, .int t_rules_quarrel])), (h_t_rules_whens, .inr (5, [.ref h_t_rules_whens_kept, .int t_rules_whens_most, .int t_rules_whens_size])), (h_t_rules_whens_kept, .inl (G.2.1.2.2, 9, .inr (.inl t_rules_whens_kept))), (h_t_rules_thens, .inr (5, [.ref h_t_rules_thens_kept, .int t_rules_thens_most, .int t_rules_thens_size])), (h_t_rules_thens_kept, .inl (G.2.1.2.2, 9, .inr (.inl t_rules_thens_kept))), (h_t_rules_grades, .inl (G.2.1.2.1, 9, .inl t_rules_grades))] H := hP.sub [0, 4, 5, 1, 2, 3, 6] rfl
    have hD : va_D A [(h_t, .inr (2, [.ref h_t_always, .ref h_t_rules, .ref h_t_facts, .ref h_t_guesses, .long t_there, .long t_ground])), (h_t_rules, .inr (4, [.ref h_t_rules_whens, .ref h_t_rules_thens, .ref h_t_rules_grades, .int t_rules_quarrel])), (h_t_rules_whens, .inr (5, [.ref h_t_rules_whens_kept, .int t_rules_whens_most, .int t_rules_whens_size])), (h_t_rules_whens_kept, .inl (G.2.1.2.2, 9, .inr (.inl t_rules_whens_kept))), (h_t_rules_thens, .inr (5, [.ref h_t_rules_thens_kept, .int t_rules_thens_most, .int t_rules_thens_size])), (h_t_rules_thens_kept, .inl (G.2.1.2.2, 9, .inr (.inl t_rules_thens_kept))), (h_t_rules_grades, .inl (G.2.1.2.1, 9, .inl t_rules_grades))] := hD.sub [0, 4, 5, 1, 2, 3, 6] (by decide) rfl
    refine lv_goto (tgt := 31) hx hb dX2_rank_26 (by decide) ?_
    rw [← Option.some.inj hf]
    exact rt_i (u := ()) hx hb hr hlocks hP hD trivial hS dX2_rank_31
-- method X2_least
def jn_X2_least_86 (t_there : Int64) (t_rules_whens_size : Int32) (t_rules_whens_kept : Nat → Int64) (t_rules_thens_size : Int32) (t_rules_thens_kept : Nat → Int64) (t_rules_grades : Nat → Int32) (a1 : Int64) (a3 : Int32) (k_11 : Int64 → Int64 → Int32 → Option (Int64)) (v4 : Int64) (v6 : Int64) (v8 : Int32) (v10 : Int64) : Option (Int64) :=
  if v10 = v6 then lt (v4 ||| (shlL (1 : Int64) v8)) (fun x3 => lt (v8 + (1 : Int32)) (fun x4 => k_11 x3 v6 x4)) else lt (v8 + (1 : Int32)) (fun x2 => k_11 v4 v6 x2)
def jn_X2_least_69 (t_there : Int64) (t_rules_whens_size : Int32) (t_rules_whens_kept : Nat → Int64) (t_rules_thens_size : Int32) (t_rules_thens_kept : Nat → Int64) (t_rules_grades : Nat → Int32) (a1 : Int64) (a3 : Int32) (k_11 : Int64 → Int64 → Int32 → Option (Int64)) (v4 : Int64) (v6 : Int64) (v8 : Int32) (s0 : Int64) : Option (Int64) :=
  if v6 ≤ s0 then jn_X2_least_86 t_there t_rules_whens_size t_rules_whens_kept t_rules_thens_size t_rules_thens_kept t_rules_grades a1 a3 k_11 v4 v6 v8 s0 else jn_X2_least_86 t_there t_rules_whens_size t_rules_whens_kept t_rules_thens_size t_rules_thens_kept t_rules_grades a1 a3 k_11 (0 : Int64) s0 v8 s0
def lp_X2_least_11 (t_there : Int64) (t_rules_whens_size : Int32) (t_rules_whens_kept : Nat → Int64) (t_rules_thens_size : Int32) (t_rules_thens_kept : Nat → Int64) (t_rules_grades : Nat → Int32) (a1 : Int64) (a3 : Int32) : Nat → Int64 → Int64 → Int32 → Option (Int64)
  | 0, _, _, _ => none
  | n + 1, v4, v6, v8 => if (64 : Int32) ≤ v8 then some (v4) else bd (f_X7_holds (t_there &&& a1) v8) (fun o7 => if o7 = (0 : Int32) then lt (v8 + (1 : Int32)) (fun x9 => lp_X2_least_11 t_there t_rules_whens_size t_rules_whens_kept t_rules_thens_size t_rules_thens_kept t_rules_grades a1 a3 n v4 v6 x9) else bd (f_X4_brokenIn t_rules_whens_size t_rules_whens_kept t_rules_thens_size t_rules_thens_kept v8) (fun o10 => if a3 = (0 : Int32) then bd (f_X4_rankOf t_rules_whens_size t_rules_grades o10) (fun o13 => jn_X2_least_69 t_there t_rules_whens_size t_rules_whens_kept t_rules_thens_size t_rules_thens_kept t_rules_grades a1 a3 (fun v4 v6 v8 => lp_X2_least_11 t_there t_rules_whens_size t_rules_whens_kept t_rules_thens_size t_rules_thens_kept t_rules_grades a1 a3 n v4 v6 v8) v4 v6 v8 ((o13).toInt64)) else bd (f_X4_tallyOf t_rules_whens_size t_rules_grades o10) (fun o12 => jn_X2_least_69 t_there t_rules_whens_size t_rules_whens_kept t_rules_thens_size t_rules_thens_kept t_rules_grades a1 a3 (fun v4 v6 v8 => lp_X2_least_11 t_there t_rules_whens_size t_rules_whens_kept t_rules_thens_size t_rules_thens_kept t_rules_grades a1 a3 n v4 v6 v8) v4 v6 v8 o12)))
def f_X2_least (t_there : Int64) (t_rules_whens_size : Int32) (t_rules_whens_kept : Nat → Int64) (t_rules_thens_size : Int32) (t_rules_thens_kept : Nat → Int64) (t_rules_grades : Nat → Int32) (a1 : Int64) (a3 : Int32) : Option (Int64) :=
  lp_X2_least_11 t_there t_rules_whens_size t_rules_whens_kept t_rules_thens_size t_rules_thens_kept t_rules_grades a1 a3 fu (0 : Int64) (9223372036854775807 : Int64) (0 : Int32)
set_option maxHeartbeats 4000000 in
set_option maxRecDepth 100000 in
theorem c_X2_least (l : Launch) (G : GG) (h_t h_t_always h_t_rules h_t_facts h_t_guesses h_t_rules_whens h_t_rules_thens h_t_rules_grades h_t_rules_whens_kept h_t_rules_thens_kept : Nat) (sz : Nat) (t_there : Int64) (t_ground : Int64) (t_rules_quarrel : Int32) (t_rules_whens_most : Int32) (t_rules_whens_size : Int32) (t_rules_whens_kept : Nat → Int64) (t_rules_thens_most : Int32) (t_rules_thens_size : Int32) (t_rules_thens_kept : Nat → Int64) (t_rules_grades : Nat → Int32) (a1 : Int64) (a3 : Int32) (o : Int64) (ho : f_X2_least t_there t_rules_whens_size t_rules_whens_kept t_rules_thens_size t_rules_thens_kept t_rules_grades a1 a3 = some o)  : Met l yX2_least wsX2_least ({ frames := 3, cells := 0, slots := 0, locals := 67 } : Room) (pcA G [.ref h_t, .long a1, .int a3] [(h_t, .inr (2, [.ref h_t_always, .ref h_t_rules, .ref h_t_facts, .ref h_t_guesses, .long t_there, .long t_ground])), (h_t_rules, .inr (4, [.ref h_t_rules_whens, .ref h_t_rules_thens, .ref h_t_rules_grades, .int t_rules_quarrel])), (h_t_rules_whens, .inr (5, [.ref h_t_rules_whens_kept, .int t_rules_whens_most, .int t_rules_whens_size])), (h_t_rules_whens_kept, .inl (G.2.1.2.2, 9, .inr (.inl t_rules_whens_kept))), (h_t_rules_thens, .inr (5, [.ref h_t_rules_thens_kept, .int t_rules_thens_most, .int t_rules_thens_size])), (h_t_rules_thens_kept, .inl (G.2.1.2.2, 9, .inr (.inl t_rules_thens_kept))), (h_t_rules_grades, .inl (G.2.1.2.1, 9, .inl t_rules_grades))] sz) (qcL Unit G o (fun _ => True) (fun _ => [(h_t, .inr (2, [.ref h_t_always, .ref h_t_rules, .ref h_t_facts, .ref h_t_guesses, .long t_there, .long t_ground])), (h_t_rules, .inr (4, [.ref h_t_rules_whens, .ref h_t_rules_thens, .ref h_t_rules_grades, .int t_rules_quarrel])), (h_t_rules_whens, .inr (5, [.ref h_t_rules_whens_kept, .int t_rules_whens_most, .int t_rules_whens_size])), (h_t_rules_whens_kept, .inl (G.2.1.2.2, 9, .inr (.inl t_rules_whens_kept))), (h_t_rules_thens, .inr (5, [.ref h_t_rules_thens_kept, .int t_rules_thens_most, .int t_rules_thens_size])), (h_t_rules_thens_kept, .inl (G.2.1.2.2, 9, .inr (.inl t_rules_thens_kept))), (h_t_rules_grades, .inl (G.2.1.2.1, 9, .inl t_rules_grades))]) (va_A [(h_t, .inr (2, [.ref h_t_always, .ref h_t_rules, .ref h_t_facts, .ref h_t_guesses, .long t_there, .long t_ground])), (h_t_rules, .inr (4, [.ref h_t_rules_whens, .ref h_t_rules_thens, .ref h_t_rules_grades, .int t_rules_quarrel])), (h_t_rules_whens, .inr (5, [.ref h_t_rules_whens_kept, .int t_rules_whens_most, .int t_rules_whens_size])), (h_t_rules_whens_kept, .inl (G.2.1.2.2, 9, .inr (.inl t_rules_whens_kept))), (h_t_rules_thens, .inr (5, [.ref h_t_rules_thens_kept, .int t_rules_thens_most, .int t_rules_thens_size])), (h_t_rules_thens_kept, .inl (G.2.1.2.2, 9, .inr (.inl t_rules_thens_kept))), (h_t_rules_grades, .inl (G.2.1.2.1, 9, .inl t_rules_grades))] sz)) 0 0 (va_A [(h_t, .inr (2, [.ref h_t_always, .ref h_t_rules, .ref h_t_facts, .ref h_t_guesses, .long t_there, .long t_ground])), (h_t_rules, .inr (4, [.ref h_t_rules_whens, .ref h_t_rules_thens, .ref h_t_rules_grades, .int t_rules_quarrel])), (h_t_rules_whens, .inr (5, [.ref h_t_rules_whens_kept, .int t_rules_whens_most, .int t_rules_whens_size])), (h_t_rules_whens_kept, .inl (G.2.1.2.2, 9, .inr (.inl t_rules_whens_kept))), (h_t_rules_thens, .inr (5, [.ref h_t_rules_thens_kept, .int t_rules_thens_most, .int t_rules_thens_size])), (h_t_rules_thens_kept, .inl (G.2.1.2.2, 9, .inr (.inl t_rules_thens_kept))), (h_t_rules_grades, .inl (G.2.1.2.1, 9, .inl t_rules_grades))] sz) := by
  refine Met.ofW (cc := cX2_least) (maxL := 12) (ret := (some .long)) (by decide) rfl ?_
  intro p e s m args below meth c s₁ B hml hv
  obtain ⟨rfl, hsz, hP, hg, hD0, hc⟩ := hv
  have hx := B.exec
  have hb := B.bytes
  have hr := B.returns
  have hts := atoms_spec (ws := wsX2_least) B.pre
  have hown : s.vm.findClass RX2 = some m.cls := findClass_of_methodNamed B.named
  have hlocks := B.notSynchronized
  subst hsz
  have hD := hD0.self (sz := s.heap.size)
  generalize hAe : va_A [(h_t, .inr (2, [.ref h_t_always, .ref h_t_rules, .ref h_t_facts, .ref h_t_guesses, .long t_there, .long t_ground])), (h_t_rules, .inr (4, [.ref h_t_rules_whens, .ref h_t_rules_thens, .ref h_t_rules_grades, .int t_rules_quarrel])), (h_t_rules_whens, .inr (5, [.ref h_t_rules_whens_kept, .int t_rules_whens_most, .int t_rules_whens_size])), (h_t_rules_whens_kept, .inl (G.2.1.2.2, 9, .inr (.inl t_rules_whens_kept))), (h_t_rules_thens, .inr (5, [.ref h_t_rules_thens_kept, .int t_rules_thens_most, .int t_rules_thens_size])), (h_t_rules_thens_kept, .inl (G.2.1.2.2, 9, .inr (.inl t_rules_thens_kept))), (h_t_rules_grades, .inl (G.2.1.2.1, 9, .inl t_rules_grades))] s.heap.size = A at hD hc ⊢
  have hA : ∀ q : Nat, s.heap.size ≤ q → A q := fun q h => by rw [← hAe]; exact Or.inr h
  have hiX2 : ∀ w ∈ wsX20, w ∈ wsX2_least := by decide +kernel
  have hl := lv_entry ([.ref h_t, .long a1, .int a3]) (n := 12) (Nat.le_of_ble_eq_true rfl)
  rw [lg_entry_eq]
  generalize (lg_sl ([.ref h_t, .long a1, .int a3]) ++ List.replicate (12 - (lg_sl ([.ref h_t, .long a1, .int a3])).length) Slot.unset).toArray = ls at hl ⊢
  have hl : lv_has ls 12 [(0, .ref h_t), (1, .long a1), (3, .int a3)] := hl
  have hf := ho
  have hw_86 : ∀ (k_11 : Int64 → Int64 → Int32 → Option (Int64)) (hk_11 : ∀ (v4 : Int64) (v6 : Int64) (v8 : Int32), k_11 v4 v6 v8 = some o → ∀ (H : Heap) (locs : List Loc), va_P G.1 vwCl [(h_t, .inr (2, [.ref h_t_always, .ref h_t_rules, .ref h_t_facts, .ref h_t_guesses, .long t_there, .long t_ground])), (h_t_rules, .inr (4, [.ref h_t_rules_whens, .ref h_t_rules_thens, .ref h_t_rules_grades, .int t_rules_quarrel])), (h_t_rules_whens, .inr (5, [.ref h_t_rules_whens_kept, .int t_rules_whens_most, .int t_rules_whens_size])), (h_t_rules_whens_kept, .inl (G.2.1.2.2, 9, .inr (.inl t_rules_whens_kept))), (h_t_rules_thens, .inr (5, [.ref h_t_rules_thens_kept, .int t_rules_thens_most, .int t_rules_thens_size])), (h_t_rules_thens_kept, .inl (G.2.1.2.2, 9, .inr (.inl t_rules_thens_kept))), (h_t_rules_grades, .inl (G.2.1.2.1, 9, .inl t_rules_grades))] H → va_D A [(h_t, .inr (2, [.ref h_t_always, .ref h_t_rules, .ref h_t_facts, .ref h_t_guesses, .long t_there, .long t_ground])), (h_t_rules, .inr (4, [.ref h_t_rules_whens, .ref h_t_rules_thens, .ref h_t_rules_grades, .int t_rules_quarrel])), (h_t_rules_whens, .inr (5, [.ref h_t_rules_whens_kept, .int t_rules_whens_most, .int t_rules_whens_size])), (h_t_rules_whens_kept, .inl (G.2.1.2.2, 9, .inr (.inl t_rules_whens_kept))), (h_t_rules_thens, .inr (5, [.ref h_t_rules_thens_kept, .int t_rules_thens_most, .int t_rules_thens_size])), (h_t_rules_thens_kept, .inl (G.2.1.2.2, 9, .inr (.inl t_rules_thens_kept))), (h_t_rules_grades, .inl (G.2.1.2.1, 9, .inl t_rules_grades))] → va_S A s.heap H locs → ∀ (ls : Array Slot), lv_has ls 12 [(0, .ref h_t), (1, .long a1), (3, .int a3), (4, .long v4), (6, .long v6), (8, .int v8)] → W p l e (headSpec wsX2_least ({ frames := 3, cells := 0, slots := 0, locals := 67 } : Room)).room s m ([.ref h_t, .long a1, .int a3] : List Value).toArray below meth c H locs 0 0 (MQ below (qcL Unit G o (fun _ => True) (fun _ => [(h_t, .inr (2, [.ref h_t_always, .ref h_t_rules, .ref h_t_facts, .ref h_t_guesses, .long t_there, .long t_ground])), (h_t_rules, .inr (4, [.ref h_t_rules_whens, .ref h_t_rules_thens, .ref h_t_rules_grades, .int t_rules_quarrel])), (h_t_rules_whens, .inr (5, [.ref h_t_rules_whens_kept, .int t_rules_whens_most, .int t_rules_whens_size])), (h_t_rules_whens_kept, .inl (G.2.1.2.2, 9, .inr (.inl t_rules_whens_kept))), (h_t_rules_thens, .inr (5, [.ref h_t_rules_thens_kept, .int t_rules_thens_most, .int t_rules_thens_size])), (h_t_rules_thens_kept, .inl (G.2.1.2.2, 9, .inr (.inl t_rules_thens_kept))), (h_t_rules_grades, .inl (G.2.1.2.1, 9, .inl t_rules_grades))]) A) ([.ref h_t, .long a1, .int a3] : List Value).toArray s 0 0 A) (F0 m 11 ls [])) (v4 : Int64) (v6 : Int64) (v8 : Int32) (v10 : Int64), jn_X2_least_86 t_there t_rules_whens_size t_rules_whens_kept t_rules_thens_size t_rules_thens_kept t_rules_grades a1 a3 k_11 v4 v6 v8 v10 = some o → ∀ (H : Heap) (locs : List Loc), va_P G.1 vwCl [(h_t, .inr (2, [.ref h_t_always, .ref h_t_rules, .ref h_t_facts, .ref h_t_guesses, .long t_there, .long t_ground])), (h_t_rules, .inr (4, [.ref h_t_rules_whens, .ref h_t_rules_thens, .ref h_t_rules_grades, .int t_rules_quarrel])), (h_t_rules_whens, .inr (5, [.ref h_t_rules_whens_kept, .int t_rules_whens_most, .int t_rules_whens_size])), (h_t_rules_whens_kept, .inl (G.2.1.2.2, 9, .inr (.inl t_rules_whens_kept))), (h_t_rules_thens, .inr (5, [.ref h_t_rules_thens_kept, .int t_rules_thens_most, .int t_rules_thens_size])), (h_t_rules_thens_kept, .inl (G.2.1.2.2, 9, .inr (.inl t_rules_thens_kept))), (h_t_rules_grades, .inl (G.2.1.2.1, 9, .inl t_rules_grades))] H → va_D A [(h_t, .inr (2, [.ref h_t_always, .ref h_t_rules, .ref h_t_facts, .ref h_t_guesses, .long t_there, .long t_ground])), (h_t_rules, .inr (4, [.ref h_t_rules_whens, .ref h_t_rules_thens, .ref h_t_rules_grades, .int t_rules_quarrel])), (h_t_rules_whens, .inr (5, [.ref h_t_rules_whens_kept, .int t_rules_whens_most, .int t_rules_whens_size])), (h_t_rules_whens_kept, .inl (G.2.1.2.2, 9, .inr (.inl t_rules_whens_kept))), (h_t_rules_thens, .inr (5, [.ref h_t_rules_thens_kept, .int t_rules_thens_most, .int t_rules_thens_size])), (h_t_rules_thens_kept, .inl (G.2.1.2.2, 9, .inr (.inl t_rules_thens_kept))), (h_t_rules_grades, .inl (G.2.1.2.1, 9, .inl t_rules_grades))] → va_S A s.heap H locs → ∀ (ls : Array Slot), lv_has ls 12 [(0, .ref h_t), (1, .long a1), (3, .int a3), (4, .long v4), (6, .long v6), (8, .int v8), (10, .long v10)] → W p l e (headSpec wsX2_least ({ frames := 3, cells := 0, slots := 0, locals := 67 } : Room)).room s m ([.ref h_t, .long a1, .int a3] : List Value).toArray below meth c H locs 0 0 (MQ below (qcL Unit G o (fun _ => True) (fun _ => [(h_t, .inr (2, [.ref h_t_always, .ref h_t_rules, .ref h_t_facts, .ref h_t_guesses, .long t_there, .long t_ground])), (h_t_rules, .inr (4, [.ref h_t_rules_whens, .ref h_t_rules_thens, .ref h_t_rules_grades, .int t_rules_quarrel])), (h_t_rules_whens, .inr (5, [.ref h_t_rules_whens_kept, .int t_rules_whens_most, .int t_rules_whens_size])), (h_t_rules_whens_kept, .inl (G.2.1.2.2, 9, .inr (.inl t_rules_whens_kept))), (h_t_rules_thens, .inr (5, [.ref h_t_rules_thens_kept, .int t_rules_thens_most, .int t_rules_thens_size])), (h_t_rules_thens_kept, .inl (G.2.1.2.2, 9, .inr (.inl t_rules_thens_kept))), (h_t_rules_grades, .inl (G.2.1.2.1, 9, .inl t_rules_grades))]) A) ([.ref h_t, .long a1, .int a3] : List Value).toArray s 0 0 A) (F0 m 86 ls []) := by
    intro k_11 hk_11 v4 v6 v8 v10 hf H locs hP hD hS ls hl
    unfold jn_X2_least_86 at hf
    refine lv_lload hx hb dX2_least_86 (lv_at hl 6 rfl) ?_
    refine lv_lload hx hb dX2_least_88 (lv_at hl 4 rfl) ?_
    refine W.lcmp hx hb dX2_least_90 ?_
    refine lv_if_ne (tgt := 103) hx hb dX2_least_91 (by decide) (fun c1 => ?_) (fun c1 => ?_)
    · have c1 := fun z => c1 (lgc0.mpr z)
      have hf := it_f c1 hf
      obtain ⟨x2, ex2⟩ : ∃ y : Int32, y = (v8 + (1 : Int32)) := ⟨_, rfl⟩
      have hf := lt_n hf x2 ex2
      refine lv_iinc (v := x2) (lv' := [(8, .int x2), (0, .ref h_t), (1, .long a1), (3, .int a3), (4, .long v4), (6, .long v6), (10, .long v10)]) hx hb dX2_least_103 hl (k := 5) rfl (by rw [ex2]; rfl) (by decide) rfl (fun ls hl => ?_)
      refine lv_goto (tgt := 11) hx hb dX2_least_106 (by decide) ?_
      exact hk_11 v4 v6 x2 hf _ _ hP hD hS _ (lv_sub hl [1, 2, 3, 4, 5, 0] rfl)
    · have c1 := lgc0.mp c1
      have hf := it_t c1 hf
      refine lv_lload hx hb dX2_least_94 (lv_at hl 3 rfl) ?_
      refine lv_lconst (v := (1 : Int64)) hx hb dX2_least_96 (by decide) ?_
      refine lv_iload hx hb dX2_least_97 (lv_at hl 5 rfl) ?_
      refine lv_lshl (v := (shlL (1 : Int64) v8)) hx hb dX2_least_99 rfl ?_
      refine lv_lor hx hb dX2_least_100 ?_
      refine lv_topl (fun x3 ex3 => ?_)
      have hf := lt_n hf x3 ex3
      refine lv_lstore (lv' := [(4, .long x3), (0, .ref h_t), (1, .long a1), (3, .int a3), (6, .long v6), (8, .int v8), (10, .long v10)]) hx hb dX2_least_101 hl (by decide) rfl (fun ls hl => ?_)
      obtain ⟨x4, ex4⟩ : ∃ y : Int32, y = (v8 + (1 : Int32)) := ⟨_, rfl⟩
      have hf := lt_n hf x4 ex4
      refine lv_iinc (v := x4) (lv' := [(8, .int x4), (4, .long x3), (0, .ref h_t), (1, .long a1), (3, .int a3), (6, .long v6), (10, .long v10)]) hx hb dX2_least_103 hl (k := 5) rfl (by rw [ex4]; rfl) (by decide) rfl (fun ls hl => ?_)
      refine lv_goto (tgt := 11) hx hb dX2_least_106 (by decide) ?_
      exact hk_11 x3 v6 x4 hf _ _ hP hD hS _ (lv_sub hl [2, 3, 4, 1, 5, 0] rfl)
  have hw_69 : ∀ (k_11 : Int64 → Int64 → Int32 → Option (Int64)) (hk_11 : ∀ (v4 : Int64) (v6 : Int64) (v8 : Int32), k_11 v4 v6 v8 = some o → ∀ (H : Heap) (locs : List Loc), va_P G.1 vwCl [(h_t, .inr (2, [.ref h_t_always, .ref h_t_rules, .ref h_t_facts, .ref h_t_guesses, .long t_there, .long t_ground])), (h_t_rules, .inr (4, [.ref h_t_rules_whens, .ref h_t_rules_thens, .ref h_t_rules_grades, .int t_rules_quarrel])), (h_t_rules_whens, .inr (5, [.ref h_t_rules_whens_kept, .int t_rules_whens_most, .int t_rules_whens_size])), (h_t_rules_whens_kept, .inl (G.2.1.2.2, 9, .inr (.inl t_rules_whens_kept))), (h_t_rules_thens, .inr (5, [.ref h_t_rules_thens_kept, .int t_rules_thens_most, .int t_rules_thens_size])), (h_t_rules_thens_kept, .inl (G.2.1.2.2, 9, .inr (.inl t_rules_thens_kept))), (h_t_rules_grades, .inl (G.2.1.2.1, 9, .inl t_rules_grades))] H → va_D A [(h_t, .inr (2, [.ref h_t_always, .ref h_t_rules, .ref h_t_facts, .ref h_t_guesses, .long t_there, .long t_ground])), (h_t_rules, .inr (4, [.ref h_t_rules_whens, .ref h_t_rules_thens, .ref h_t_rules_grades, .int t_rules_quarrel])), (h_t_rules_whens, .inr (5, [.ref h_t_rules_whens_kept, .int t_rules_whens_most, .int t_rules_whens_size])), (h_t_rules_whens_kept, .inl (G.2.1.2.2, 9, .inr (.inl t_rules_whens_kept))), (h_t_rules_thens, .inr (5, [.ref h_t_rules_thens_kept, .int t_rules_thens_most, .int t_rules_thens_size])), (h_t_rules_thens_kept, .inl (G.2.1.2.2, 9, .inr (.inl t_rules_thens_kept))), (h_t_rules_grades, .inl (G.2.1.2.1, 9, .inl t_rules_grades))] → va_S A s.heap H locs → ∀ (ls : Array Slot), lv_has ls 12 [(0, .ref h_t), (1, .long a1), (3, .int a3), (4, .long v4), (6, .long v6), (8, .int v8)] → W p l e (headSpec wsX2_least ({ frames := 3, cells := 0, slots := 0, locals := 67 } : Room)).room s m ([.ref h_t, .long a1, .int a3] : List Value).toArray below meth c H locs 0 0 (MQ below (qcL Unit G o (fun _ => True) (fun _ => [(h_t, .inr (2, [.ref h_t_always, .ref h_t_rules, .ref h_t_facts, .ref h_t_guesses, .long t_there, .long t_ground])), (h_t_rules, .inr (4, [.ref h_t_rules_whens, .ref h_t_rules_thens, .ref h_t_rules_grades, .int t_rules_quarrel])), (h_t_rules_whens, .inr (5, [.ref h_t_rules_whens_kept, .int t_rules_whens_most, .int t_rules_whens_size])), (h_t_rules_whens_kept, .inl (G.2.1.2.2, 9, .inr (.inl t_rules_whens_kept))), (h_t_rules_thens, .inr (5, [.ref h_t_rules_thens_kept, .int t_rules_thens_most, .int t_rules_thens_size])), (h_t_rules_thens_kept, .inl (G.2.1.2.2, 9, .inr (.inl t_rules_thens_kept))), (h_t_rules_grades, .inl (G.2.1.2.1, 9, .inl t_rules_grades))]) A) ([.ref h_t, .long a1, .int a3] : List Value).toArray s 0 0 A) (F0 m 11 ls [])) (v4 : Int64) (v6 : Int64) (v8 : Int32) (s0 : Int64), jn_X2_least_69 t_there t_rules_whens_size t_rules_whens_kept t_rules_thens_size t_rules_thens_kept t_rules_grades a1 a3 k_11 v4 v6 v8 s0 = some o → ∀ (H : Heap) (locs : List Loc), va_P G.1 vwCl [(h_t, .inr (2, [.ref h_t_always, .ref h_t_rules, .ref h_t_facts, .ref h_t_guesses, .long t_there, .long t_ground])), (h_t_rules, .inr (4, [.ref h_t_rules_whens, .ref h_t_rules_thens, .ref h_t_rules_grades, .int t_rules_quarrel])), (h_t_rules_whens, .inr (5, [.ref h_t_rules_whens_kept, .int t_rules_whens_most, .int t_rules_whens_size])), (h_t_rules_whens_kept, .inl (G.2.1.2.2, 9, .inr (.inl t_rules_whens_kept))), (h_t_rules_thens, .inr (5, [.ref h_t_rules_thens_kept, .int t_rules_thens_most, .int t_rules_thens_size])), (h_t_rules_thens_kept, .inl (G.2.1.2.2, 9, .inr (.inl t_rules_thens_kept))), (h_t_rules_grades, .inl (G.2.1.2.1, 9, .inl t_rules_grades))] H → va_D A [(h_t, .inr (2, [.ref h_t_always, .ref h_t_rules, .ref h_t_facts, .ref h_t_guesses, .long t_there, .long t_ground])), (h_t_rules, .inr (4, [.ref h_t_rules_whens, .ref h_t_rules_thens, .ref h_t_rules_grades, .int t_rules_quarrel])), (h_t_rules_whens, .inr (5, [.ref h_t_rules_whens_kept, .int t_rules_whens_most, .int t_rules_whens_size])), (h_t_rules_whens_kept, .inl (G.2.1.2.2, 9, .inr (.inl t_rules_whens_kept))), (h_t_rules_thens, .inr (5, [.ref h_t_rules_thens_kept, .int t_rules_thens_most, .int t_rules_thens_size])), (h_t_rules_thens_kept, .inl (G.2.1.2.2, 9, .inr (.inl t_rules_thens_kept))), (h_t_rules_grades, .inl (G.2.1.2.1, 9, .inl t_rules_grades))] → va_S A s.heap H locs → ∀ (ls : Array Slot), lv_has ls 12 [(0, .ref h_t), (1, .long a1), (3, .int a3), (4, .long v4), (6, .long v6), (8, .int v8)] → W p l e (headSpec wsX2_least ({ frames := 3, cells := 0, slots := 0, locals := 67 } : Room)).room s m ([.ref h_t, .long a1, .int a3] : List Value).toArray below meth c H locs 0 0 (MQ below (qcL Unit G o (fun _ => True) (fun _ => [(h_t, .inr (2, [.ref h_t_always, .ref h_t_rules, .ref h_t_facts, .ref h_t_guesses, .long t_there, .long t_ground])), (h_t_rules, .inr (4, [.ref h_t_rules_whens, .ref h_t_rules_thens, .ref h_t_rules_grades, .int t_rules_quarrel])), (h_t_rules_whens, .inr (5, [.ref h_t_rules_whens_kept, .int t_rules_whens_most, .int t_rules_whens_size])), (h_t_rules_whens_kept, .inl (G.2.1.2.2, 9, .inr (.inl t_rules_whens_kept))), (h_t_rules_thens, .inr (5, [.ref h_t_rules_thens_kept, .int t_rules_thens_most, .int t_rules_thens_size])), (h_t_rules_thens_kept, .inl (G.2.1.2.2, 9, .inr (.inl t_rules_thens_kept))), (h_t_rules_grades, .inl (G.2.1.2.1, 9, .inl t_rules_grades))]) A) ([.ref h_t, .long a1, .int a3] : List Value).toArray s 0 0 A) (F0 m 69 ls [.long s0]) := by
    intro k_11 hk_11 v4 v6 v8 s0 hf H locs hP hD hS ls hl
    unfold jn_X2_least_69 at hf
    refine lv_lstore (lv' := [(10, .long s0), (0, .ref h_t), (1, .long a1), (3, .int a3), (4, .long v4), (6, .long v6), (8, .int v8)]) hx hb dX2_least_69 hl (by decide) rfl (fun ls hl => ?_)
    refine lv_lload hx hb dX2_least_71 (lv_at hl 0 rfl) ?_
    refine lv_lload hx hb dX2_least_73 (lv_at hl 5 rfl) ?_
    refine W.lcmp hx hb dX2_least_75 ?_
    refine lv_if_ge (tgt := 86) hx hb dX2_least_76 (by decide) (fun c5 => ?_) (fun c5 => ?_)
    · have c5 := lgcGe.mp c5
      have hf := it_t c5 hf
      exact hw_86 _ hk_11 v4 v6 v8 s0 hf _ _ hP hD hS _ (lv_sub hl [1, 2, 3, 4, 5, 6, 0] rfl)
    · have c5 := fun z => c5 (lgcGe.mpr z)
      have hf := it_f c5 hf
      refine lv_lload hx hb dX2_least_79 (lv_at hl 0 rfl) ?_
      refine lv_lstore (lv' := [(6, .long s0), (10, .long s0), (0, .ref h_t), (1, .long a1), (3, .int a3), (4, .long v4), (8, .int v8)]) hx hb dX2_least_81 hl (by decide) rfl (fun ls hl => ?_)
      refine lv_lconst (v := (0 : Int64)) hx hb dX2_least_83 (by decide) ?_
      refine lv_lstore (lv' := [(4, .long (0 : Int64)), (6, .long s0), (10, .long s0), (0, .ref h_t), (1, .long a1), (3, .int a3), (8, .int v8)]) hx hb dX2_least_84 hl (by decide) rfl (fun ls hl => ?_)
      exact hw_86 _ hk_11 (0 : Int64) s0 v8 s0 hf _ _ hP hD hS _ (lv_sub hl [3, 4, 5, 0, 1, 6, 2] rfl)
  have hw_11 : ∀  (n : Nat) (v4 : Int64) (v6 : Int64) (v8 : Int32), lp_X2_least_11 t_there t_rules_whens_size t_rules_whens_kept t_rules_thens_size t_rules_thens_kept t_rules_grades a1 a3 n v4 v6 v8 = some o → ∀ (H : Heap) (locs : List Loc), va_P G.1 vwCl [(h_t, .inr (2, [.ref h_t_always, .ref h_t_rules, .ref h_t_facts, .ref h_t_guesses, .long t_there, .long t_ground])), (h_t_rules, .inr (4, [.ref h_t_rules_whens, .ref h_t_rules_thens, .ref h_t_rules_grades, .int t_rules_quarrel])), (h_t_rules_whens, .inr (5, [.ref h_t_rules_whens_kept, .int t_rules_whens_most, .int t_rules_whens_size])), (h_t_rules_whens_kept, .inl (G.2.1.2.2, 9, .inr (.inl t_rules_whens_kept))), (h_t_rules_thens, .inr (5, [.ref h_t_rules_thens_kept, .int t_rules_thens_most, .int t_rules_thens_size])), (h_t_rules_thens_kept, .inl (G.2.1.2.2, 9, .inr (.inl t_rules_thens_kept))), (h_t_rules_grades, .inl (G.2.1.2.1, 9, .inl t_rules_grades))] H → va_D A [(h_t, .inr (2, [.ref h_t_always, .ref h_t_rules, .ref h_t_facts, .ref h_t_guesses, .long t_there, .long t_ground])), (h_t_rules, .inr (4, [.ref h_t_rules_whens, .ref h_t_rules_thens, .ref h_t_rules_grades, .int t_rules_quarrel])), (h_t_rules_whens, .inr (5, [.ref h_t_rules_whens_kept, .int t_rules_whens_most, .int t_rules_whens_size])), (h_t_rules_whens_kept, .inl (G.2.1.2.2, 9, .inr (.inl t_rules_whens_kept))), (h_t_rules_thens, .inr (5, [.ref h_t_rules_thens_kept, .int t_rules_thens_most, .int t_rules_thens_size])), (h_t_rules_thens_kept, .inl (G.2.1.2.2, 9, .inr (.inl t_rules_thens_kept))), (h_t_rules_grades, .inl (G.2.1.2.1, 9, .inl t_rules_grades))] → va_S A s.heap H locs → ∀ (ls : Array Slot), lv_has ls 12 [(0, .ref h_t), (1, .long a1), (3, .int a3), (4, .long v4), (6, .long v6), (8, .int v8)] → W p l e (headSpec wsX2_least ({ frames := 3, cells := 0, slots := 0, locals := 67 } : Room)).room s m ([.ref h_t, .long a1, .int a3] : List Value).toArray below meth c H locs 0 0 (MQ below (qcL Unit G o (fun _ => True) (fun _ => [(h_t, .inr (2, [.ref h_t_always, .ref h_t_rules, .ref h_t_facts, .ref h_t_guesses, .long t_there, .long t_ground])), (h_t_rules, .inr (4, [.ref h_t_rules_whens, .ref h_t_rules_thens, .ref h_t_rules_grades, .int t_rules_quarrel])), (h_t_rules_whens, .inr (5, [.ref h_t_rules_whens_kept, .int t_rules_whens_most, .int t_rules_whens_size])), (h_t_rules_whens_kept, .inl (G.2.1.2.2, 9, .inr (.inl t_rules_whens_kept))), (h_t_rules_thens, .inr (5, [.ref h_t_rules_thens_kept, .int t_rules_thens_most, .int t_rules_thens_size])), (h_t_rules_thens_kept, .inl (G.2.1.2.2, 9, .inr (.inl t_rules_thens_kept))), (h_t_rules_grades, .inl (G.2.1.2.1, 9, .inl t_rules_grades))]) A) ([.ref h_t, .long a1, .int a3] : List Value).toArray s 0 0 A) (F0 m 11 ls []) := by
    intro n
    induction n with
    | zero =>
      intro v4 v6 v8 hf
      exact absurd hf (by rw [lp_X2_least_11]; intro h; cases h)
    | succ n ih =>
      intro v4 v6 v8 hf H locs hP hD hS ls hl
      rw [lp_X2_least_11] at hf
      refine lv_iload hx hb dX2_least_11 (lv_at hl 5 rfl) ?_
      refine lv_bipush (v := (64 : Int32)) hx hb dX2_least_13 (by decide) ?_
      refine lv_icmp_ge (tgt := 109) hx hb dX2_least_15 (by decide) (fun c6 => ?_) (fun c6 => ?_)
      · have hf := it_t c6 hf
        refine lv_lload hx hb dX2_least_109 (lv_at hl 3 rfl) ?_
        rw [← Option.some.inj hf]
        exact rt_l (u := ()) hx hb hr hlocks hP hD trivial hS dX2_least_111
      · have hf := it_f c6 hf
        refine lv_aload_n hx hb dX2_least_18 rfl (lv_at hl 0 rfl) ?_
        refine va_get (D := G.1) (ci := 2) (v := .long t_there) (C := RX2) (T := TX2) (N := 6) hx hb hts hiX2 hown hg.1 hP 0 rfl rfl 4 (by decide) (hts (.fieldLink RX2 35 "AsARule$Items" "there" "J") (by decide +kernel)) (fun _ h9 => h9) rfl dX2_least_19 ?_
        refine lv_lload_n hx hb dX2_least_22 rfl (lv_at hl 1 rfl) ?_
        refine lv_land hx hb dX2_least_23 ?_
        refine lv_iload hx hb dX2_least_24 (lv_at hl 5 rfl) ?_
        obtain ⟨o7, ho7, hf⟩ := bd_e hf
        refine af0_i (va_runSN (As := [.long (t_there &&& a1), .int v8]) (rest := []) ⟨hx, hb, hml, hown, hts⟩ (c_X7_holds l G H.size (t_there &&& a1) v8 o7 ho7) ⟨va_cnB (host := "AsARule") 2 hts gX2_least_X7_holds_n63 rfl rfl rfl (hg.2 _ (List.mem_of_getElem? (i := 3) rfl)) (hts (.initialized RX7) (by decide +kernel)) (by decide +kernel) ⟨Nat.le_of_ble_eq_true rfl, Nat.le_of_ble_eq_true rfl⟩, (hts (.static yX7_holds) (by decide +kernel)), trivial⟩ (pcA_pre hg hc hP hD hS hA [] rfl rfl [.long (t_there &&& a1), .int v8]) rfl rfl hl.1 rfl (lv_room (Nat.le_of_ble_eq_true rfl)) dX2_least_26 ⟨Nat.zero_le _, Nat.zero_le _⟩) hP hD hS hA (fun H locs hP hD hS => ?_)
        refine lv_if_eq (tgt := 103) hx hb dX2_least_29 (by decide) (fun c8 => ?_) (fun c8 => ?_)
        · have hf := it_t c8 hf
          obtain ⟨x9, ex9⟩ : ∃ y : Int32, y = (v8 + (1 : Int32)) := ⟨_, rfl⟩
          have hf := lt_n hf x9 ex9
          refine lv_iinc (v := x9) (lv' := [(8, .int x9), (0, .ref h_t), (1, .long a1), (3, .int a3), (4, .long v4), (6, .long v6)]) hx hb dX2_least_103 hl (k := 5) rfl (by rw [ex9]; rfl) (by decide) rfl (fun ls hl => ?_)
          refine lv_goto (tgt := 11) hx hb dX2_least_106 (by decide) ?_
          exact ih v4 v6 x9 hf _ _ hP hD hS _ (lv_sub hl [1, 2, 3, 4, 5, 0] rfl)
        · have hf := it_f c8 hf
          refine lv_aload_n hx hb dX2_least_32 rfl (lv_at hl 0 rfl) ?_
          refine va_get (D := G.1) (ci := 2) (v := .ref h_t_rules) (C := RX2) (T := TX2) (N := 6) hx hb hts hiX2 hown hg.1 hP 0 rfl rfl 1 (by decide) (hts (.fieldLink RX2 23 "AsARule$Items" "rules" "LAsARule$Rules;") (by decide +kernel)) (fun _ h9 => h9) rfl dX2_least_33 ?_
          refine lv_iload hx hb dX2_least_36 (lv_at hl 5 rfl) ?_
          obtain ⟨o10, ho10, hf⟩ := bd_e hf
          refine af_i (wr := [(h_t, .inr (2, [.ref h_t_always, .ref h_t_rules, .ref h_t_facts, .ref h_t_guesses, .long t_there, .long t_ground])), (h_t_rules_grades, .inl (G.2.1.2.1, 9, .inl t_rules_grades))]) (va_runV (As := [.int v8]) (rest := []) ⟨hx, hb, hml, hown, hts⟩ (c_X4_brokenIn l G h_t_rules h_t_rules_whens h_t_rules_thens h_t_rules_grades h_t_rules_whens_kept h_t_rules_thens_kept H.size t_rules_quarrel t_rules_whens_most t_rules_whens_size t_rules_whens_kept t_rules_thens_most t_rules_thens_size t_rules_thens_kept v8 o10 ho10) (cwV 1 hts gX2_least_X4_brokenIn rfl rfl rfl (by decide +kernel) ⟨Nat.le_of_ble_eq_true rfl, Nat.le_of_ble_eq_true rfl⟩) (pcA_preV hg hc hP hD hS hA [1, 2, 3, 4, 5] rfl (by decide) (q0 := 1) (ci := 4) rfl rfl rfl) rfl rfl hl.1 rfl (lv_room (Nat.le_of_ble_eq_true rfl)) dX2_least_38 ⟨Nat.zero_le _, Nat.zero_le _⟩) hP hD hS hA [1, 2, 3, 4, 5] [0, 6] rfl rfl (by decide) (by decide) (fun _ H locs _ hP hD hS => ?_)
          have hP : va_P G.1 vwCl [(h_t, .inr (2, [.ref h_t_always, .ref h_t_rules, .ref h_t_facts, .ref h_t_guesses, .long t_there, .long t_ground])), (h_t_rules, .inr (4, [.ref h_t_rules_whens, .ref h_t_rules_thens, .ref h_t_rules_grades, .int t_rules_quarrel])), (h_t_rules_whens, .inr (5, [.ref h_t_rules_whens_kept, .int t_rules_whens_most, .int t_rules_whens_size])), (h_t_rules_whens_kept, .inl (G.2.1.2.2, 9, .inr (.inl t_rules_whens_kept))), (h_t_rules_thens, .inr (5, [.ref h_t_rules_thens_kept, .int t_rules_thens_most, .int t_rules_thens_size])), (h_t_rules_thens_kept, .inl (G.2.1.2.2, 9, .inr (.inl t_rules_thens_kept))), (h_t_rules_grades, .inl (G.2.1.2.1, 9, .inl t_rules_grades))] H := hP.sub [0, 2, 3, 4, 5, 6, 1] rfl
          have hD : va_D A [(h_t, .inr (2, [.ref h_t_always, .ref h_t_rules, .ref h_t_facts, .ref h_t_guesses, .long t_there, .long t_ground])), (h_t_rules, .inr (4, [.ref h_t_rules_whens, .ref h_t_rules_thens, .ref h_t_rules_grades, .int t_rules_quarrel])), (h_t_rules_whens, .inr (5, [.ref h_t_rules_whens_kept, .int t_rules_whens_most, .int t_rules_whens_size])), (h_t_rules_whens_kept, .inl (G.2.1.2.2, 9, .inr (.inl t_rules_whens_kept))), (h_t_rules_thens, .inr (5, [.ref h_t_rules_thens_kept, .int t_rules_thens_most, .int t_rules_thens_size])), (h_t_rules_thens_kept, .inl (G.2.1.2.2, 9, .inr (.inl t_rules_thens_kept))), (h_t_rules_grades, .inl (G.2.1.2.1, 9, .inl t_rules_grades))] := hD.sub [0, 2, 3, 4, 5, 6, 1] (by decide) rfl
          refine lv_istore (lv' := [(9, .int o10), (0, .ref h_t), (1, .long a1), (3, .int a3), (4, .long v4), (6, .long v6), (8, .int v8)]) hx hb dX2_least_41 hl (by decide) rfl (fun ls hl => ?_)
          refine lv_iload_n hx hb dX2_least_43 rfl (lv_at hl 3 rfl) ?_
          refine lv_if_ne (tgt := 60) hx hb dX2_least_44 (by decide) (fun c11 => ?_) (fun c11 => ?_)
          · have hf := it_f c11 hf
            refine lv_aload_n hx hb dX2_least_60 rfl (lv_at hl 1 rfl) ?_
            refine va_get (D := G.1) (ci := 2) (v := .ref h_t_rules) (C := RX2) (T := TX2) (N := 6) hx hb hts hiX2 hown hg.1 hP 0 rfl rfl 1 (by decide) (hts (.fieldLink RX2 23 "AsARule$Items" "rules" "LAsARule$Rules;") (by decide +kernel)) (fun _ h9 => h9) rfl dX2_least_61 ?_
            refine lv_iload hx hb dX2_least_64 (lv_at hl 0 rfl) ?_
            obtain ⟨o12, ho12, hf⟩ := bd_e hf
            refine af_l (wr := [(h_t, .inr (2, [.ref h_t_always, .ref h_t_rules, .ref h_t_facts, .ref h_t_guesses, .long t_there, .long t_ground])), (h_t_rules_whens_kept, .inl (G.2.1.2.2, 9, .inr (.inl t_rules_whens_kept))), (h_t_rules_thens, .inr (5, [.ref h_t_rules_thens_kept, .int t_rules_thens_most, .int t_rules_thens_size])), (h_t_rules_thens_kept, .inl (G.2.1.2.2, 9, .inr (.inl t_rules_thens_kept)))]) (va_runV (As := [.int o10]) (rest := []) ⟨hx, hb, hml, hown, hts⟩ (c_X4_tallyOf l G h_t_rules h_t_rules_whens h_t_rules_thens h_t_rules_grades h_t_rules_whens_kept H.size t_rules_quarrel t_rules_whens_most t_rules_whens_size t_rules_grades o10 o12 ho12) (cwV 1 hts gX2_least_X4_tallyOf rfl rfl rfl (by decide +kernel) ⟨Nat.le_of_ble_eq_true rfl, Nat.le_of_ble_eq_true rfl⟩) (pcA_preV hg hc hP hD hS hA [1, 2, 6] rfl (by decide) (q0 := 1) (ci := 4) rfl rfl rfl) rfl rfl hl.1 rfl (lv_room (Nat.le_of_ble_eq_true rfl)) dX2_least_66 ⟨Nat.zero_le _, Nat.zero_le _⟩) hP hD hS hA [1, 2, 6] [0, 3, 4, 5] rfl rfl (by decide) (by decide) (fun _ H locs _ hP hD hS => ?_)
            have hP : va_P G.1 vwCl [(h_t, .inr (2, [.ref h_t_always, .ref h_t_rules, .ref h_t_facts, .ref h_t_guesses, .long t_there, .long t_ground])), (h_t_rules, .inr (4, [.ref h_t_rules_whens, .ref h_t_rules_thens, .ref h_t_rules_grades, .int t_rules_quarrel])), (h_t_rules_whens, .inr (5, [.ref h_t_rules_whens_kept, .int t_rules_whens_most, .int t_rules_whens_size])), (h_t_rules_whens_kept, .inl (G.2.1.2.2, 9, .inr (.inl t_rules_whens_kept))), (h_t_rules_thens, .inr (5, [.ref h_t_rules_thens_kept, .int t_rules_thens_most, .int t_rules_thens_size])), (h_t_rules_thens_kept, .inl (G.2.1.2.2, 9, .inr (.inl t_rules_thens_kept))), (h_t_rules_grades, .inl (G.2.1.2.1, 9, .inl t_rules_grades))] H := hP.sub [0, 4, 5, 1, 2, 3, 6] rfl
            have hD : va_D A [(h_t, .inr (2, [.ref h_t_always, .ref h_t_rules, .ref h_t_facts, .ref h_t_guesses, .long t_there, .long t_ground])), (h_t_rules, .inr (4, [.ref h_t_rules_whens, .ref h_t_rules_thens, .ref h_t_rules_grades, .int t_rules_quarrel])), (h_t_rules_whens, .inr (5, [.ref h_t_rules_whens_kept, .int t_rules_whens_most, .int t_rules_whens_size])), (h_t_rules_whens_kept, .inl (G.2.1.2.2, 9, .inr (.inl t_rules_whens_kept))), (h_t_rules_thens, .inr (5, [.ref h_t_rules_thens_kept, .int t_rules_thens_most, .int t_rules_thens_size])), (h_t_rules_thens_kept, .inl (G.2.1.2.2, 9, .inr (.inl t_rules_thens_kept))), (h_t_rules_grades, .inl (G.2.1.2.1, 9, .inl t_rules_grades))] := hD.sub [0, 4, 5, 1, 2, 3, 6] (by decide) rfl
            exact hw_69 _ ih v4 v6 v8 o12 hf _ _ hP hD hS _ (lv_sub hl [1, 2, 3, 4, 5, 6] rfl)
          · have hf := it_t c11 hf
            refine lv_aload_n hx hb dX2_least_47 rfl (lv_at hl 1 rfl) ?_
            refine va_get (D := G.1) (ci := 2) (v := .ref h_t_rules) (C := RX2) (T := TX2) (N := 6) hx hb hts hiX2 hown hg.1 hP 0 rfl rfl 1 (by decide) (hts (.fieldLink RX2 23 "AsARule$Items" "rules" "LAsARule$Rules;") (by decide +kernel)) (fun _ h9 => h9) rfl dX2_least_48 ?_
            refine lv_iload hx hb dX2_least_51 (lv_at hl 0 rfl) ?_
            obtain ⟨o13, ho13, hf⟩ := bd_e hf
            refine af_i (wr := [(h_t, .inr (2, [.ref h_t_always, .ref h_t_rules, .ref h_t_facts, .ref h_t_guesses, .long t_there, .long t_ground])), (h_t_rules_whens_kept, .inl (G.2.1.2.2, 9, .inr (.inl t_rules_whens_kept))), (h_t_rules_thens, .inr (5, [.ref h_t_rules_thens_kept, .int t_rules_thens_most, .int t_rules_thens_size])), (h_t_rules_thens_kept, .inl (G.2.1.2.2, 9, .inr (.inl t_rules_thens_kept)))]) (va_runV (As := [.int o10]) (rest := []) ⟨hx, hb, hml, hown, hts⟩ (c_X4_rankOf l G h_t_rules h_t_rules_whens h_t_rules_thens h_t_rules_grades h_t_rules_whens_kept H.size t_rules_quarrel t_rules_whens_most t_rules_whens_size t_rules_grades o10 o13 ho13) (cwV 1 hts gX2_least_X4_rankOf rfl rfl rfl (by decide +kernel) ⟨Nat.le_of_ble_eq_true rfl, Nat.le_of_ble_eq_true rfl⟩) (pcA_preV hg hc hP hD hS hA [1, 2, 6] rfl (by decide) (q0 := 1) (ci := 4) rfl rfl rfl) rfl rfl hl.1 rfl (lv_room (Nat.le_of_ble_eq_true rfl)) dX2_least_53 ⟨Nat.zero_le _, Nat.zero_le _⟩) hP hD hS hA [1, 2, 6] [0, 3, 4, 5] rfl rfl (by decide) (by decide) (fun _ H locs _ hP hD hS => ?_)
            have hP : va_P G.1 vwCl [(h_t, .inr (2, [.ref h_t_always, .ref h_t_rules, .ref h_t_facts, .ref h_t_guesses, .long t_there, .long t_ground])), (h_t_rules, .inr (4, [.ref h_t_rules_whens, .ref h_t_rules_thens, .ref h_t_rules_grades, .int t_rules_quarrel])), (h_t_rules_whens, .inr (5, [.ref h_t_rules_whens_kept, .int t_rules_whens_most, .int t_rules_whens_size])), (h_t_rules_whens_kept, .inl (G.2.1.2.2, 9, .inr (.inl t_rules_whens_kept))), (h_t_rules_thens, .inr (5, [.ref h_t_rules_thens_kept, .int t_rules_thens_most, .int t_rules_thens_size])), (h_t_rules_thens_kept, .inl (G.2.1.2.2, 9, .inr (.inl t_rules_thens_kept))), (h_t_rules_grades, .inl (G.2.1.2.1, 9, .inl t_rules_grades))] H := hP.sub [0, 4, 5, 1, 2, 3, 6] rfl
            have hD : va_D A [(h_t, .inr (2, [.ref h_t_always, .ref h_t_rules, .ref h_t_facts, .ref h_t_guesses, .long t_there, .long t_ground])), (h_t_rules, .inr (4, [.ref h_t_rules_whens, .ref h_t_rules_thens, .ref h_t_rules_grades, .int t_rules_quarrel])), (h_t_rules_whens, .inr (5, [.ref h_t_rules_whens_kept, .int t_rules_whens_most, .int t_rules_whens_size])), (h_t_rules_whens_kept, .inl (G.2.1.2.2, 9, .inr (.inl t_rules_whens_kept))), (h_t_rules_thens, .inr (5, [.ref h_t_rules_thens_kept, .int t_rules_thens_most, .int t_rules_thens_size])), (h_t_rules_thens_kept, .inl (G.2.1.2.2, 9, .inr (.inl t_rules_thens_kept))), (h_t_rules_grades, .inl (G.2.1.2.1, 9, .inl t_rules_grades))] := hD.sub [0, 4, 5, 1, 2, 3, 6] (by decide) rfl
            refine lv_i2l (v := (o13).toInt64) hx hb dX2_least_56 rfl ?_
            refine lv_goto (tgt := 69) hx hb dX2_least_57 (by decide) ?_
            exact hw_69 _ ih v4 v6 v8 ((o13).toInt64) hf _ _ hP hD hS _ (lv_sub hl [1, 2, 3, 4, 5, 6] rfl)
  unfold f_X2_least at hf
  refine en (fun H locs hP hD hS => ?_) hP hD
  refine lv_lconst (v := (0 : Int64)) hx hb dX2_least_0 (by decide) ?_
  refine lv_lstore (lv' := [(4, .long (0 : Int64)), (0, .ref h_t), (1, .long a1), (3, .int a3)]) hx hb dX2_least_1 hl (by decide) rfl (fun ls hl => ?_)
  refine lv_ldc2 (v := (9223372036854775807 : Int64)) hx hb hown (hts (.constantLong RX2 76 (9223372036854775807 : Int64)) (by decide +kernel)) dX2_least_3 ?_
  refine lv_lstore (lv' := [(6, .long (9223372036854775807 : Int64)), (4, .long (0 : Int64)), (0, .ref h_t), (1, .long a1), (3, .int a3)]) hx hb dX2_least_6 hl (by decide) rfl (fun ls hl => ?_)
  refine lv_iconst (v := (0 : Int32)) hx hb dX2_least_8 (by decide) ?_
  refine lv_istore (lv' := [(8, .int (0 : Int32)), (6, .long (9223372036854775807 : Int64)), (4, .long (0 : Int64)), (0, .ref h_t), (1, .long a1), (3, .int a3)]) hx hb dX2_least_9 hl (by decide) rfl (fun ls hl => ?_)
  exact hw_11 fu (0 : Int64) (9223372036854775807 : Int64) (0 : Int32) hf _ _ hP hD hS _ (lv_sub hl [3, 4, 5, 2, 1, 0] rfl)
-- method X2_guessed
def lp_X2_guessed_8 (t_ground : Int64) (t_guesses_size : Int32) (t_guesses_kept : Nat → Int64) (a1 : Int32) : Nat → Int64 → Int32 → Option (Int64)
  | 0, _, _ => none
  | n + 1, v2, v4 => bd (f_X5_size t_guesses_size) (fun o1 => if o1 ≤ v4 then some (v2) else bd (f_X7_inSet a1 v4) (fun o3 => if o3 = (0 : Int32) then lt (v4 + (1 : Int32)) (fun x5 => lp_X2_guessed_8 t_ground t_guesses_size t_guesses_kept a1 n v2 x5) else bd (f_X5_get t_guesses_size t_guesses_kept v4) (fun o6 => lt (v2 &&& o6) (fun x7 => lt (v4 + (1 : Int32)) (fun x8 => lp_X2_guessed_8 t_ground t_guesses_size t_guesses_kept a1 n x7 x8)))))
def f_X2_guessed (t_ground : Int64) (t_guesses_size : Int32) (t_guesses_kept : Nat → Int64) (a1 : Int32) : Option (Int64) :=
  lp_X2_guessed_8 t_ground t_guesses_size t_guesses_kept a1 fu t_ground (0 : Int32)
set_option maxHeartbeats 4000000 in
set_option maxRecDepth 100000 in
theorem c_X2_guessed (l : Launch) (G : GG) (h_t h_t_always h_t_rules h_t_facts h_t_guesses h_t_guesses_kept : Nat) (sz : Nat) (t_there : Int64) (t_ground : Int64) (t_guesses_most : Int32) (t_guesses_size : Int32) (t_guesses_kept : Nat → Int64) (a1 : Int32) (o : Int64) (ho : f_X2_guessed t_ground t_guesses_size t_guesses_kept a1 = some o)  : Met l yX2_guessed wsX2_guessed ({ frames := 1, cells := 0, slots := 0, locals := 21 } : Room) (pcA G [.ref h_t, .int a1] [(h_t, .inr (2, [.ref h_t_always, .ref h_t_rules, .ref h_t_facts, .ref h_t_guesses, .long t_there, .long t_ground])), (h_t_guesses, .inr (5, [.ref h_t_guesses_kept, .int t_guesses_most, .int t_guesses_size])), (h_t_guesses_kept, .inl (G.2.1.2.2, 9, .inr (.inl t_guesses_kept)))] sz) (qcL Unit G o (fun _ => True) (fun _ => [(h_t, .inr (2, [.ref h_t_always, .ref h_t_rules, .ref h_t_facts, .ref h_t_guesses, .long t_there, .long t_ground])), (h_t_guesses, .inr (5, [.ref h_t_guesses_kept, .int t_guesses_most, .int t_guesses_size])), (h_t_guesses_kept, .inl (G.2.1.2.2, 9, .inr (.inl t_guesses_kept)))]) (va_A [(h_t, .inr (2, [.ref h_t_always, .ref h_t_rules, .ref h_t_facts, .ref h_t_guesses, .long t_there, .long t_ground])), (h_t_guesses, .inr (5, [.ref h_t_guesses_kept, .int t_guesses_most, .int t_guesses_size])), (h_t_guesses_kept, .inl (G.2.1.2.2, 9, .inr (.inl t_guesses_kept)))] sz)) 0 0 (va_A [(h_t, .inr (2, [.ref h_t_always, .ref h_t_rules, .ref h_t_facts, .ref h_t_guesses, .long t_there, .long t_ground])), (h_t_guesses, .inr (5, [.ref h_t_guesses_kept, .int t_guesses_most, .int t_guesses_size])), (h_t_guesses_kept, .inl (G.2.1.2.2, 9, .inr (.inl t_guesses_kept)))] sz) := by
  refine Met.ofW (cc := cX2_guessed) (maxL := 5) (ret := (some .long)) (by decide) rfl ?_
  intro p e s m args below meth c s₁ B hml hv
  obtain ⟨rfl, hsz, hP, hg, hD0, hc⟩ := hv
  have hx := B.exec
  have hb := B.bytes
  have hr := B.returns
  have hts := atoms_spec (ws := wsX2_guessed) B.pre
  have hown : s.vm.findClass RX2 = some m.cls := findClass_of_methodNamed B.named
  have hlocks := B.notSynchronized
  subst hsz
  have hD := hD0.self (sz := s.heap.size)
  generalize hAe : va_A [(h_t, .inr (2, [.ref h_t_always, .ref h_t_rules, .ref h_t_facts, .ref h_t_guesses, .long t_there, .long t_ground])), (h_t_guesses, .inr (5, [.ref h_t_guesses_kept, .int t_guesses_most, .int t_guesses_size])), (h_t_guesses_kept, .inl (G.2.1.2.2, 9, .inr (.inl t_guesses_kept)))] s.heap.size = A at hD hc ⊢
  have hA : ∀ q : Nat, s.heap.size ≤ q → A q := fun q h => by rw [← hAe]; exact Or.inr h
  have hiX2 : ∀ w ∈ wsX20, w ∈ wsX2_guessed := by decide +kernel
  have hl := lv_entry ([.ref h_t, .int a1]) (n := 5) (Nat.le_of_ble_eq_true rfl)
  rw [lg_entry_eq]
  generalize (lg_sl ([.ref h_t, .int a1]) ++ List.replicate (5 - (lg_sl ([.ref h_t, .int a1])).length) Slot.unset).toArray = ls at hl ⊢
  have hl : lv_has ls 5 [(0, .ref h_t), (1, .int a1)] := hl
  have hf := ho
  have hw_8 : ∀  (n : Nat) (v2 : Int64) (v4 : Int32), lp_X2_guessed_8 t_ground t_guesses_size t_guesses_kept a1 n v2 v4 = some o → ∀ (H : Heap) (locs : List Loc), va_P G.1 vwCl [(h_t, .inr (2, [.ref h_t_always, .ref h_t_rules, .ref h_t_facts, .ref h_t_guesses, .long t_there, .long t_ground])), (h_t_guesses, .inr (5, [.ref h_t_guesses_kept, .int t_guesses_most, .int t_guesses_size])), (h_t_guesses_kept, .inl (G.2.1.2.2, 9, .inr (.inl t_guesses_kept)))] H → va_D A [(h_t, .inr (2, [.ref h_t_always, .ref h_t_rules, .ref h_t_facts, .ref h_t_guesses, .long t_there, .long t_ground])), (h_t_guesses, .inr (5, [.ref h_t_guesses_kept, .int t_guesses_most, .int t_guesses_size])), (h_t_guesses_kept, .inl (G.2.1.2.2, 9, .inr (.inl t_guesses_kept)))] → va_S A s.heap H locs → ∀ (ls : Array Slot), lv_has ls 5 [(0, .ref h_t), (1, .int a1), (2, .long v2), (4, .int v4)] → W p l e (headSpec wsX2_guessed ({ frames := 1, cells := 0, slots := 0, locals := 21 } : Room)).room s m ([.ref h_t, .int a1] : List Value).toArray below meth c H locs 0 0 (MQ below (qcL Unit G o (fun _ => True) (fun _ => [(h_t, .inr (2, [.ref h_t_always, .ref h_t_rules, .ref h_t_facts, .ref h_t_guesses, .long t_there, .long t_ground])), (h_t_guesses, .inr (5, [.ref h_t_guesses_kept, .int t_guesses_most, .int t_guesses_size])), (h_t_guesses_kept, .inl (G.2.1.2.2, 9, .inr (.inl t_guesses_kept)))]) A) ([.ref h_t, .int a1] : List Value).toArray s 0 0 A) (F0 m 8 ls []) := by
    intro n
    induction n with
    | zero =>
      intro v2 v4 hf
      exact absurd hf (by rw [lp_X2_guessed_8]; intro h; cases h)
    | succ n ih =>
      intro v2 v4 hf H locs hP hD hS ls hl
      rw [lp_X2_guessed_8] at hf
      refine lv_iload hx hb dX2_guessed_8 (lv_at hl 3 rfl) ?_
      refine lv_aload_n hx hb dX2_guessed_10 rfl (lv_at hl 0 rfl) ?_
      refine va_get (D := G.1) (ci := 2) (v := .ref h_t_guesses) (C := RX2) (T := TX2) (N := 6) hx hb hts hiX2 hown hg.1 hP 0 rfl rfl 3 (by decide) (hts (.fieldLink RX2 30 "AsARule$Items" "guesses" "LAsARule$Sayings;") (by decide +kernel)) (fun _ h9 => h9) rfl dX2_guessed_11 ?_
      obtain ⟨o1, ho1, hf⟩ := bd_e hf
      refine af_i (wr := [(h_t, .inr (2, [.ref h_t_always, .ref h_t_rules, .ref h_t_facts, .ref h_t_guesses, .long t_there, .long t_ground])), (h_t_guesses_kept, .inl (G.2.1.2.2, 9, .inr (.inl t_guesses_kept)))]) (va_runV (As := []) (rest := [.int v4]) ⟨hx, hb, hml, hown, hts⟩ (c_X5_size l G h_t_guesses h_t_guesses_kept H.size t_guesses_most t_guesses_size o1 ho1) (cwV 0 hts gX2_guessed_X5_size rfl rfl rfl (by decide +kernel) ⟨Nat.le_of_ble_eq_true rfl, Nat.le_of_ble_eq_true rfl⟩) (pcA_preV hg hc hP hD hS hA [1] rfl (by decide) (q0 := 1) (ci := 5) rfl rfl rfl) rfl rfl hl.1 rfl (lv_room (Nat.le_of_ble_eq_true rfl)) dX2_guessed_14 ⟨Nat.zero_le _, Nat.zero_le _⟩) hP hD hS hA [1] [0, 2] rfl rfl (by decide) (by decide) (fun _ H locs _ hP hD hS => ?_)
      have hP : va_P G.1 vwCl [(h_t, .inr (2, [.ref h_t_always, .ref h_t_rules, .ref h_t_facts, .ref h_t_guesses, .long t_there, .long t_ground])), (h_t_guesses, .inr (5, [.ref h_t_guesses_kept, .int t_guesses_most, .int t_guesses_size])), (h_t_guesses_kept, .inl (G.2.1.2.2, 9, .inr (.inl t_guesses_kept)))] H := hP.sub [0, 2, 1] rfl
      have hD : va_D A [(h_t, .inr (2, [.ref h_t_always, .ref h_t_rules, .ref h_t_facts, .ref h_t_guesses, .long t_there, .long t_ground])), (h_t_guesses, .inr (5, [.ref h_t_guesses_kept, .int t_guesses_most, .int t_guesses_size])), (h_t_guesses_kept, .inl (G.2.1.2.2, 9, .inr (.inl t_guesses_kept)))] := hD.sub [0, 2, 1] (by decide) rfl
      refine lv_icmp_ge (tgt := 47) hx hb dX2_guessed_17 (by decide) (fun c2 => ?_) (fun c2 => ?_)
      · have hf := it_t c2 hf
        refine lv_lload_n hx hb dX2_guessed_47 rfl (lv_at hl 2 rfl) ?_
        rw [← Option.some.inj hf]
        exact rt_l (u := ()) hx hb hr hlocks hP hD trivial hS dX2_guessed_48
      · have hf := it_f c2 hf
        refine lv_iload_n hx hb dX2_guessed_20 rfl (lv_at hl 1 rfl) ?_
        refine lv_iload hx hb dX2_guessed_21 (lv_at hl 3 rfl) ?_
        obtain ⟨o3, ho3, hf⟩ := bd_e hf
        refine af0_i (va_runSN (As := [.int a1, .int v4]) (rest := []) ⟨hx, hb, hml, hown, hts⟩ (c_X7_inSet l G H.size a1 v4 o3 ho3) ⟨va_cnB (host := "AsARule") 2 hts gX2_guessed_X7_inSet_n88 rfl rfl rfl (hg.2 _ (List.mem_of_getElem? (i := 5) rfl)) (hts (.initialized RX7) (by decide +kernel)) (by decide +kernel) ⟨Nat.le_of_ble_eq_true rfl, Nat.le_of_ble_eq_true rfl⟩, (hts (.static yX7_inSet) (by decide +kernel)), trivial⟩ (pcA_pre hg hc hP hD hS hA [] rfl rfl [.int a1, .int v4]) rfl rfl hl.1 rfl (lv_room (Nat.le_of_ble_eq_true rfl)) dX2_guessed_23 ⟨Nat.zero_le _, Nat.zero_le _⟩) hP hD hS hA (fun H locs hP hD hS => ?_)
        refine lv_if_eq (tgt := 41) hx hb dX2_guessed_26 (by decide) (fun c4 => ?_) (fun c4 => ?_)
        · have hf := it_t c4 hf
          obtain ⟨x5, ex5⟩ : ∃ y : Int32, y = (v4 + (1 : Int32)) := ⟨_, rfl⟩
          have hf := lt_n hf x5 ex5
          refine lv_iinc (v := x5) (lv' := [(4, .int x5), (0, .ref h_t), (1, .int a1), (2, .long v2)]) hx hb dX2_guessed_41 hl (k := 3) rfl (by rw [ex5]; rfl) (by decide) rfl (fun ls hl => ?_)
          refine lv_goto (tgt := 8) hx hb dX2_guessed_44 (by decide) ?_
          exact ih v2 x5 hf _ _ hP hD hS _ (lv_sub hl [1, 2, 3, 0] rfl)
        · have hf := it_f c4 hf
          refine lv_lload_n hx hb dX2_guessed_29 rfl (lv_at hl 2 rfl) ?_
          refine lv_aload_n hx hb dX2_guessed_30 rfl (lv_at hl 0 rfl) ?_
          refine va_get (D := G.1) (ci := 2) (v := .ref h_t_guesses) (C := RX2) (T := TX2) (N := 6) hx hb hts hiX2 hown hg.1 hP 0 rfl rfl 3 (by decide) (hts (.fieldLink RX2 30 "AsARule$Items" "guesses" "LAsARule$Sayings;") (by decide +kernel)) (fun _ h9 => h9) rfl dX2_guessed_31 ?_
          refine lv_iload hx hb dX2_guessed_34 (lv_at hl 3 rfl) ?_
          obtain ⟨o6, ho6, hf⟩ := bd_e hf
          refine af_l (wr := [(h_t, .inr (2, [.ref h_t_always, .ref h_t_rules, .ref h_t_facts, .ref h_t_guesses, .long t_there, .long t_ground]))]) (va_runV (As := [.int v4]) (rest := [.long v2]) ⟨hx, hb, hml, hown, hts⟩ (c_X5_get l G h_t_guesses h_t_guesses_kept H.size t_guesses_most t_guesses_size t_guesses_kept v4 o6 ho6) (cwV 1 hts gX2_guessed_X5_get rfl rfl rfl (by decide +kernel) ⟨Nat.le_of_ble_eq_true rfl, Nat.le_of_ble_eq_true rfl⟩) (pcA_preV hg hc hP hD hS hA [1, 2] rfl (by decide) (q0 := 1) (ci := 5) rfl rfl rfl) rfl rfl hl.1 rfl (lv_room (Nat.le_of_ble_eq_true rfl)) dX2_guessed_36 ⟨Nat.zero_le _, Nat.zero_le _⟩) hP hD hS hA [1, 2] [0] rfl rfl (by decide) (by decide) (fun _ H locs _ hP hD hS => ?_)
          have hP : va_P G.1 vwCl [(h_t, .inr (2, [.ref h_t_always, .ref h_t_rules, .ref h_t_facts, .ref h_t_guesses, .long t_there, .long t_ground])), (h_t_guesses, .inr (5, [.ref h_t_guesses_kept, .int t_guesses_most, .int t_guesses_size])), (h_t_guesses_kept, .inl (G.2.1.2.2, 9, .inr (.inl t_guesses_kept)))] H := hP
          have hD : va_D A [(h_t, .inr (2, [.ref h_t_always, .ref h_t_rules, .ref h_t_facts, .ref h_t_guesses, .long t_there, .long t_ground])), (h_t_guesses, .inr (5, [.ref h_t_guesses_kept, .int t_guesses_most, .int t_guesses_size])), (h_t_guesses_kept, .inl (G.2.1.2.2, 9, .inr (.inl t_guesses_kept)))] := hD
          refine lv_land hx hb dX2_guessed_39 ?_
          refine lv_topl (fun x7 ex7 => ?_)
          have hf := lt_n hf x7 ex7
          refine lv_lstore_n (lv' := [(2, .long x7), (0, .ref h_t), (1, .int a1), (4, .int v4)]) hx hb dX2_guessed_40 rfl hl (by decide) rfl (fun ls hl => ?_)
          obtain ⟨x8, ex8⟩ : ∃ y : Int32, y = (v4 + (1 : Int32)) := ⟨_, rfl⟩
          have hf := lt_n hf x8 ex8
          refine lv_iinc (v := x8) (lv' := [(4, .int x8), (2, .long x7), (0, .ref h_t), (1, .int a1)]) hx hb dX2_guessed_41 hl (k := 3) rfl (by rw [ex8]; rfl) (by decide) rfl (fun ls hl => ?_)
          refine lv_goto (tgt := 8) hx hb dX2_guessed_44 (by decide) ?_
          exact ih x7 x8 hf _ _ hP hD hS _ (lv_sub hl [2, 3, 1, 0] rfl)
  unfold f_X2_guessed at hf
  refine en (fun H locs hP hD hS => ?_) hP hD
  refine lv_aload_n hx hb dX2_guessed_0 rfl (lv_at hl 0 rfl) ?_
  refine va_get (D := G.1) (ci := 2) (v := .long t_ground) (C := RX2) (T := TX2) (N := 6) hx hb hts hiX2 hown hg.1 hP 0 rfl rfl 5 (by decide) (hts (.fieldLink RX2 39 "AsARule$Items" "ground" "J") (by decide +kernel)) (fun _ h9 => h9) rfl dX2_guessed_1 ?_
  refine lv_lstore_n (lv' := [(2, .long t_ground), (0, .ref h_t), (1, .int a1)]) hx hb dX2_guessed_4 rfl hl (by decide) rfl (fun ls hl => ?_)
  refine lv_iconst (v := (0 : Int32)) hx hb dX2_guessed_5 (by decide) ?_
  refine lv_istore (lv' := [(4, .int (0 : Int32)), (2, .long t_ground), (0, .ref h_t), (1, .int a1)]) hx hb dX2_guessed_6 hl (by decide) rfl (fun ls hl => ?_)
  exact hw_8 fu t_ground (0 : Int32) hf _ _ hP hD hS _ (lv_sub hl [2, 3, 1, 0] rfl)
-- method X2_tellsWhy
def lp_X2_tellsWhy_42 (t_ground : Int64) (t_guesses_size : Int32) (t_guesses_kept : Nat → Int64) (a1 : Int32) (a2 : Int64) : Nat → Int32 → Option (Int32)
  | 0, _ => none
  | n + 1, v6 => bd (f_X5_size t_guesses_size) (fun o1 => if o1 ≤ v6 then some ((1 : Int32)) else bd (f_X7_inSet a1 v6) (fun o3 => if o3 = (0 : Int32) then lt (v6 + (1 : Int32)) (fun x5 => lp_X2_tellsWhy_42 t_ground t_guesses_size t_guesses_kept a1 a2 n x5) else bd (f_X2_guessed t_ground t_guesses_size t_guesses_kept (a1 &&& (((1 : Int32) <<< (v6 &&& 31)) ^^^ (-1 : Int32)))) (fun o6 => bd (f_X7_allIn o6 a2) (fun o7 => if o7 = (0 : Int32) then lt (v6 + (1 : Int32)) (fun x9 => lp_X2_tellsWhy_42 t_ground t_guesses_size t_guesses_kept a1 a2 n x9) else some ((0 : Int32))))))
def f_X2_tellsWhy (t_ground : Int64) (t_guesses_size : Int32) (t_guesses_kept : Nat → Int64) (a1 : Int32) (a2 : Int64) : Option (Int32) :=
  bd (f_X5_size t_guesses_size) (fun o10 => if (ushI a1 o10) = (0 : Int32) then bd (f_X2_guessed t_ground t_guesses_size t_guesses_kept a1) (fun o12 => if o12 = (0 : Int64) then some ((0 : Int32)) else bd (f_X7_allIn o12 a2) (fun o14 => if o14 = (0 : Int32) then some ((0 : Int32)) else lp_X2_tellsWhy_42 t_ground t_guesses_size t_guesses_kept a1 a2 fu (0 : Int32))) else some ((0 : Int32)))
set_option maxHeartbeats 4000000 in
set_option maxRecDepth 100000 in
theorem c_X2_tellsWhy (l : Launch) (G : GG) (h_t h_t_always h_t_rules h_t_facts h_t_guesses h_t_guesses_kept : Nat) (sz : Nat) (t_there : Int64) (t_ground : Int64) (t_guesses_most : Int32) (t_guesses_size : Int32) (t_guesses_kept : Nat → Int64) (a1 : Int32) (a2 : Int64) (o : Int32) (ho : f_X2_tellsWhy t_ground t_guesses_size t_guesses_kept a1 a2 = some o)  : Met l yX2_tellsWhy wsX2_tellsWhy ({ frames := 2, cells := 0, slots := 0, locals := 45 } : Room) (pcA G [.ref h_t, .int a1, .long a2] [(h_t, .inr (2, [.ref h_t_always, .ref h_t_rules, .ref h_t_facts, .ref h_t_guesses, .long t_there, .long t_ground])), (h_t_guesses, .inr (5, [.ref h_t_guesses_kept, .int t_guesses_most, .int t_guesses_size])), (h_t_guesses_kept, .inl (G.2.1.2.2, 9, .inr (.inl t_guesses_kept)))] sz) (qcI Unit G o (fun _ => True) (fun _ => [(h_t, .inr (2, [.ref h_t_always, .ref h_t_rules, .ref h_t_facts, .ref h_t_guesses, .long t_there, .long t_ground])), (h_t_guesses, .inr (5, [.ref h_t_guesses_kept, .int t_guesses_most, .int t_guesses_size])), (h_t_guesses_kept, .inl (G.2.1.2.2, 9, .inr (.inl t_guesses_kept)))]) (va_A [(h_t, .inr (2, [.ref h_t_always, .ref h_t_rules, .ref h_t_facts, .ref h_t_guesses, .long t_there, .long t_ground])), (h_t_guesses, .inr (5, [.ref h_t_guesses_kept, .int t_guesses_most, .int t_guesses_size])), (h_t_guesses_kept, .inl (G.2.1.2.2, 9, .inr (.inl t_guesses_kept)))] sz)) 0 0 (va_A [(h_t, .inr (2, [.ref h_t_always, .ref h_t_rules, .ref h_t_facts, .ref h_t_guesses, .long t_there, .long t_ground])), (h_t_guesses, .inr (5, [.ref h_t_guesses_kept, .int t_guesses_most, .int t_guesses_size])), (h_t_guesses_kept, .inl (G.2.1.2.2, 9, .inr (.inl t_guesses_kept)))] sz) := by
  refine Met.ofW (cc := cX2_tellsWhy) (maxL := 7) (ret := (some .boolean)) (by decide) rfl ?_
  intro p e s m args below meth c s₁ B hml hv
  obtain ⟨rfl, hsz, hP, hg, hD0, hc⟩ := hv
  have hx := B.exec
  have hb := B.bytes
  have hr := B.returns
  have hts := atoms_spec (ws := wsX2_tellsWhy) B.pre
  have hown : s.vm.findClass RX2 = some m.cls := findClass_of_methodNamed B.named
  have hlocks := B.notSynchronized
  subst hsz
  have hD := hD0.self (sz := s.heap.size)
  generalize hAe : va_A [(h_t, .inr (2, [.ref h_t_always, .ref h_t_rules, .ref h_t_facts, .ref h_t_guesses, .long t_there, .long t_ground])), (h_t_guesses, .inr (5, [.ref h_t_guesses_kept, .int t_guesses_most, .int t_guesses_size])), (h_t_guesses_kept, .inl (G.2.1.2.2, 9, .inr (.inl t_guesses_kept)))] s.heap.size = A at hD hc ⊢
  have hA : ∀ q : Nat, s.heap.size ≤ q → A q := fun q h => by rw [← hAe]; exact Or.inr h
  have hiX2 : ∀ w ∈ wsX20, w ∈ wsX2_tellsWhy := by decide +kernel
  have hl := lv_entry ([.ref h_t, .int a1, .long a2]) (n := 7) (Nat.le_of_ble_eq_true rfl)
  rw [lg_entry_eq]
  generalize (lg_sl ([.ref h_t, .int a1, .long a2]) ++ List.replicate (7 - (lg_sl ([.ref h_t, .int a1, .long a2])).length) Slot.unset).toArray = ls at hl ⊢
  have hl : lv_has ls 7 [(0, .ref h_t), (1, .int a1), (2, .long a2)] := hl
  have hf := ho
  have hw_42 : ∀  (n : Nat) (v6 : Int32), lp_X2_tellsWhy_42 t_ground t_guesses_size t_guesses_kept a1 a2 n v6 = some o → ∀ (H : Heap) (locs : List Loc), va_P G.1 vwCl [(h_t, .inr (2, [.ref h_t_always, .ref h_t_rules, .ref h_t_facts, .ref h_t_guesses, .long t_there, .long t_ground])), (h_t_guesses, .inr (5, [.ref h_t_guesses_kept, .int t_guesses_most, .int t_guesses_size])), (h_t_guesses_kept, .inl (G.2.1.2.2, 9, .inr (.inl t_guesses_kept)))] H → va_D A [(h_t, .inr (2, [.ref h_t_always, .ref h_t_rules, .ref h_t_facts, .ref h_t_guesses, .long t_there, .long t_ground])), (h_t_guesses, .inr (5, [.ref h_t_guesses_kept, .int t_guesses_most, .int t_guesses_size])), (h_t_guesses_kept, .inl (G.2.1.2.2, 9, .inr (.inl t_guesses_kept)))] → va_S A s.heap H locs → ∀ (ls : Array Slot), lv_has ls 7 [(0, .ref h_t), (1, .int a1), (2, .long a2), (6, .int v6)] → W p l e (headSpec wsX2_tellsWhy ({ frames := 2, cells := 0, slots := 0, locals := 45 } : Room)).room s m ([.ref h_t, .int a1, .long a2] : List Value).toArray below meth c H locs 0 0 (MQ below (qcI Unit G o (fun _ => True) (fun _ => [(h_t, .inr (2, [.ref h_t_always, .ref h_t_rules, .ref h_t_facts, .ref h_t_guesses, .long t_there, .long t_ground])), (h_t_guesses, .inr (5, [.ref h_t_guesses_kept, .int t_guesses_most, .int t_guesses_size])), (h_t_guesses_kept, .inl (G.2.1.2.2, 9, .inr (.inl t_guesses_kept)))]) A) ([.ref h_t, .int a1, .long a2] : List Value).toArray s 0 0 A) (F0 m 42 ls []) := by
    intro n
    induction n with
    | zero =>
      intro v6 hf
      exact absurd hf (by rw [lp_X2_tellsWhy_42]; intro h; cases h)
    | succ n ih =>
      intro v6 hf H locs hP hD hS ls hl
      rw [lp_X2_tellsWhy_42] at hf
      refine lv_iload hx hb dX2_tellsWhy_42 (lv_at hl 3 rfl) ?_
      refine lv_aload_n hx hb dX2_tellsWhy_44 rfl (lv_at hl 0 rfl) ?_
      refine va_get (D := G.1) (ci := 2) (v := .ref h_t_guesses) (C := RX2) (T := TX2) (N := 6) hx hb hts hiX2 hown hg.1 hP 0 rfl rfl 3 (by decide) (hts (.fieldLink RX2 30 "AsARule$Items" "guesses" "LAsARule$Sayings;") (by decide +kernel)) (fun _ h9 => h9) rfl dX2_tellsWhy_45 ?_
      obtain ⟨o1, ho1, hf⟩ := bd_e hf
      refine af_i (wr := [(h_t, .inr (2, [.ref h_t_always, .ref h_t_rules, .ref h_t_facts, .ref h_t_guesses, .long t_there, .long t_ground])), (h_t_guesses_kept, .inl (G.2.1.2.2, 9, .inr (.inl t_guesses_kept)))]) (va_runV (As := []) (rest := [.int v6]) ⟨hx, hb, hml, hown, hts⟩ (c_X5_size l G h_t_guesses h_t_guesses_kept H.size t_guesses_most t_guesses_size o1 ho1) (cwV 0 hts gX2_tellsWhy_X5_size rfl rfl rfl (by decide +kernel) ⟨Nat.le_of_ble_eq_true rfl, Nat.le_of_ble_eq_true rfl⟩) (pcA_preV hg hc hP hD hS hA [1] rfl (by decide) (q0 := 1) (ci := 5) rfl rfl rfl) rfl rfl hl.1 rfl (lv_room (Nat.le_of_ble_eq_true rfl)) dX2_tellsWhy_48 ⟨Nat.zero_le _, Nat.zero_le _⟩) hP hD hS hA [1] [0, 2] rfl rfl (by decide) (by decide) (fun _ H locs _ hP hD hS => ?_)
      have hP : va_P G.1 vwCl [(h_t, .inr (2, [.ref h_t_always, .ref h_t_rules, .ref h_t_facts, .ref h_t_guesses, .long t_there, .long t_ground])), (h_t_guesses, .inr (5, [.ref h_t_guesses_kept, .int t_guesses_most, .int t_guesses_size])), (h_t_guesses_kept, .inl (G.2.1.2.2, 9, .inr (.inl t_guesses_kept)))] H := hP.sub [0, 2, 1] rfl
      have hD : va_D A [(h_t, .inr (2, [.ref h_t_always, .ref h_t_rules, .ref h_t_facts, .ref h_t_guesses, .long t_there, .long t_ground])), (h_t_guesses, .inr (5, [.ref h_t_guesses_kept, .int t_guesses_most, .int t_guesses_size])), (h_t_guesses_kept, .inl (G.2.1.2.2, 9, .inr (.inl t_guesses_kept)))] := hD.sub [0, 2, 1] (by decide) rfl
      refine lv_icmp_ge (tgt := 90) hx hb dX2_tellsWhy_51 (by decide) (fun c2 => ?_) (fun c2 => ?_)
      · have hf := it_t c2 hf
        refine lv_iconst (v := (1 : Int32)) hx hb dX2_tellsWhy_90 (by decide) ?_
        rw [← Option.some.inj hf]
        exact rt_z (u := ()) hx hb hr zb_1 hlocks hP hD trivial hS dX2_tellsWhy_91
      · have hf := it_f c2 hf
        refine lv_iload_n hx hb dX2_tellsWhy_54 rfl (lv_at hl 1 rfl) ?_
        refine lv_iload hx hb dX2_tellsWhy_55 (lv_at hl 3 rfl) ?_
        obtain ⟨o3, ho3, hf⟩ := bd_e hf
        refine af0_i (va_runSN (As := [.int a1, .int v6]) (rest := []) ⟨hx, hb, hml, hown, hts⟩ (c_X7_inSet l G H.size a1 v6 o3 ho3) ⟨va_cnB (host := "AsARule") 2 hts gX2_tellsWhy_X7_inSet_n88 rfl rfl rfl (hg.2 _ (List.mem_of_getElem? (i := 5) rfl)) (hts (.initialized RX7) (by decide +kernel)) (by decide +kernel) ⟨Nat.le_of_ble_eq_true rfl, Nat.le_of_ble_eq_true rfl⟩, (hts (.static yX7_inSet) (by decide +kernel)), trivial⟩ (pcA_pre hg hc hP hD hS hA [] rfl rfl [.int a1, .int v6]) rfl rfl hl.1 rfl (lv_room (Nat.le_of_ble_eq_true rfl)) dX2_tellsWhy_57 ⟨Nat.zero_le _, Nat.zero_le _⟩) hP hD hS hA (fun H locs hP hD hS => ?_)
        refine lv_if_eq (tgt := 84) hx hb dX2_tellsWhy_60 (by decide) (fun c4 => ?_) (fun c4 => ?_)
        · have hf := it_t c4 hf
          obtain ⟨x5, ex5⟩ : ∃ y : Int32, y = (v6 + (1 : Int32)) := ⟨_, rfl⟩
          have hf := lt_n hf x5 ex5
          refine lv_iinc (v := x5) (lv' := [(6, .int x5), (0, .ref h_t), (1, .int a1), (2, .long a2)]) hx hb dX2_tellsWhy_84 hl (k := 3) rfl (by rw [ex5]; rfl) (by decide) rfl (fun ls hl => ?_)
          refine lv_goto (tgt := 42) hx hb dX2_tellsWhy_87 (by decide) ?_
          exact ih x5 hf _ _ hP hD hS _ (lv_sub hl [1, 2, 3, 0] rfl)
        · have hf := it_f c4 hf
          refine lv_aload_n hx hb dX2_tellsWhy_63 rfl (lv_at hl 0 rfl) ?_
          refine lv_iload_n hx hb dX2_tellsWhy_64 rfl (lv_at hl 1 rfl) ?_
          refine lv_iconst (v := (1 : Int32)) hx hb dX2_tellsWhy_65 (by decide) ?_
          refine lv_iload hx hb dX2_tellsWhy_66 (lv_at hl 3 rfl) ?_
          refine lv_ishl hx hb dX2_tellsWhy_68 ?_
          refine lv_iconst (v := (-1 : Int32)) hx hb dX2_tellsWhy_69 (by decide) ?_
          refine lv_ixor hx hb dX2_tellsWhy_70 ?_
          refine lv_iand hx hb dX2_tellsWhy_71 ?_
          obtain ⟨o6, ho6, hf⟩ := bd_e hf
          refine af_l (wr := []) (va_runV (As := [.int (a1 &&& (((1 : Int32) <<< (v6 &&& 31)) ^^^ (-1 : Int32)))]) (rest := []) ⟨hx, hb, hml, hown, hts⟩ (c_X2_guessed l G h_t h_t_always h_t_rules h_t_facts h_t_guesses h_t_guesses_kept H.size t_there t_ground t_guesses_most t_guesses_size t_guesses_kept (a1 &&& (((1 : Int32) <<< (v6 &&& 31)) ^^^ (-1 : Int32))) o6 ho6) (cwV 1 hts gX2_tellsWhy_X2_guessed rfl rfl rfl (by decide +kernel) ⟨Nat.le_of_ble_eq_true rfl, Nat.le_of_ble_eq_true rfl⟩) (pcA_preV hg hc hP hD hS hA [0, 1, 2] rfl (by decide) (q0 := 0) (ci := 2) rfl rfl rfl) rfl rfl hl.1 rfl (lv_room (Nat.le_of_ble_eq_true rfl)) dX2_tellsWhy_72 ⟨Nat.zero_le _, Nat.zero_le _⟩) hP hD hS hA [0, 1, 2] [] rfl rfl (by decide) (by decide) (fun _ H locs _ hP hD hS => ?_)
          have hP : va_P G.1 vwCl [(h_t, .inr (2, [.ref h_t_always, .ref h_t_rules, .ref h_t_facts, .ref h_t_guesses, .long t_there, .long t_ground])), (h_t_guesses, .inr (5, [.ref h_t_guesses_kept, .int t_guesses_most, .int t_guesses_size])), (h_t_guesses_kept, .inl (G.2.1.2.2, 9, .inr (.inl t_guesses_kept)))] H := hP
          have hD : va_D A [(h_t, .inr (2, [.ref h_t_always, .ref h_t_rules, .ref h_t_facts, .ref h_t_guesses, .long t_there, .long t_ground])), (h_t_guesses, .inr (5, [.ref h_t_guesses_kept, .int t_guesses_most, .int t_guesses_size])), (h_t_guesses_kept, .inl (G.2.1.2.2, 9, .inr (.inl t_guesses_kept)))] := hD
          refine lv_lload_n hx hb dX2_tellsWhy_75 rfl (lv_at hl 2 rfl) ?_
          obtain ⟨o7, ho7, hf⟩ := bd_e hf
          refine af0_i (va_runSN (As := [.long o6, .long a2]) (rest := []) ⟨hx, hb, hml, hown, hts⟩ (c_X7_allIn l G H.size o6 a2 o7 ho7) ⟨va_cnB (host := "AsARule") 2 hts gX2_tellsWhy_X7_allIn_n84 rfl rfl rfl (hg.2 _ (List.mem_of_getElem? (i := 4) rfl)) (hts (.initialized RX7) (by decide +kernel)) (by decide +kernel) ⟨Nat.le_of_ble_eq_true rfl, Nat.le_of_ble_eq_true rfl⟩, (hts (.static yX7_allIn) (by decide +kernel)), trivial⟩ (pcA_pre hg hc hP hD hS hA [] rfl rfl [.long o6, .long a2]) rfl rfl hl.1 rfl (lv_room (Nat.le_of_ble_eq_true rfl)) dX2_tellsWhy_76 ⟨Nat.zero_le _, Nat.zero_le _⟩) hP hD hS hA (fun H locs hP hD hS => ?_)
          refine lv_if_eq (tgt := 84) hx hb dX2_tellsWhy_79 (by decide) (fun c8 => ?_) (fun c8 => ?_)
          · have hf := it_t c8 hf
            obtain ⟨x9, ex9⟩ : ∃ y : Int32, y = (v6 + (1 : Int32)) := ⟨_, rfl⟩
            have hf := lt_n hf x9 ex9
            refine lv_iinc (v := x9) (lv' := [(6, .int x9), (0, .ref h_t), (1, .int a1), (2, .long a2)]) hx hb dX2_tellsWhy_84 hl (k := 3) rfl (by rw [ex9]; rfl) (by decide) rfl (fun ls hl => ?_)
            refine lv_goto (tgt := 42) hx hb dX2_tellsWhy_87 (by decide) ?_
            exact ih x9 hf _ _ hP hD hS _ (lv_sub hl [1, 2, 3, 0] rfl)
          · have hf := it_f c8 hf
            refine lv_iconst (v := (0 : Int32)) hx hb dX2_tellsWhy_82 (by decide) ?_
            rw [← Option.some.inj hf]
            exact rt_z (u := ()) hx hb hr zb_0 hlocks hP hD trivial hS dX2_tellsWhy_83
  unfold f_X2_tellsWhy at hf
  refine en (fun H locs hP hD hS => ?_) hP hD
  refine lv_iload_n hx hb dX2_tellsWhy_0 rfl (lv_at hl 1 rfl) ?_
  refine lv_aload_n hx hb dX2_tellsWhy_1 rfl (lv_at hl 0 rfl) ?_
  refine va_get (D := G.1) (ci := 2) (v := .ref h_t_guesses) (C := RX2) (T := TX2) (N := 6) hx hb hts hiX2 hown hg.1 hP 0 rfl rfl 3 (by decide) (hts (.fieldLink RX2 30 "AsARule$Items" "guesses" "LAsARule$Sayings;") (by decide +kernel)) (fun _ h9 => h9) rfl dX2_tellsWhy_2 ?_
  obtain ⟨o10, ho10, hf⟩ := bd_e hf
  refine af_i (wr := [(h_t, .inr (2, [.ref h_t_always, .ref h_t_rules, .ref h_t_facts, .ref h_t_guesses, .long t_there, .long t_ground])), (h_t_guesses_kept, .inl (G.2.1.2.2, 9, .inr (.inl t_guesses_kept)))]) (va_runV (As := []) (rest := [.int a1]) ⟨hx, hb, hml, hown, hts⟩ (c_X5_size l G h_t_guesses h_t_guesses_kept H.size t_guesses_most t_guesses_size o10 ho10) (cwV 0 hts gX2_tellsWhy_X5_size rfl rfl rfl (by decide +kernel) ⟨Nat.le_of_ble_eq_true rfl, Nat.le_of_ble_eq_true rfl⟩) (pcA_preV hg hc hP hD hS hA [1] rfl (by decide) (q0 := 1) (ci := 5) rfl rfl rfl) rfl rfl hl.1 rfl (lv_room (Nat.le_of_ble_eq_true rfl)) dX2_tellsWhy_5 ⟨Nat.zero_le _, Nat.zero_le _⟩) hP hD hS hA [1] [0, 2] rfl rfl (by decide) (by decide) (fun _ H locs _ hP hD hS => ?_)
  have hP : va_P G.1 vwCl [(h_t, .inr (2, [.ref h_t_always, .ref h_t_rules, .ref h_t_facts, .ref h_t_guesses, .long t_there, .long t_ground])), (h_t_guesses, .inr (5, [.ref h_t_guesses_kept, .int t_guesses_most, .int t_guesses_size])), (h_t_guesses_kept, .inl (G.2.1.2.2, 9, .inr (.inl t_guesses_kept)))] H := hP.sub [0, 2, 1] rfl
  have hD : va_D A [(h_t, .inr (2, [.ref h_t_always, .ref h_t_rules, .ref h_t_facts, .ref h_t_guesses, .long t_there, .long t_ground])), (h_t_guesses, .inr (5, [.ref h_t_guesses_kept, .int t_guesses_most, .int t_guesses_size])), (h_t_guesses_kept, .inl (G.2.1.2.2, 9, .inr (.inl t_guesses_kept)))] := hD.sub [0, 2, 1] (by decide) rfl
  refine lv_iushr (v := (ushI a1 o10)) hx hb dX2_tellsWhy_8 rfl ?_
  refine lv_if_eq (tgt := 14) hx hb dX2_tellsWhy_9 (by decide) (fun c11 => ?_) (fun c11 => ?_)
  · have hf := it_t c11 hf
    refine lv_aload_n hx hb dX2_tellsWhy_14 rfl (lv_at hl 0 rfl) ?_
    refine lv_iload_n hx hb dX2_tellsWhy_15 rfl (lv_at hl 1 rfl) ?_
    obtain ⟨o12, ho12, hf⟩ := bd_e hf
    refine af_l (wr := []) (va_runV (As := [.int a1]) (rest := []) ⟨hx, hb, hml, hown, hts⟩ (c_X2_guessed l G h_t h_t_always h_t_rules h_t_facts h_t_guesses h_t_guesses_kept H.size t_there t_ground t_guesses_most t_guesses_size t_guesses_kept a1 o12 ho12) (cwV 1 hts gX2_tellsWhy_X2_guessed rfl rfl rfl (by decide +kernel) ⟨Nat.le_of_ble_eq_true rfl, Nat.le_of_ble_eq_true rfl⟩) (pcA_preV hg hc hP hD hS hA [0, 1, 2] rfl (by decide) (q0 := 0) (ci := 2) rfl rfl rfl) rfl rfl hl.1 rfl (lv_room (Nat.le_of_ble_eq_true rfl)) dX2_tellsWhy_16 ⟨Nat.zero_le _, Nat.zero_le _⟩) hP hD hS hA [0, 1, 2] [] rfl rfl (by decide) (by decide) (fun _ H locs _ hP hD hS => ?_)
    have hP : va_P G.1 vwCl [(h_t, .inr (2, [.ref h_t_always, .ref h_t_rules, .ref h_t_facts, .ref h_t_guesses, .long t_there, .long t_ground])), (h_t_guesses, .inr (5, [.ref h_t_guesses_kept, .int t_guesses_most, .int t_guesses_size])), (h_t_guesses_kept, .inl (G.2.1.2.2, 9, .inr (.inl t_guesses_kept)))] H := hP
    have hD : va_D A [(h_t, .inr (2, [.ref h_t_always, .ref h_t_rules, .ref h_t_facts, .ref h_t_guesses, .long t_there, .long t_ground])), (h_t_guesses, .inr (5, [.ref h_t_guesses_kept, .int t_guesses_most, .int t_guesses_size])), (h_t_guesses_kept, .inl (G.2.1.2.2, 9, .inr (.inl t_guesses_kept)))] := hD
    refine lv_lstore (lv' := [(4, .long o12), (0, .ref h_t), (1, .int a1), (2, .long a2)]) hx hb dX2_tellsWhy_19 hl (by decide) rfl (fun ls hl => ?_)
    refine lv_lload hx hb dX2_tellsWhy_21 (lv_at hl 0 rfl) ?_
    refine lv_lconst (v := (0 : Int64)) hx hb dX2_tellsWhy_23 (by decide) ?_
    refine W.lcmp hx hb dX2_tellsWhy_24 ?_
    refine lv_if_eq (tgt := 37) hx hb dX2_tellsWhy_25 (by decide) (fun c13 => ?_) (fun c13 => ?_)
    · have c13 := lgc0.mp c13
      have hf := it_t c13 hf
      refine lv_iconst (v := (0 : Int32)) hx hb dX2_tellsWhy_37 (by decide) ?_
      rw [← Option.some.inj hf]
      exact rt_z (u := ()) hx hb hr zb_0 hlocks hP hD trivial hS dX2_tellsWhy_38
    · have c13 := fun z => c13 (lgc0.mpr z)
      have hf := it_f c13 hf
      refine lv_lload hx hb dX2_tellsWhy_28 (lv_at hl 0 rfl) ?_
      refine lv_lload_n hx hb dX2_tellsWhy_30 rfl (lv_at hl 3 rfl) ?_
      obtain ⟨o14, ho14, hf⟩ := bd_e hf
      refine af0_i (va_runSN (As := [.long o12, .long a2]) (rest := []) ⟨hx, hb, hml, hown, hts⟩ (c_X7_allIn l G H.size o12 a2 o14 ho14) ⟨va_cnB (host := "AsARule") 2 hts gX2_tellsWhy_X7_allIn_n84 rfl rfl rfl (hg.2 _ (List.mem_of_getElem? (i := 4) rfl)) (hts (.initialized RX7) (by decide +kernel)) (by decide +kernel) ⟨Nat.le_of_ble_eq_true rfl, Nat.le_of_ble_eq_true rfl⟩, (hts (.static yX7_allIn) (by decide +kernel)), trivial⟩ (pcA_pre hg hc hP hD hS hA [] rfl rfl [.long o12, .long a2]) rfl rfl hl.1 rfl (lv_room (Nat.le_of_ble_eq_true rfl)) dX2_tellsWhy_31 ⟨Nat.zero_le _, Nat.zero_le _⟩) hP hD hS hA (fun H locs hP hD hS => ?_)
      refine lv_if_ne (tgt := 39) hx hb dX2_tellsWhy_34 (by decide) (fun c15 => ?_) (fun c15 => ?_)
      · have hf := it_f c15 hf
        refine lv_iconst (v := (0 : Int32)) hx hb dX2_tellsWhy_39 (by decide) ?_
        refine lv_istore (lv' := [(6, .int (0 : Int32)), (4, .long o12), (0, .ref h_t), (1, .int a1), (2, .long a2)]) hx hb dX2_tellsWhy_40 hl (by decide) rfl (fun ls hl => ?_)
        exact hw_42 fu (0 : Int32) hf _ _ hP hD hS _ (lv_sub hl [2, 3, 4, 0] rfl)
      · have hf := it_t c15 hf
        refine lv_iconst (v := (0 : Int32)) hx hb dX2_tellsWhy_37 (by decide) ?_
        rw [← Option.some.inj hf]
        exact rt_z (u := ()) hx hb hr zb_0 hlocks hP hD trivial hS dX2_tellsWhy_38
  · have hf := it_f c11 hf
    refine lv_iconst (v := (0 : Int32)) hx hb dX2_tellsWhy_12 (by decide) ?_
    rw [← Option.some.inj hf]
    exact rt_z (u := ()) hx hb hr zb_0 hlocks hP hD trivial hS dX2_tellsWhy_13
-- method X0_at
def f_X0_at (t_kept : Nat → Int32) (a1 : Int32) : Option (Int32) :=
  if a1 < (0 : Int32) then some ((-9 : Int32)) else if (64 : Int32) ≤ a1 then some ((-9 : Int32)) else gd (ib a1 64) (some ((t_kept a1.toNatClampNeg)))
set_option maxHeartbeats 4000000 in
set_option maxRecDepth 100000 in
theorem c_X0_at (l : Launch) (G : GG) (h_t h_t_kept : Nat) (sz : Nat) (t_kept : Nat → Int32) (a1 : Int32) (o : Int32) (ho : f_X0_at t_kept a1 = some o)  : Met l yX0_at wsX0_at ({ frames := 0, cells := 0, slots := 0, locals := 0 } : Room) (pcA G [.ref h_t, .int a1] [(h_t, .inr (0, [.ref h_t_kept])), (h_t_kept, .inl (G.2.1.2.1, 64, .inl t_kept))] sz) (qcI Unit G o (fun _ => True) (fun _ => [(h_t, .inr (0, [.ref h_t_kept])), (h_t_kept, .inl (G.2.1.2.1, 64, .inl t_kept))]) (va_A [(h_t, .inr (0, [.ref h_t_kept])), (h_t_kept, .inl (G.2.1.2.1, 64, .inl t_kept))] sz)) 0 0 (va_A [(h_t, .inr (0, [.ref h_t_kept])), (h_t_kept, .inl (G.2.1.2.1, 64, .inl t_kept))] sz) := by
  refine Met.ofW (cc := cX0_at) (maxL := 2) (ret := (some .int)) (by decide) rfl ?_
  intro p e s m args below meth c s₁ B hml hv
  obtain ⟨rfl, hsz, hP, hg, hD0, hc⟩ := hv
  have hx := B.exec
  have hb := B.bytes
  have hr := B.returns
  have hts := atoms_spec (ws := wsX0_at) B.pre
  have hown : s.vm.findClass RX0 = some m.cls := findClass_of_methodNamed B.named
  have hlocks := B.notSynchronized
  subst hsz
  have hD := hD0.self (sz := s.heap.size)
  generalize hAe : va_A [(h_t, .inr (0, [.ref h_t_kept])), (h_t_kept, .inl (G.2.1.2.1, 64, .inl t_kept))] s.heap.size = A at hD hc ⊢
  have hA : ∀ q : Nat, s.heap.size ≤ q → A q := fun q h => by rw [← hAe]; exact Or.inr h
  have hiX0 : ∀ w ∈ wsX00, w ∈ wsX0_at := by decide +kernel
  have hl := lv_entry ([.ref h_t, .int a1]) (n := 2) (Nat.le_of_ble_eq_true rfl)
  rw [lg_entry_eq]
  generalize (lg_sl ([.ref h_t, .int a1]) ++ List.replicate (2 - (lg_sl ([.ref h_t, .int a1])).length) Slot.unset).toArray = ls at hl ⊢
  have hl : lv_has ls 2 [(0, .ref h_t), (1, .int a1)] := hl
  have hf := ho
  unfold f_X0_at at hf
  refine en (fun H locs hP hD hS => ?_) hP hD
  refine lv_iload_n hx hb dX0_at_0 rfl (lv_at hl 1 rfl) ?_
  refine lv_if_lt (tgt := 22) hx hb dX0_at_1 (by decide) (fun c1 => ?_) (fun c1 => ?_)
  · have hf := it_t c1 hf
    refine lv_bipush (v := (-9 : Int32)) hx hb dX0_at_22 (by decide) ?_
    rw [← Option.some.inj hf]
    exact rt_i (u := ()) hx hb hr hlocks hP hD trivial hS dX0_at_24
  · have hf := it_f c1 hf
    refine lv_iload_n hx hb dX0_at_4 rfl (lv_at hl 1 rfl) ?_
    refine lv_aload_n hx hb dX0_at_5 rfl (lv_at hl 0 rfl) ?_
    refine va_get (D := G.1) (ci := 0) (v := .ref h_t_kept) (C := RX0) (T := TX0) (N := 1) hx hb hts hiX0 hown hg.1 hP 0 rfl rfl 0 (by decide) (hts (.fieldLink RX0 9 "AsARule$Doubts" "kept" "[I") (by decide +kernel)) (fun _ h9 => h9) rfl dX0_at_6 ?_
    refine va_alen (v := (64 : Int32)) hx hb hg.1 hP 1 1 rfl rfl rfl dX0_at_9 ?_
    refine lv_icmp_ge (tgt := 22) hx hb dX0_at_10 (by decide) (fun c2 => ?_) (fun c2 => ?_)
    · have hf := it_t c2 hf
      refine lv_bipush (v := (-9 : Int32)) hx hb dX0_at_22 (by decide) ?_
      rw [← Option.some.inj hf]
      exact rt_i (u := ()) hx hb hr hlocks hP hD trivial hS dX0_at_24
    · have hf := it_f c2 hf
      refine lv_aload_n hx hb dX0_at_13 rfl (lv_at hl 0 rfl) ?_
      refine va_get (D := G.1) (ci := 0) (v := .ref h_t_kept) (C := RX0) (T := TX0) (N := 1) hx hb hts hiX0 hown hg.1 hP 0 rfl rfl 0 (by decide) (hts (.fieldLink RX0 9 "AsARule$Doubts" "kept" "[I") (by decide +kernel)) (fun _ h9 => h9) rfl dX0_at_14 ?_
      refine lv_iload_n hx hb dX0_at_17 rfl (lv_at hl 1 rfl) ?_
      refine va_iald hx hb hg.1 hP 1 1 rfl rfl (ib_in (gd_t hf)) dX0_at_18 ?_
      have hf := gd_x hf
      refine lv_goto (tgt := 24) hx hb dX0_at_19 (by decide) ?_
      rw [← Option.some.inj hf]
      exact rt_i (u := ()) hx hb hr hlocks hP hD trivial hS dX0_at_24
-- method X0_restart
def lp_X0_restart_2 (u_there : Int64) (u_rules_whens_size : Int32) (u_rules_whens_kept : Nat → Int64) (u_rules_thens_size : Int32) (u_rules_thens_kept : Nat → Int64) (u_rules_grades : Nat → Int32) : Nat → (Nat → Int32) → Int32 → Option ((Nat → Int32))
  | 0, _, _ => none
  | n + 1, t_kept, v2 => if (64 : Int32) ≤ v2 then some (t_kept) else bd (f_X2_rank u_there u_rules_whens_size u_rules_whens_kept u_rules_thens_size u_rules_thens_kept u_rules_grades v2) (fun o2 => gd (ib v2 64) (lt (v2 + (1 : Int32)) (fun x3 => lp_X0_restart_2 u_there u_rules_whens_size u_rules_whens_kept u_rules_thens_size u_rules_thens_kept u_rules_grades n (upd t_kept v2.toNatClampNeg o2) x3)))
def f_X0_restart (t_kept : Nat → Int32) (u_there : Int64) (u_rules_whens_size : Int32) (u_rules_whens_kept : Nat → Int64) (u_rules_thens_size : Int32) (u_rules_thens_kept : Nat → Int64) (u_rules_grades : Nat → Int32) : Option ((Nat → Int32)) :=
  lp_X0_restart_2 u_there u_rules_whens_size u_rules_whens_kept u_rules_thens_size u_rules_thens_kept u_rules_grades fu t_kept (0 : Int32)
set_option maxHeartbeats 4000000 in
set_option maxRecDepth 100000 in
theorem c_X0_restart (l : Launch) (G : GG) (h_t h_t_kept h_u h_u_always h_u_rules h_u_facts h_u_guesses h_u_rules_whens h_u_rules_thens h_u_rules_grades h_u_rules_whens_kept h_u_rules_thens_kept : Nat) (sz : Nat) (t_kept : Nat → Int32) (u_there : Int64) (u_ground : Int64) (u_rules_quarrel : Int32) (u_rules_whens_most : Int32) (u_rules_whens_size : Int32) (u_rules_whens_kept : Nat → Int64) (u_rules_thens_most : Int32) (u_rules_thens_size : Int32) (u_rules_thens_kept : Nat → Int64) (u_rules_grades : Nat → Int32)  (o : (Nat → Int32)) (ho : f_X0_restart t_kept u_there u_rules_whens_size u_rules_whens_kept u_rules_thens_size u_rules_thens_kept u_rules_grades = some o)  : Met l yX0_restart wsX0_restart ({ frames := 4, cells := 0, slots := 0, locals := 87 } : Room) (pcA G [.ref h_t, .ref h_u] [(h_t, .inr (0, [.ref h_t_kept])), (h_t_kept, .inl (G.2.1.2.1, 64, .inl t_kept)), (h_u, .inr (2, [.ref h_u_always, .ref h_u_rules, .ref h_u_facts, .ref h_u_guesses, .long u_there, .long u_ground])), (h_u_rules, .inr (4, [.ref h_u_rules_whens, .ref h_u_rules_thens, .ref h_u_rules_grades, .int u_rules_quarrel])), (h_u_rules_whens, .inr (5, [.ref h_u_rules_whens_kept, .int u_rules_whens_most, .int u_rules_whens_size])), (h_u_rules_whens_kept, .inl (G.2.1.2.2, 9, .inr (.inl u_rules_whens_kept))), (h_u_rules_thens, .inr (5, [.ref h_u_rules_thens_kept, .int u_rules_thens_most, .int u_rules_thens_size])), (h_u_rules_thens_kept, .inl (G.2.1.2.2, 9, .inr (.inl u_rules_thens_kept))), (h_u_rules_grades, .inl (G.2.1.2.1, 9, .inl u_rules_grades))] sz) (qcV Unit G (fun _ => True) (fun _ => [(h_t, .inr (0, [.ref h_t_kept])), (h_t_kept, .inl (G.2.1.2.1, 64, .inl o)), (h_u, .inr (2, [.ref h_u_always, .ref h_u_rules, .ref h_u_facts, .ref h_u_guesses, .long u_there, .long u_ground])), (h_u_rules, .inr (4, [.ref h_u_rules_whens, .ref h_u_rules_thens, .ref h_u_rules_grades, .int u_rules_quarrel])), (h_u_rules_whens, .inr (5, [.ref h_u_rules_whens_kept, .int u_rules_whens_most, .int u_rules_whens_size])), (h_u_rules_whens_kept, .inl (G.2.1.2.2, 9, .inr (.inl u_rules_whens_kept))), (h_u_rules_thens, .inr (5, [.ref h_u_rules_thens_kept, .int u_rules_thens_most, .int u_rules_thens_size])), (h_u_rules_thens_kept, .inl (G.2.1.2.2, 9, .inr (.inl u_rules_thens_kept))), (h_u_rules_grades, .inl (G.2.1.2.1, 9, .inl u_rules_grades))]) (va_A [(h_t, .inr (0, [.ref h_t_kept])), (h_t_kept, .inl (G.2.1.2.1, 64, .inl t_kept)), (h_u, .inr (2, [.ref h_u_always, .ref h_u_rules, .ref h_u_facts, .ref h_u_guesses, .long u_there, .long u_ground])), (h_u_rules, .inr (4, [.ref h_u_rules_whens, .ref h_u_rules_thens, .ref h_u_rules_grades, .int u_rules_quarrel])), (h_u_rules_whens, .inr (5, [.ref h_u_rules_whens_kept, .int u_rules_whens_most, .int u_rules_whens_size])), (h_u_rules_whens_kept, .inl (G.2.1.2.2, 9, .inr (.inl u_rules_whens_kept))), (h_u_rules_thens, .inr (5, [.ref h_u_rules_thens_kept, .int u_rules_thens_most, .int u_rules_thens_size])), (h_u_rules_thens_kept, .inl (G.2.1.2.2, 9, .inr (.inl u_rules_thens_kept))), (h_u_rules_grades, .inl (G.2.1.2.1, 9, .inl u_rules_grades))] sz)) 0 0 (va_A [(h_t, .inr (0, [.ref h_t_kept])), (h_t_kept, .inl (G.2.1.2.1, 64, .inl t_kept)), (h_u, .inr (2, [.ref h_u_always, .ref h_u_rules, .ref h_u_facts, .ref h_u_guesses, .long u_there, .long u_ground])), (h_u_rules, .inr (4, [.ref h_u_rules_whens, .ref h_u_rules_thens, .ref h_u_rules_grades, .int u_rules_quarrel])), (h_u_rules_whens, .inr (5, [.ref h_u_rules_whens_kept, .int u_rules_whens_most, .int u_rules_whens_size])), (h_u_rules_whens_kept, .inl (G.2.1.2.2, 9, .inr (.inl u_rules_whens_kept))), (h_u_rules_thens, .inr (5, [.ref h_u_rules_thens_kept, .int u_rules_thens_most, .int u_rules_thens_size])), (h_u_rules_thens_kept, .inl (G.2.1.2.2, 9, .inr (.inl u_rules_thens_kept))), (h_u_rules_grades, .inl (G.2.1.2.1, 9, .inl u_rules_grades))] sz) := by
  refine Met.ofW (cc := cX0_restart) (maxL := 3) (ret := none) (by decide) rfl ?_
  intro p e s m args below meth c s₁ B hml hv
  obtain ⟨rfl, hsz, hP, hg, hD0, hc⟩ := hv
  have hx := B.exec
  have hb := B.bytes
  have hr := B.returns
  have hts := atoms_spec (ws := wsX0_restart) B.pre
  have hown : s.vm.findClass RX0 = some m.cls := findClass_of_methodNamed B.named
  have hlocks := B.notSynchronized
  subst hsz
  have hD := hD0.self (sz := s.heap.size)
  generalize hAe : va_A [(h_t, .inr (0, [.ref h_t_kept])), (h_t_kept, .inl (G.2.1.2.1, 64, .inl t_kept)), (h_u, .inr (2, [.ref h_u_always, .ref h_u_rules, .ref h_u_facts, .ref h_u_guesses, .long u_there, .long u_ground])), (h_u_rules, .inr (4, [.ref h_u_rules_whens, .ref h_u_rules_thens, .ref h_u_rules_grades, .int u_rules_quarrel])), (h_u_rules_whens, .inr (5, [.ref h_u_rules_whens_kept, .int u_rules_whens_most, .int u_rules_whens_size])), (h_u_rules_whens_kept, .inl (G.2.1.2.2, 9, .inr (.inl u_rules_whens_kept))), (h_u_rules_thens, .inr (5, [.ref h_u_rules_thens_kept, .int u_rules_thens_most, .int u_rules_thens_size])), (h_u_rules_thens_kept, .inl (G.2.1.2.2, 9, .inr (.inl u_rules_thens_kept))), (h_u_rules_grades, .inl (G.2.1.2.1, 9, .inl u_rules_grades))] s.heap.size = A at hD hc ⊢
  have hA : ∀ q : Nat, s.heap.size ≤ q → A q := fun q h => by rw [← hAe]; exact Or.inr h
  have hiX0 : ∀ w ∈ wsX00, w ∈ wsX0_restart := by decide +kernel
  have hl := lv_entry ([.ref h_t, .ref h_u]) (n := 3) (Nat.le_of_ble_eq_true rfl)
  rw [lg_entry_eq]
  generalize (lg_sl ([.ref h_t, .ref h_u]) ++ List.replicate (3 - (lg_sl ([.ref h_t, .ref h_u])).length) Slot.unset).toArray = ls at hl ⊢
  have hl : lv_has ls 3 [(0, .ref h_t), (1, .ref h_u)] := hl
  have hf := ho
  have hw_2 : ∀  (n : Nat) (t_kept : Nat → Int32) (v2 : Int32), lp_X0_restart_2 u_there u_rules_whens_size u_rules_whens_kept u_rules_thens_size u_rules_thens_kept u_rules_grades n t_kept v2 = some o → ∀ (H : Heap) (locs : List Loc), va_P G.1 vwCl [(h_t, .inr (0, [.ref h_t_kept])), (h_t_kept, .inl (G.2.1.2.1, 64, .inl t_kept)), (h_u, .inr (2, [.ref h_u_always, .ref h_u_rules, .ref h_u_facts, .ref h_u_guesses, .long u_there, .long u_ground])), (h_u_rules, .inr (4, [.ref h_u_rules_whens, .ref h_u_rules_thens, .ref h_u_rules_grades, .int u_rules_quarrel])), (h_u_rules_whens, .inr (5, [.ref h_u_rules_whens_kept, .int u_rules_whens_most, .int u_rules_whens_size])), (h_u_rules_whens_kept, .inl (G.2.1.2.2, 9, .inr (.inl u_rules_whens_kept))), (h_u_rules_thens, .inr (5, [.ref h_u_rules_thens_kept, .int u_rules_thens_most, .int u_rules_thens_size])), (h_u_rules_thens_kept, .inl (G.2.1.2.2, 9, .inr (.inl u_rules_thens_kept))), (h_u_rules_grades, .inl (G.2.1.2.1, 9, .inl u_rules_grades))] H → va_D A [(h_t, .inr (0, [.ref h_t_kept])), (h_t_kept, .inl (G.2.1.2.1, 64, .inl t_kept)), (h_u, .inr (2, [.ref h_u_always, .ref h_u_rules, .ref h_u_facts, .ref h_u_guesses, .long u_there, .long u_ground])), (h_u_rules, .inr (4, [.ref h_u_rules_whens, .ref h_u_rules_thens, .ref h_u_rules_grades, .int u_rules_quarrel])), (h_u_rules_whens, .inr (5, [.ref h_u_rules_whens_kept, .int u_rules_whens_most, .int u_rules_whens_size])), (h_u_rules_whens_kept, .inl (G.2.1.2.2, 9, .inr (.inl u_rules_whens_kept))), (h_u_rules_thens, .inr (5, [.ref h_u_rules_thens_kept, .int u_rules_thens_most, .int u_rules_thens_size])), (h_u_rules_thens_kept, .inl (G.2.1.2.2, 9, .inr (.inl u_rules_thens_kept))), (h_u_rules_grades, .inl (G.2.1.2.1, 9, .inl u_rules_grades))] → va_S A s.heap H locs → ∀ (ls : Array Slot), lv_has ls 3 [(0, .ref h_t), (1, .ref h_u), (2, .int v2)] → W p l e (headSpec wsX0_restart ({ frames := 4, cells := 0, slots := 0, locals := 87 } : Room)).room s m ([.ref h_t, .ref h_u] : List Value).toArray below meth c H locs 0 0 (MQ below (qcV Unit G (fun _ => True) (fun _ => [(h_t, .inr (0, [.ref h_t_kept])), (h_t_kept, .inl (G.2.1.2.1, 64, .inl o)), (h_u, .inr (2, [.ref h_u_always, .ref h_u_rules, .ref h_u_facts, .ref h_u_guesses, .long u_there, .long u_ground])), (h_u_rules, .inr (4, [.ref h_u_rules_whens, .ref h_u_rules_thens, .ref h_u_rules_grades, .int u_rules_quarrel])), (h_u_rules_whens, .inr (5, [.ref h_u_rules_whens_kept, .int u_rules_whens_most, .int u_rules_whens_size])), (h_u_rules_whens_kept, .inl (G.2.1.2.2, 9, .inr (.inl u_rules_whens_kept))), (h_u_rules_thens, .inr (5, [.ref h_u_rules_thens_kept, .int u_rules_thens_most, .int u_rules_thens_size])), (h_u_rules_thens_kept, .inl (G.2.1.2.2, 9, .inr (.inl u_rules_thens_kept))), (h_u_rules_grades, .inl (G.2.1.2.1, 9, .inl u_rules_grades))]) A) ([.ref h_t, .ref h_u] : List Value).toArray s 0 0 A) (F0 m 2 ls []) := by
    intro n
    induction n with
    | zero =>
      intro t_kept v2 hf
      exact absurd hf (by rw [lp_X0_restart_2]; intro h; cases h)
    | succ n ih =>
      intro t_kept v2 hf H locs hP hD hS ls hl
      rw [lp_X0_restart_2] at hf
      refine lv_iload_n hx hb dX0_restart_2 rfl (lv_at hl 2 rfl) ?_
      refine lv_aload_n hx hb dX0_restart_3 rfl (lv_at hl 0 rfl) ?_
      refine va_get (D := G.1) (ci := 0) (v := .ref h_t_kept) (C := RX0) (T := TX0) (N := 1) hx hb hts hiX0 hown hg.1 hP 0 rfl rfl 0 (by decide) (hts (.fieldLink RX0 9 "AsARule$Doubts" "kept" "[I") (by decide +kernel)) (fun _ h9 => h9) rfl dX0_restart_4 ?_
      refine va_alen (v := (64 : Int32)) hx hb hg.1 hP 1 1 rfl rfl rfl dX0_restart_7 ?_
      refine lv_icmp_ge (tgt := 28) hx hb dX0_restart_8 (by decide) (fun c1 => ?_) (fun c1 => ?_)
      · have hf := it_t c1 hf
        rw [← Option.some.inj hf]
        exact rt_v (u := ()) hx hb hr hlocks hP hD trivial hS dX0_restart_28
      · have hf := it_f c1 hf
        refine lv_aload_n hx hb dX0_restart_11 rfl (lv_at hl 0 rfl) ?_
        refine va_get (D := G.1) (ci := 0) (v := .ref h_t_kept) (C := RX0) (T := TX0) (N := 1) hx hb hts hiX0 hown hg.1 hP 0 rfl rfl 0 (by decide) (hts (.fieldLink RX0 9 "AsARule$Doubts" "kept" "[I") (by decide +kernel)) (fun _ h9 => h9) rfl dX0_restart_12 ?_
        refine lv_iload_n hx hb dX0_restart_15 rfl (lv_at hl 2 rfl) ?_
        refine lv_aload_n hx hb dX0_restart_16 rfl (lv_at hl 1 rfl) ?_
        refine lv_iload_n hx hb dX0_restart_17 rfl (lv_at hl 2 rfl) ?_
        obtain ⟨o2, ho2, hf⟩ := bd_e hf
        refine af_i (wr := [(h_t, .inr (0, [.ref h_t_kept])), (h_t_kept, .inl (G.2.1.2.1, 64, .inl t_kept))]) (va_runV (As := [.int v2]) (rest := [.int v2, .ref h_t_kept]) ⟨hx, hb, hml, hown, hts⟩ (c_X2_rank l G h_u h_u_always h_u_rules h_u_facts h_u_guesses h_u_rules_whens h_u_rules_thens h_u_rules_grades h_u_rules_whens_kept h_u_rules_thens_kept H.size u_there u_ground u_rules_quarrel u_rules_whens_most u_rules_whens_size u_rules_whens_kept u_rules_thens_most u_rules_thens_size u_rules_thens_kept u_rules_grades v2 o2 ho2) (cwV 1 hts gX0_restart_X2_rank rfl rfl rfl (by decide +kernel) ⟨Nat.le_of_ble_eq_true rfl, Nat.le_of_ble_eq_true rfl⟩) (pcA_preV hg hc hP hD hS hA [2, 3, 4, 5, 6, 7, 8] rfl (by decide) (q0 := 2) (ci := 2) rfl rfl rfl) rfl rfl hl.1 rfl (lv_room (Nat.le_of_ble_eq_true rfl)) dX0_restart_18 ⟨Nat.zero_le _, Nat.zero_le _⟩) hP hD hS hA [2, 3, 4, 5, 6, 7, 8] [0, 1] rfl rfl (by decide) (by decide) (fun _ H locs _ hP hD hS => ?_)
        have hP : va_P G.1 vwCl [(h_t, .inr (0, [.ref h_t_kept])), (h_t_kept, .inl (G.2.1.2.1, 64, .inl t_kept)), (h_u, .inr (2, [.ref h_u_always, .ref h_u_rules, .ref h_u_facts, .ref h_u_guesses, .long u_there, .long u_ground])), (h_u_rules, .inr (4, [.ref h_u_rules_whens, .ref h_u_rules_thens, .ref h_u_rules_grades, .int u_rules_quarrel])), (h_u_rules_whens, .inr (5, [.ref h_u_rules_whens_kept, .int u_rules_whens_most, .int u_rules_whens_size])), (h_u_rules_whens_kept, .inl (G.2.1.2.2, 9, .inr (.inl u_rules_whens_kept))), (h_u_rules_thens, .inr (5, [.ref h_u_rules_thens_kept, .int u_rules_thens_most, .int u_rules_thens_size])), (h_u_rules_thens_kept, .inl (G.2.1.2.2, 9, .inr (.inl u_rules_thens_kept))), (h_u_rules_grades, .inl (G.2.1.2.1, 9, .inl u_rules_grades))] H := hP
        have hD : va_D A [(h_t, .inr (0, [.ref h_t_kept])), (h_t_kept, .inl (G.2.1.2.1, 64, .inl t_kept)), (h_u, .inr (2, [.ref h_u_always, .ref h_u_rules, .ref h_u_facts, .ref h_u_guesses, .long u_there, .long u_ground])), (h_u_rules, .inr (4, [.ref h_u_rules_whens, .ref h_u_rules_thens, .ref h_u_rules_grades, .int u_rules_quarrel])), (h_u_rules_whens, .inr (5, [.ref h_u_rules_whens_kept, .int u_rules_whens_most, .int u_rules_whens_size])), (h_u_rules_whens_kept, .inl (G.2.1.2.2, 9, .inr (.inl u_rules_whens_kept))), (h_u_rules_thens, .inr (5, [.ref h_u_rules_thens_kept, .int u_rules_thens_most, .int u_rules_thens_size])), (h_u_rules_thens_kept, .inl (G.2.1.2.2, 9, .inr (.inl u_rules_thens_kept))), (h_u_rules_grades, .inl (G.2.1.2.1, 9, .inl u_rules_grades))] := hD
        refine va_iast hx hb hg.1 hP hD hS 1 1 rfl rfl (ib_in (gd_t hf)) dX0_restart_21 (fun H locs hP hD hS => ?_)
        have hf := gd_x hf
        have hP : va_P G.1 vwCl [(h_t, .inr (0, [.ref h_t_kept])), (h_t_kept, .inl (G.2.1.2.1, 64, .inl (upd t_kept v2.toNatClampNeg o2))), (h_u, .inr (2, [.ref h_u_always, .ref h_u_rules, .ref h_u_facts, .ref h_u_guesses, .long u_there, .long u_ground])), (h_u_rules, .inr (4, [.ref h_u_rules_whens, .ref h_u_rules_thens, .ref h_u_rules_grades, .int u_rules_quarrel])), (h_u_rules_whens, .inr (5, [.ref h_u_rules_whens_kept, .int u_rules_whens_most, .int u_rules_whens_size])), (h_u_rules_whens_kept, .inl (G.2.1.2.2, 9, .inr (.inl u_rules_whens_kept))), (h_u_rules_thens, .inr (5, [.ref h_u_rules_thens_kept, .int u_rules_thens_most, .int u_rules_thens_size])), (h_u_rules_thens_kept, .inl (G.2.1.2.2, 9, .inr (.inl u_rules_thens_kept))), (h_u_rules_grades, .inl (G.2.1.2.1, 9, .inl u_rules_grades))] H := hP
        have hD : va_D A [(h_t, .inr (0, [.ref h_t_kept])), (h_t_kept, .inl (G.2.1.2.1, 64, .inl (upd t_kept v2.toNatClampNeg o2))), (h_u, .inr (2, [.ref h_u_always, .ref h_u_rules, .ref h_u_facts, .ref h_u_guesses, .long u_there, .long u_ground])), (h_u_rules, .inr (4, [.ref h_u_rules_whens, .ref h_u_rules_thens, .ref h_u_rules_grades, .int u_rules_quarrel])), (h_u_rules_whens, .inr (5, [.ref h_u_rules_whens_kept, .int u_rules_whens_most, .int u_rules_whens_size])), (h_u_rules_whens_kept, .inl (G.2.1.2.2, 9, .inr (.inl u_rules_whens_kept))), (h_u_rules_thens, .inr (5, [.ref h_u_rules_thens_kept, .int u_rules_thens_most, .int u_rules_thens_size])), (h_u_rules_thens_kept, .inl (G.2.1.2.2, 9, .inr (.inl u_rules_thens_kept))), (h_u_rules_grades, .inl (G.2.1.2.1, 9, .inl u_rules_grades))] := hD
        obtain ⟨x3, ex3⟩ : ∃ y : Int32, y = (v2 + (1 : Int32)) := ⟨_, rfl⟩
        have hf := lt_n hf x3 ex3
        refine lv_iinc (v := x3) (lv' := [(2, .int x3), (0, .ref h_t), (1, .ref h_u)]) hx hb dX0_restart_22 hl (k := 2) rfl (by rw [ex3]; rfl) (by decide) rfl (fun ls hl => ?_)
        refine lv_goto (tgt := 2) hx hb dX0_restart_25 (by decide) ?_
        exact ih (upd t_kept v2.toNatClampNeg o2) x3 hf _ _ hP hD hS _ (lv_sub hl [1, 2, 0] rfl)
  unfold f_X0_restart at hf
  refine en (fun H locs hP hD hS => ?_) hP hD
  refine lv_iconst (v := (0 : Int32)) hx hb dX0_restart_0 (by decide) ?_
  refine lv_istore_n (lv' := [(2, .int (0 : Int32)), (0, .ref h_t), (1, .ref h_u)]) hx hb dX0_restart_1 rfl hl (by decide) rfl (fun ls hl => ?_)
  exact hw_2 fu t_kept (0 : Int32) hf _ _ hP hD hS _ (lv_sub hl [1, 2, 0] rfl)
-- method X0_least
def lp_X0_least_6 (t_kept : Nat → Int32) (a1 : Int64) : Nat → Int32 → Int32 → Option (Int32)
  | 0, _, _ => none
  | n + 1, v3, v4 => if (64 : Int32) ≤ v4 then some (v3) else bd (f_X7_holds a1 v4) (fun o2 => if o2 = (0 : Int32) then lt (v4 + (1 : Int32)) (fun x4 => lp_X0_least_6 t_kept a1 n v3 x4) else gd (ib v4 64) (lt (mnI v3 (t_kept v4.toNatClampNeg)) (fun x5 => lt (v4 + (1 : Int32)) (fun x6 => lp_X0_least_6 t_kept a1 n x5 x6))))
def f_X0_least (t_kept : Nat → Int32) (a1 : Int64) : Option (Int32) :=
  lp_X0_least_6 t_kept a1 fu (99 : Int32) (0 : Int32)
set_option maxHeartbeats 4000000 in
set_option maxRecDepth 100000 in
theorem c_X0_least (l : Launch) (G : GG) (h_t h_t_kept : Nat) (sz : Nat) (t_kept : Nat → Int32) (a1 : Int64) (o : Int32) (ho : f_X0_least t_kept a1 = some o)  : Met l yX0_least wsX0_least ({ frames := 1, cells := 0, slots := 0, locals := 24 } : Room) (pcA G [.ref h_t, .long a1] [(h_t, .inr (0, [.ref h_t_kept])), (h_t_kept, .inl (G.2.1.2.1, 64, .inl t_kept))] sz) (qcI Unit G o (fun _ => True) (fun _ => [(h_t, .inr (0, [.ref h_t_kept])), (h_t_kept, .inl (G.2.1.2.1, 64, .inl t_kept))]) (va_A [(h_t, .inr (0, [.ref h_t_kept])), (h_t_kept, .inl (G.2.1.2.1, 64, .inl t_kept))] sz)) 0 0 (va_A [(h_t, .inr (0, [.ref h_t_kept])), (h_t_kept, .inl (G.2.1.2.1, 64, .inl t_kept))] sz) := by
  refine Met.ofW (cc := cX0_least) (maxL := 5) (ret := (some .int)) (by decide) rfl ?_
  intro p e s m args below meth c s₁ B hml hv
  obtain ⟨rfl, hsz, hP, hg, hD0, hc⟩ := hv
  have hx := B.exec
  have hb := B.bytes
  have hr := B.returns
  have hts := atoms_spec (ws := wsX0_least) B.pre
  have hown : s.vm.findClass RX0 = some m.cls := findClass_of_methodNamed B.named
  have hlocks := B.notSynchronized
  subst hsz
  have hD := hD0.self (sz := s.heap.size)
  generalize hAe : va_A [(h_t, .inr (0, [.ref h_t_kept])), (h_t_kept, .inl (G.2.1.2.1, 64, .inl t_kept))] s.heap.size = A at hD hc ⊢
  have hA : ∀ q : Nat, s.heap.size ≤ q → A q := fun q h => by rw [← hAe]; exact Or.inr h
  have hiX0 : ∀ w ∈ wsX00, w ∈ wsX0_least := by decide +kernel
  have hl := lv_entry ([.ref h_t, .long a1]) (n := 5) (Nat.le_of_ble_eq_true rfl)
  rw [lg_entry_eq]
  generalize (lg_sl ([.ref h_t, .long a1]) ++ List.replicate (5 - (lg_sl ([.ref h_t, .long a1])).length) Slot.unset).toArray = ls at hl ⊢
  have hl : lv_has ls 5 [(0, .ref h_t), (1, .long a1)] := hl
  have hf := ho
  have hw_6 : ∀  (n : Nat) (v3 : Int32) (v4 : Int32), lp_X0_least_6 t_kept a1 n v3 v4 = some o → ∀ (H : Heap) (locs : List Loc), va_P G.1 vwCl [(h_t, .inr (0, [.ref h_t_kept])), (h_t_kept, .inl (G.2.1.2.1, 64, .inl t_kept))] H → va_D A [(h_t, .inr (0, [.ref h_t_kept])), (h_t_kept, .inl (G.2.1.2.1, 64, .inl t_kept))] → va_S A s.heap H locs → ∀ (ls : Array Slot), lv_has ls 5 [(0, .ref h_t), (1, .long a1), (3, .int v3), (4, .int v4)] → W p l e (headSpec wsX0_least ({ frames := 1, cells := 0, slots := 0, locals := 24 } : Room)).room s m ([.ref h_t, .long a1] : List Value).toArray below meth c H locs 0 0 (MQ below (qcI Unit G o (fun _ => True) (fun _ => [(h_t, .inr (0, [.ref h_t_kept])), (h_t_kept, .inl (G.2.1.2.1, 64, .inl t_kept))]) A) ([.ref h_t, .long a1] : List Value).toArray s 0 0 A) (F0 m 6 ls []) := by
    intro n
    induction n with
    | zero =>
      intro v3 v4 hf
      exact absurd hf (by rw [lp_X0_least_6]; intro h; cases h)
    | succ n ih =>
      intro v3 v4 hf H locs hP hD hS ls hl
      rw [lp_X0_least_6] at hf
      refine lv_iload hx hb dX0_least_6 (lv_at hl 3 rfl) ?_
      refine lv_aload_n hx hb dX0_least_8 rfl (lv_at hl 0 rfl) ?_
      refine va_get (D := G.1) (ci := 0) (v := .ref h_t_kept) (C := RX0) (T := TX0) (N := 1) hx hb hts hiX0 hown hg.1 hP 0 rfl rfl 0 (by decide) (hts (.fieldLink RX0 9 "AsARule$Doubts" "kept" "[I") (by decide +kernel)) (fun _ h9 => h9) rfl dX0_least_9 ?_
      refine va_alen (v := (64 : Int32)) hx hb hg.1 hP 1 1 rfl rfl rfl dX0_least_12 ?_
      refine lv_icmp_ge (tgt := 43) hx hb dX0_least_13 (by decide) (fun c1 => ?_) (fun c1 => ?_)
      · have hf := it_t c1 hf
        refine lv_iload_n hx hb dX0_least_43 rfl (lv_at hl 2 rfl) ?_
        rw [← Option.some.inj hf]
        exact rt_i (u := ()) hx hb hr hlocks hP hD trivial hS dX0_least_44
      · have hf := it_f c1 hf
        refine lv_lload_n hx hb dX0_least_16 rfl (lv_at hl 1 rfl) ?_
        refine lv_iload hx hb dX0_least_17 (lv_at hl 3 rfl) ?_
        obtain ⟨o2, ho2, hf⟩ := bd_e hf
        refine af0_i (va_runSN (As := [.long a1, .int v4]) (rest := []) ⟨hx, hb, hml, hown, hts⟩ (c_X7_holds l G H.size a1 v4 o2 ho2) ⟨va_cnB (host := "AsARule") 2 hts gX0_least_X7_holds_n21 rfl rfl rfl (hg.2 _ (List.mem_of_getElem? (i := 0) rfl)) (hts (.initialized RX7) (by decide +kernel)) (by decide +kernel) ⟨Nat.le_of_ble_eq_true rfl, Nat.le_of_ble_eq_true rfl⟩, (hts (.static yX7_holds) (by decide +kernel)), trivial⟩ (pcA_pre hg hc hP hD hS hA [] rfl rfl [.long a1, .int v4]) rfl rfl hl.1 rfl (lv_room (Nat.le_of_ble_eq_true rfl)) dX0_least_19 ⟨Nat.zero_le _, Nat.zero_le _⟩) hP hD hS hA (fun H locs hP hD hS => ?_)
        refine lv_if_eq (tgt := 37) hx hb dX0_least_22 (by decide) (fun c3 => ?_) (fun c3 => ?_)
        · have hf := it_t c3 hf
          obtain ⟨x4, ex4⟩ : ∃ y : Int32, y = (v4 + (1 : Int32)) := ⟨_, rfl⟩
          have hf := lt_n hf x4 ex4
          refine lv_iinc (v := x4) (lv' := [(4, .int x4), (0, .ref h_t), (1, .long a1), (3, .int v3)]) hx hb dX0_least_37 hl (k := 3) rfl (by rw [ex4]; rfl) (by decide) rfl (fun ls hl => ?_)
          refine lv_goto (tgt := 6) hx hb dX0_least_40 (by decide) ?_
          exact ih v3 x4 hf _ _ hP hD hS _ (lv_sub hl [1, 2, 3, 0] rfl)
        · have hf := it_f c3 hf
          refine lv_iload_n hx hb dX0_least_25 rfl (lv_at hl 2 rfl) ?_
          refine lv_aload_n hx hb dX0_least_26 rfl (lv_at hl 0 rfl) ?_
          refine va_get (D := G.1) (ci := 0) (v := .ref h_t_kept) (C := RX0) (T := TX0) (N := 1) hx hb hts hiX0 hown hg.1 hP 0 rfl rfl 0 (by decide) (hts (.fieldLink RX0 9 "AsARule$Doubts" "kept" "[I") (by decide +kernel)) (fun _ h9 => h9) rfl dX0_least_27 ?_
          refine lv_iload hx hb dX0_least_30 (lv_at hl 3 rfl) ?_
          refine va_iald hx hb hg.1 hP 1 1 rfl rfl (ib_in (gd_t hf)) dX0_least_32 ?_
          have hf := gd_x hf
          refine va_mmin hx hb (by rw [hml]; exact hl.1.symm) hown (hts (.methodLink RX0 25 Lib.Math.min.name) (by decide +kernel)) (hts (.static Lib.Math.min.name) (by decide +kernel)) (hts (.initialized "java/lang/Math") (by decide +kernel)) (hts (.code Lib.Math.min.name Lib.Math.min.code 2 (some .int)) (by decide +kernel)) (Nat.le_of_ble_eq_true rfl) (Nat.le_of_ble_eq_true rfl) (Nat.le_of_ble_eq_true rfl) (Nat.le_of_ble_eq_true rfl) dX0_least_33 ?_
          refine lv_topi (fun x5 ex5 => ?_)
          have hf := lt_n hf x5 ex5
          refine lv_istore_n (lv' := [(3, .int x5), (0, .ref h_t), (1, .long a1), (4, .int v4)]) hx hb dX0_least_36 rfl hl (by decide) rfl (fun ls hl => ?_)
          obtain ⟨x6, ex6⟩ : ∃ y : Int32, y = (v4 + (1 : Int32)) := ⟨_, rfl⟩
          have hf := lt_n hf x6 ex6
          refine lv_iinc (v := x6) (lv' := [(4, .int x6), (3, .int x5), (0, .ref h_t), (1, .long a1)]) hx hb dX0_least_37 hl (k := 3) rfl (by rw [ex6]; rfl) (by decide) rfl (fun ls hl => ?_)
          refine lv_goto (tgt := 6) hx hb dX0_least_40 (by decide) ?_
          exact ih x5 x6 hf _ _ hP hD hS _ (lv_sub hl [2, 3, 1, 0] rfl)
  unfold f_X0_least at hf
  refine en (fun H locs hP hD hS => ?_) hP hD
  refine lv_bipush (v := (99 : Int32)) hx hb dX0_least_0 (by decide) ?_
  refine lv_istore_n (lv' := [(3, .int (99 : Int32)), (0, .ref h_t), (1, .long a1)]) hx hb dX0_least_2 rfl hl (by decide) rfl (fun ls hl => ?_)
  refine lv_iconst (v := (0 : Int32)) hx hb dX0_least_3 (by decide) ?_
  refine lv_istore (lv' := [(4, .int (0 : Int32)), (3, .int (99 : Int32)), (0, .ref h_t), (1, .long a1)]) hx hb dX0_least_4 hl (by decide) rfl (fun ls hl => ?_)
  exact hw_6 fu (99 : Int32) (0 : Int32) hf _ _ hP hD hS _ (lv_sub hl [2, 3, 1, 0] rfl)
-- method X0_shift
def lp_X0_shift_3 (a1 : Int64) (a3 : Int32) : Nat → (Nat → Int32) → Int32 → Option ((Nat → Int32))
  | 0, _, _ => none
  | n + 1, t_kept, v4 => if (64 : Int32) ≤ v4 then some (t_kept) else bd (f_X7_holds a1 v4) (fun o2 => if o2 = (0 : Int32) then lt (v4 + (1 : Int32)) (fun x4 => lp_X0_shift_3 a1 a3 n t_kept x4) else gd (ib v4 64) (gd (ib v4 64) (lt (v4 + (1 : Int32)) (fun x5 => lp_X0_shift_3 a1 a3 n (upd t_kept v4.toNatClampNeg (mnI (99 : Int32) ((t_kept v4.toNatClampNeg) + a3))) x5))))
def f_X0_shift (t_kept : Nat → Int32) (a1 : Int64) (a3 : Int32) : Option ((Nat → Int32)) :=
  lp_X0_shift_3 a1 a3 fu t_kept (0 : Int32)
set_option maxHeartbeats 4000000 in
set_option maxRecDepth 100000 in
theorem c_X0_shift (l : Launch) (G : GG) (h_t h_t_kept : Nat) (sz : Nat) (t_kept : Nat → Int32) (a1 : Int64) (a3 : Int32) (o : (Nat → Int32)) (ho : f_X0_shift t_kept a1 a3 = some o)  : Met l yX0_shift wsX0_shift ({ frames := 1, cells := 0, slots := 0, locals := 24 } : Room) (pcA G [.ref h_t, .long a1, .int a3] [(h_t, .inr (0, [.ref h_t_kept])), (h_t_kept, .inl (G.2.1.2.1, 64, .inl t_kept))] sz) (qcV Unit G (fun _ => True) (fun _ => [(h_t, .inr (0, [.ref h_t_kept])), (h_t_kept, .inl (G.2.1.2.1, 64, .inl o))]) (va_A [(h_t, .inr (0, [.ref h_t_kept])), (h_t_kept, .inl (G.2.1.2.1, 64, .inl t_kept))] sz)) 0 0 (va_A [(h_t, .inr (0, [.ref h_t_kept])), (h_t_kept, .inl (G.2.1.2.1, 64, .inl t_kept))] sz) := by
  refine Met.ofW (cc := cX0_shift) (maxL := 5) (ret := none) (by decide) rfl ?_
  intro p e s m args below meth c s₁ B hml hv
  obtain ⟨rfl, hsz, hP, hg, hD0, hc⟩ := hv
  have hx := B.exec
  have hb := B.bytes
  have hr := B.returns
  have hts := atoms_spec (ws := wsX0_shift) B.pre
  have hown : s.vm.findClass RX0 = some m.cls := findClass_of_methodNamed B.named
  have hlocks := B.notSynchronized
  subst hsz
  have hD := hD0.self (sz := s.heap.size)
  generalize hAe : va_A [(h_t, .inr (0, [.ref h_t_kept])), (h_t_kept, .inl (G.2.1.2.1, 64, .inl t_kept))] s.heap.size = A at hD hc ⊢
  have hA : ∀ q : Nat, s.heap.size ≤ q → A q := fun q h => by rw [← hAe]; exact Or.inr h
  have hiX0 : ∀ w ∈ wsX00, w ∈ wsX0_shift := by decide +kernel
  have hl := lv_entry ([.ref h_t, .long a1, .int a3]) (n := 5) (Nat.le_of_ble_eq_true rfl)
  rw [lg_entry_eq]
  generalize (lg_sl ([.ref h_t, .long a1, .int a3]) ++ List.replicate (5 - (lg_sl ([.ref h_t, .long a1, .int a3])).length) Slot.unset).toArray = ls at hl ⊢
  have hl : lv_has ls 5 [(0, .ref h_t), (1, .long a1), (3, .int a3)] := hl
  have hf := ho
  have hw_3 : ∀  (n : Nat) (t_kept : Nat → Int32) (v4 : Int32), lp_X0_shift_3 a1 a3 n t_kept v4 = some o → ∀ (H : Heap) (locs : List Loc), va_P G.1 vwCl [(h_t, .inr (0, [.ref h_t_kept])), (h_t_kept, .inl (G.2.1.2.1, 64, .inl t_kept))] H → va_D A [(h_t, .inr (0, [.ref h_t_kept])), (h_t_kept, .inl (G.2.1.2.1, 64, .inl t_kept))] → va_S A s.heap H locs → ∀ (ls : Array Slot), lv_has ls 5 [(0, .ref h_t), (1, .long a1), (3, .int a3), (4, .int v4)] → W p l e (headSpec wsX0_shift ({ frames := 1, cells := 0, slots := 0, locals := 24 } : Room)).room s m ([.ref h_t, .long a1, .int a3] : List Value).toArray below meth c H locs 0 0 (MQ below (qcV Unit G (fun _ => True) (fun _ => [(h_t, .inr (0, [.ref h_t_kept])), (h_t_kept, .inl (G.2.1.2.1, 64, .inl o))]) A) ([.ref h_t, .long a1, .int a3] : List Value).toArray s 0 0 A) (F0 m 3 ls []) := by
    intro n
    induction n with
    | zero =>
      intro t_kept v4 hf
      exact absurd hf (by rw [lp_X0_shift_3]; intro h; cases h)
    | succ n ih =>
      intro t_kept v4 hf H locs hP hD hS ls hl
      rw [lp_X0_shift_3] at hf
      refine lv_iload hx hb dX0_shift_3 (lv_at hl 3 rfl) ?_
      refine lv_aload_n hx hb dX0_shift_5 rfl (lv_at hl 0 rfl) ?_
      refine va_get (D := G.1) (ci := 0) (v := .ref h_t_kept) (C := RX0) (T := TX0) (N := 1) hx hb hts hiX0 hown hg.1 hP 0 rfl rfl 0 (by decide) (hts (.fieldLink RX0 9 "AsARule$Doubts" "kept" "[I") (by decide +kernel)) (fun _ h9 => h9) rfl dX0_shift_6 ?_
      refine va_alen (v := (64 : Int32)) hx hb hg.1 hP 1 1 rfl rfl rfl dX0_shift_9 ?_
      refine lv_icmp_ge (tgt := 49) hx hb dX0_shift_10 (by decide) (fun c1 => ?_) (fun c1 => ?_)
      · have hf := it_t c1 hf
        rw [← Option.some.inj hf]
        exact rt_v (u := ()) hx hb hr hlocks hP hD trivial hS dX0_shift_49
      · have hf := it_f c1 hf
        refine lv_lload_n hx hb dX0_shift_13 rfl (lv_at hl 1 rfl) ?_
        refine lv_iload hx hb dX0_shift_14 (lv_at hl 3 rfl) ?_
        obtain ⟨o2, ho2, hf⟩ := bd_e hf
        refine af0_i (va_runSN (As := [.long a1, .int v4]) (rest := []) ⟨hx, hb, hml, hown, hts⟩ (c_X7_holds l G H.size a1 v4 o2 ho2) ⟨va_cnB (host := "AsARule") 2 hts gX0_shift_X7_holds_n21 rfl rfl rfl (hg.2 _ (List.mem_of_getElem? (i := 0) rfl)) (hts (.initialized RX7) (by decide +kernel)) (by decide +kernel) ⟨Nat.le_of_ble_eq_true rfl, Nat.le_of_ble_eq_true rfl⟩, (hts (.static yX7_holds) (by decide +kernel)), trivial⟩ (pcA_pre hg hc hP hD hS hA [] rfl rfl [.long a1, .int v4]) rfl rfl hl.1 rfl (lv_room (Nat.le_of_ble_eq_true rfl)) dX0_shift_16 ⟨Nat.zero_le _, Nat.zero_le _⟩) hP hD hS hA (fun H locs hP hD hS => ?_)
        refine lv_if_eq (tgt := 43) hx hb dX0_shift_19 (by decide) (fun c3 => ?_) (fun c3 => ?_)
        · have hf := it_t c3 hf
          obtain ⟨x4, ex4⟩ : ∃ y : Int32, y = (v4 + (1 : Int32)) := ⟨_, rfl⟩
          have hf := lt_n hf x4 ex4
          refine lv_iinc (v := x4) (lv' := [(4, .int x4), (0, .ref h_t), (1, .long a1), (3, .int a3)]) hx hb dX0_shift_43 hl (k := 3) rfl (by rw [ex4]; rfl) (by decide) rfl (fun ls hl => ?_)
          refine lv_goto (tgt := 3) hx hb dX0_shift_46 (by decide) ?_
          exact ih t_kept x4 hf _ _ hP hD hS _ (lv_sub hl [1, 2, 3, 0] rfl)
        · have hf := it_f c3 hf
          refine lv_aload_n hx hb dX0_shift_22 rfl (lv_at hl 0 rfl) ?_
          refine va_get (D := G.1) (ci := 0) (v := .ref h_t_kept) (C := RX0) (T := TX0) (N := 1) hx hb hts hiX0 hown hg.1 hP 0 rfl rfl 0 (by decide) (hts (.fieldLink RX0 9 "AsARule$Doubts" "kept" "[I") (by decide +kernel)) (fun _ h9 => h9) rfl dX0_shift_23 ?_
          refine lv_iload hx hb dX0_shift_26 (lv_at hl 3 rfl) ?_
          refine lv_bipush (v := (99 : Int32)) hx hb dX0_shift_28 (by decide) ?_
          refine lv_aload_n hx hb dX0_shift_30 rfl (lv_at hl 0 rfl) ?_
          refine va_get (D := G.1) (ci := 0) (v := .ref h_t_kept) (C := RX0) (T := TX0) (N := 1) hx hb hts hiX0 hown hg.1 hP 0 rfl rfl 0 (by decide) (hts (.fieldLink RX0 9 "AsARule$Doubts" "kept" "[I") (by decide +kernel)) (fun _ h9 => h9) rfl dX0_shift_31 ?_
          refine lv_iload hx hb dX0_shift_34 (lv_at hl 3 rfl) ?_
          refine va_iald hx hb hg.1 hP 1 1 rfl rfl (ib_in (gd_t hf)) dX0_shift_36 ?_
          have hf := gd_x hf
          refine lv_iload_n hx hb dX0_shift_37 rfl (lv_at hl 2 rfl) ?_
          refine lv_iadd hx hb dX0_shift_38 ?_
          refine va_mmin hx hb (by rw [hml]; exact hl.1.symm) hown (hts (.methodLink RX0 25 Lib.Math.min.name) (by decide +kernel)) (hts (.static Lib.Math.min.name) (by decide +kernel)) (hts (.initialized "java/lang/Math") (by decide +kernel)) (hts (.code Lib.Math.min.name Lib.Math.min.code 2 (some .int)) (by decide +kernel)) (Nat.le_of_ble_eq_true rfl) (Nat.le_of_ble_eq_true rfl) (Nat.le_of_ble_eq_true rfl) (Nat.le_of_ble_eq_true rfl) dX0_shift_39 ?_
          refine va_iast hx hb hg.1 hP hD hS 1 1 rfl rfl (ib_in (gd_t hf)) dX0_shift_42 (fun H locs hP hD hS => ?_)
          have hf := gd_x hf
          have hP : va_P G.1 vwCl [(h_t, .inr (0, [.ref h_t_kept])), (h_t_kept, .inl (G.2.1.2.1, 64, .inl (upd t_kept v4.toNatClampNeg (mnI (99 : Int32) ((t_kept v4.toNatClampNeg) + a3)))))] H := hP
          have hD : va_D A [(h_t, .inr (0, [.ref h_t_kept])), (h_t_kept, .inl (G.2.1.2.1, 64, .inl (upd t_kept v4.toNatClampNeg (mnI (99 : Int32) ((t_kept v4.toNatClampNeg) + a3)))))] := hD
          obtain ⟨x5, ex5⟩ : ∃ y : Int32, y = (v4 + (1 : Int32)) := ⟨_, rfl⟩
          have hf := lt_n hf x5 ex5
          refine lv_iinc (v := x5) (lv' := [(4, .int x5), (0, .ref h_t), (1, .long a1), (3, .int a3)]) hx hb dX0_shift_43 hl (k := 3) rfl (by rw [ex5]; rfl) (by decide) rfl (fun ls hl => ?_)
          refine lv_goto (tgt := 3) hx hb dX0_shift_46 (by decide) ?_
          exact ih (upd t_kept v4.toNatClampNeg (mnI (99 : Int32) ((t_kept v4.toNatClampNeg) + a3))) x5 hf _ _ hP hD hS _ (lv_sub hl [1, 2, 3, 0] rfl)
  unfold f_X0_shift at hf
  refine en (fun H locs hP hD hS => ?_) hP hD
  refine lv_iconst (v := (0 : Int32)) hx hb dX0_shift_0 (by decide) ?_
  refine lv_istore (lv' := [(4, .int (0 : Int32)), (0, .ref h_t), (1, .long a1), (3, .int a3)]) hx hb dX0_shift_1 hl (by decide) rfl (fun ls hl => ?_)
  exact hw_3 fu t_kept (0 : Int32) hf _ _ hP hD hS _ (lv_sub hl [1, 2, 3, 0] rfl)
-- method X0_free
def lp_X0_free_4 (t_kept : Nat → Int32) : Nat → Int32 → Int32 → Option (Int32)
  | 0, _, _ => none
  | n + 1, v1, v2 => if (64 : Int32) ≤ v2 then some (v1) else gd (ib v2 64) (if (t_kept v2.toNatClampNeg) = (0 : Int32) then lt (v1 + (1 : Int32)) (fun x4 => lt (v2 + (1 : Int32)) (fun x5 => lp_X0_free_4 t_kept n x4 x5)) else lt (v2 + (1 : Int32)) (fun x3 => lp_X0_free_4 t_kept n v1 x3))
def f_X0_free (t_kept : Nat → Int32) : Option (Int32) :=
  lp_X0_free_4 t_kept fu (0 : Int32) (0 : Int32)
set_option maxHeartbeats 4000000 in
set_option maxRecDepth 100000 in
theorem c_X0_free (l : Launch) (G : GG) (h_t h_t_kept : Nat) (sz : Nat) (t_kept : Nat → Int32)  (o : Int32) (ho : f_X0_free t_kept = some o)  : Met l yX0_free wsX0_free ({ frames := 0, cells := 0, slots := 0, locals := 0 } : Room) (pcA G [.ref h_t] [(h_t, .inr (0, [.ref h_t_kept])), (h_t_kept, .inl (G.2.1.2.1, 64, .inl t_kept))] sz) (qcI Unit G o (fun _ => True) (fun _ => [(h_t, .inr (0, [.ref h_t_kept])), (h_t_kept, .inl (G.2.1.2.1, 64, .inl t_kept))]) (va_A [(h_t, .inr (0, [.ref h_t_kept])), (h_t_kept, .inl (G.2.1.2.1, 64, .inl t_kept))] sz)) 0 0 (va_A [(h_t, .inr (0, [.ref h_t_kept])), (h_t_kept, .inl (G.2.1.2.1, 64, .inl t_kept))] sz) := by
  refine Met.ofW (cc := cX0_free) (maxL := 3) (ret := (some .int)) (by decide) rfl ?_
  intro p e s m args below meth c s₁ B hml hv
  obtain ⟨rfl, hsz, hP, hg, hD0, hc⟩ := hv
  have hx := B.exec
  have hb := B.bytes
  have hr := B.returns
  have hts := atoms_spec (ws := wsX0_free) B.pre
  have hown : s.vm.findClass RX0 = some m.cls := findClass_of_methodNamed B.named
  have hlocks := B.notSynchronized
  subst hsz
  have hD := hD0.self (sz := s.heap.size)
  generalize hAe : va_A [(h_t, .inr (0, [.ref h_t_kept])), (h_t_kept, .inl (G.2.1.2.1, 64, .inl t_kept))] s.heap.size = A at hD hc ⊢
  have hA : ∀ q : Nat, s.heap.size ≤ q → A q := fun q h => by rw [← hAe]; exact Or.inr h
  have hiX0 : ∀ w ∈ wsX00, w ∈ wsX0_free := by decide +kernel
  have hl := lv_entry ([.ref h_t]) (n := 3) (Nat.le_of_ble_eq_true rfl)
  rw [lg_entry_eq]
  generalize (lg_sl ([.ref h_t]) ++ List.replicate (3 - (lg_sl ([.ref h_t])).length) Slot.unset).toArray = ls at hl ⊢
  have hl : lv_has ls 3 [(0, .ref h_t)] := hl
  have hf := ho
  have hw_4 : ∀  (n : Nat) (v1 : Int32) (v2 : Int32), lp_X0_free_4 t_kept n v1 v2 = some o → ∀ (H : Heap) (locs : List Loc), va_P G.1 vwCl [(h_t, .inr (0, [.ref h_t_kept])), (h_t_kept, .inl (G.2.1.2.1, 64, .inl t_kept))] H → va_D A [(h_t, .inr (0, [.ref h_t_kept])), (h_t_kept, .inl (G.2.1.2.1, 64, .inl t_kept))] → va_S A s.heap H locs → ∀ (ls : Array Slot), lv_has ls 3 [(0, .ref h_t), (1, .int v1), (2, .int v2)] → W p l e (headSpec wsX0_free ({ frames := 0, cells := 0, slots := 0, locals := 0 } : Room)).room s m ([.ref h_t] : List Value).toArray below meth c H locs 0 0 (MQ below (qcI Unit G o (fun _ => True) (fun _ => [(h_t, .inr (0, [.ref h_t_kept])), (h_t_kept, .inl (G.2.1.2.1, 64, .inl t_kept))]) A) ([.ref h_t] : List Value).toArray s 0 0 A) (F0 m 4 ls []) := by
    intro n
    induction n with
    | zero =>
      intro v1 v2 hf
      exact absurd hf (by rw [lp_X0_free_4]; intro h; cases h)
    | succ n ih =>
      intro v1 v2 hf H locs hP hD hS ls hl
      rw [lp_X0_free_4] at hf
      refine lv_iload_n hx hb dX0_free_4 rfl (lv_at hl 2 rfl) ?_
      refine lv_aload_n hx hb dX0_free_5 rfl (lv_at hl 0 rfl) ?_
      refine va_get (D := G.1) (ci := 0) (v := .ref h_t_kept) (C := RX0) (T := TX0) (N := 1) hx hb hts hiX0 hown hg.1 hP 0 rfl rfl 0 (by decide) (hts (.fieldLink RX0 9 "AsARule$Doubts" "kept" "[I") (by decide +kernel)) (fun _ h9 => h9) rfl dX0_free_6 ?_
      refine va_alen (v := (64 : Int32)) hx hb hg.1 hP 1 1 rfl rfl rfl dX0_free_9 ?_
      refine lv_icmp_ge (tgt := 31) hx hb dX0_free_10 (by decide) (fun c1 => ?_) (fun c1 => ?_)
      · have hf := it_t c1 hf
        refine lv_iload_n hx hb dX0_free_31 rfl (lv_at hl 1 rfl) ?_
        rw [← Option.some.inj hf]
        exact rt_i (u := ()) hx hb hr hlocks hP hD trivial hS dX0_free_32
      · have hf := it_f c1 hf
        refine lv_aload_n hx hb dX0_free_13 rfl (lv_at hl 0 rfl) ?_
        refine va_get (D := G.1) (ci := 0) (v := .ref h_t_kept) (C := RX0) (T := TX0) (N := 1) hx hb hts hiX0 hown hg.1 hP 0 rfl rfl 0 (by decide) (hts (.fieldLink RX0 9 "AsARule$Doubts" "kept" "[I") (by decide +kernel)) (fun _ h9 => h9) rfl dX0_free_14 ?_
        refine lv_iload_n hx hb dX0_free_17 rfl (lv_at hl 2 rfl) ?_
        refine va_iald hx hb hg.1 hP 1 1 rfl rfl (ib_in (gd_t hf)) dX0_free_18 ?_
        have hf := gd_x hf
        refine lv_if_ne (tgt := 25) hx hb dX0_free_19 (by decide) (fun c2 => ?_) (fun c2 => ?_)
        · have hf := it_f c2 hf
          obtain ⟨x3, ex3⟩ : ∃ y : Int32, y = (v2 + (1 : Int32)) := ⟨_, rfl⟩
          have hf := lt_n hf x3 ex3
          refine lv_iinc (v := x3) (lv' := [(2, .int x3), (0, .ref h_t), (1, .int v1)]) hx hb dX0_free_25 hl (k := 2) rfl (by rw [ex3]; rfl) (by decide) rfl (fun ls hl => ?_)
          refine lv_goto (tgt := 4) hx hb dX0_free_28 (by decide) ?_
          exact ih v1 x3 hf _ _ hP hD hS _ (lv_sub hl [1, 2, 0] rfl)
        · have hf := it_t c2 hf
          obtain ⟨x4, ex4⟩ : ∃ y : Int32, y = (v1 + (1 : Int32)) := ⟨_, rfl⟩
          have hf := lt_n hf x4 ex4
          refine lv_iinc (v := x4) (lv' := [(1, .int x4), (0, .ref h_t), (2, .int v2)]) hx hb dX0_free_22 hl (k := 1) rfl (by rw [ex4]; rfl) (by decide) rfl (fun ls hl => ?_)
          obtain ⟨x5, ex5⟩ : ∃ y : Int32, y = (v2 + (1 : Int32)) := ⟨_, rfl⟩
          have hf := lt_n hf x5 ex5
          refine lv_iinc (v := x5) (lv' := [(2, .int x5), (1, .int x4), (0, .ref h_t)]) hx hb dX0_free_25 hl (k := 2) rfl (by rw [ex5]; rfl) (by decide) rfl (fun ls hl => ?_)
          refine lv_goto (tgt := 4) hx hb dX0_free_28 (by decide) ?_
          exact ih x4 x5 hf _ _ hP hD hS _ (lv_sub hl [2, 1, 0] rfl)
  unfold f_X0_free at hf
  refine en (fun H locs hP hD hS => ?_) hP hD
  refine lv_iconst (v := (0 : Int32)) hx hb dX0_free_0 (by decide) ?_
  refine lv_istore_n (lv' := [(1, .int (0 : Int32)), (0, .ref h_t)]) hx hb dX0_free_1 rfl hl (by decide) rfl (fun ls hl => ?_)
  refine lv_iconst (v := (0 : Int32)) hx hb dX0_free_2 (by decide) ?_
  refine lv_istore_n (lv' := [(2, .int (0 : Int32)), (1, .int (0 : Int32)), (0, .ref h_t)]) hx hb dX0_free_3 rfl hl (by decide) rfl (fun ls hl => ?_)
  exact hw_4 fu (0 : Int32) (0 : Int32) hf _ _ hP hD hS _ (lv_sub hl [2, 1, 0] rfl)
