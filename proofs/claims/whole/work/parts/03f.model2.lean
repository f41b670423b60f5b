-- method X8_allOf
def lp_X8_allOf_7 (t_said : Nat → Int64) (t_many : Nat → Int32) (a1 : Int32) : Nat → Int64 → Int32 → Option (Int64)
  | 0, _, _ => none
  | n + 1, v2, v4 => gd (ib a1 5) (if (t_many a1.toNatClampNeg) ≤ v4 then some (v2) else gd (ib (((9 : Int32) * a1) + v4) 45) (lt (v2 &&& (t_said (((9 : Int32) * a1) + v4).toNatClampNeg)) (fun x2 => lt (v4 + (1 : Int32)) (fun x3 => lp_X8_allOf_7 t_said t_many a1 n x2 x3))))
def f_X8_allOf (t_said : Nat → Int64) (t_many : Nat → Int32) (a1 : Int32) : Option (Int64) :=
  lp_X8_allOf_7 t_said t_many a1 fu (-1 : Int64) (0 : Int32)
set_option maxHeartbeats 4000000 in
set_option maxRecDepth 100000 in
theorem c_X8_allOf (l : Launch) (G : GG) (h_t h_t_text h_t_said h_t_many h_t_grades h_t_doubts h_t_vals h_t_waits h_t_fresh h_t_freshMany : Nat) (sz : Nat) (t_trace : Int64) (t_typed : Int32) (t_when : Int64) (t_then : Int64) (t_at : Int32) (t_token : Int32) (t_start : Int32) (t_valMany : Int32) (t_waitMany : Int32) (t_open : Int32) (t_saying : Int64) (t_quarrel : Int32) (t_said : Nat → Int64) (t_many : Nat → Int32) (a1 : Int32) (o : Int64) (ho : f_X8_allOf t_said t_many a1 = some o)  : Met l yX8_allOf wsX8_allOf ({ frames := 0, cells := 0, slots := 0, locals := 0 } : Room) (pcA G [.ref h_t, .int a1] [(h_t, .inr (8, [.long t_trace, .ref h_t_text, .int t_typed, .ref h_t_said, .ref h_t_many, .long t_when, .long t_then, .ref h_t_grades, .ref h_t_doubts, .int t_at, .int t_token, .int t_start, .ref h_t_vals, .ref h_t_waits, .int t_valMany, .int t_waitMany, .int t_open, .long t_saying, .ref h_t_fresh, .ref h_t_freshMany, .int t_quarrel])), (h_t_said, .inl (G.2.1.2.2, 45, .inr (.inl t_said))), (h_t_many, .inl (G.2.1.2.1, 5, .inl t_many))] sz) (qcL Unit G o (fun _ => True) (fun _ => [(h_t, .inr (8, [.long t_trace, .ref h_t_text, .int t_typed, .ref h_t_said, .ref h_t_many, .long t_when, .long t_then, .ref h_t_grades, .ref h_t_doubts, .int t_at, .int t_token, .int t_start, .ref h_t_vals, .ref h_t_waits, .int t_valMany, .int t_waitMany, .int t_open, .long t_saying, .ref h_t_fresh, .ref h_t_freshMany, .int t_quarrel])), (h_t_said, .inl (G.2.1.2.2, 45, .inr (.inl t_said))), (h_t_many, .inl (G.2.1.2.1, 5, .inl t_many))]) (va_A [(h_t, .inr (8, [.long t_trace, .ref h_t_text, .int t_typed, .ref h_t_said, .ref h_t_many, .long t_when, .long t_then, .ref h_t_grades, .ref h_t_doubts, .int t_at, .int t_token, .int t_start, .ref h_t_vals, .ref h_t_waits, .int t_valMany, .int t_waitMany, .int t_open, .long t_saying, .ref h_t_fresh, .ref h_t_freshMany, .int t_quarrel])), (h_t_said, .inl (G.2.1.2.2, 45, .inr (.inl t_said))), (h_t_many, .inl (G.2.1.2.1, 5, .inl t_many))] sz)) 0 0 (va_A [(h_t, .inr (8, [.long t_trace, .ref h_t_text, .int t_typed, .ref h_t_said, .ref h_t_many, .long t_when, .long t_then, .ref h_t_grades, .ref h_t_doubts, .int t_at, .int t_token, .int t_start, .ref h_t_vals, .ref h_t_waits, .int t_valMany, .int t_waitMany, .int t_open, .long t_saying, .ref h_t_fresh, .ref h_t_freshMany, .int t_quarrel])), (h_t_said, .inl (G.2.1.2.2, 45, .inr (.inl t_said))), (h_t_many, .inl (G.2.1.2.1, 5, .inl t_many))] sz) := by
  refine Met.ofW (cc := cX8_allOf) (maxL := 5) (ret := (some .long)) (by decide) rfl ?_
  intro p e s m args below meth c s₁ B hml hv
  obtain ⟨rfl, hsz, hP, hg, hD0, hc⟩ := hv
  have hx := B.exec
  have hb := B.bytes
  have hr := B.returns
  have hts := atoms_spec (ws := wsX8_allOf) B.pre
  have hown : s.vm.findClass RX8 = some m.cls := findClass_of_methodNamed B.named
  have hlocks := B.notSynchronized
  subst hsz
  have hD := hD0.self (sz := s.heap.size)
  generalize hAe : va_A [(h_t, .inr (8, [.long t_trace, .ref h_t_text, .int t_typed, .ref h_t_said, .ref h_t_many, .long t_when, .long t_then, .ref h_t_grades, .ref h_t_doubts, .int t_at, .int t_token, .int t_start, .ref h_t_vals, .ref h_t_waits, .int t_valMany, .int t_waitMany, .int t_open, .long t_saying, .ref h_t_fresh, .ref h_t_freshMany, .int t_quarrel])), (h_t_said, .inl (G.2.1.2.2, 45, .inr (.inl t_said))), (h_t_many, .inl (G.2.1.2.1, 5, .inl t_many))] s.heap.size = A at hD hc ⊢
  have hA : ∀ q : Nat, s.heap.size ≤ q → A q := fun q h => by rw [← hAe]; exact Or.inr h
  have hiX8 : ∀ w ∈ wsX80, w ∈ wsX8_allOf := by decide +kernel
  have hl := lv_entry ([.ref h_t, .int a1]) (n := 5) (Nat.le_of_ble_eq_true rfl)
  rw [lg_entry_eq]
  generalize (lg_sl ([.ref h_t, .int a1]) ++ List.replicate (5 - (lg_sl ([.ref h_t, .int a1])).length) Slot.unset).toArray = ls at hl ⊢
  have hl : lv_has ls 5 [(0, .ref h_t), (1, .int a1)] := hl
  have hf := ho
  have hw_7 : ∀  (n : Nat) (v2 : Int64) (v4 : Int32), lp_X8_allOf_7 t_said t_many a1 n v2 v4 = some o → ∀ (H : Heap) (locs : List Loc), va_P G.1 vwCl [(h_t, .inr (8, [.long t_trace, .ref h_t_text, .int t_typed, .ref h_t_said, .ref h_t_many, .long t_when, .long t_then, .ref h_t_grades, .ref h_t_doubts, .int t_at, .int t_token, .int t_start, .ref h_t_vals, .ref h_t_waits, .int t_valMany, .int t_waitMany, .int t_open, .long t_saying, .ref h_t_fresh, .ref h_t_freshMany, .int t_quarrel])), (h_t_said, .inl (G.2.1.2.2, 45, .inr (.inl t_said))), (h_t_many, .inl (G.2.1.2.1, 5, .inl t_many))] H → va_D A [(h_t, .inr (8, [.long t_trace, .ref h_t_text, .int t_typed, .ref h_t_said, .ref h_t_many, .long t_when, .long t_then, .ref h_t_grades, .ref h_t_doubts, .int t_at, .int t_token, .int t_start, .ref h_t_vals, .ref h_t_waits, .int t_valMany, .int t_waitMany, .int t_open, .long t_saying, .ref h_t_fresh, .ref h_t_freshMany, .int t_quarrel])), (h_t_said, .inl (G.2.1.2.2, 45, .inr (.inl t_said))), (h_t_many, .inl (G.2.1.2.1, 5, .inl t_many))] → va_S A s.heap H locs → ∀ (ls : Array Slot), lv_has ls 5 [(0, .ref h_t), (1, .int a1), (2, .long v2), (4, .int v4)] → W p l e (headSpec wsX8_allOf ({ frames := 0, cells := 0, slots := 0, locals := 0 } : Room)).room s m ([.ref h_t, .int a1] : List Value).toArray below meth c H locs 0 0 (MQ below (qcL Unit G o (fun _ => True) (fun _ => [(h_t, .inr (8, [.long t_trace, .ref h_t_text, .int t_typed, .ref h_t_said, .ref h_t_many, .long t_when, .long t_then, .ref h_t_grades, .ref h_t_doubts, .int t_at, .int t_token, .int t_start, .ref h_t_vals, .ref h_t_waits, .int t_valMany, .int t_waitMany, .int t_open, .long t_saying, .ref h_t_fresh, .ref h_t_freshMany, .int t_quarrel])), (h_t_said, .inl (G.2.1.2.2, 45, .inr (.inl t_said))), (h_t_many, .inl (G.2.1.2.1, 5, .inl t_many))]) A) ([.ref h_t, .int a1] : List Value).toArray s 0 0 A) (F0 m 7 ls []) := by
    intro n
    induction n with
    | zero =>
      intro v2 v4 hf
      exact absurd hf (by rw [lp_X8_allOf_7]; intro h; cases h)
    | succ n ih =>
      intro v2 v4 hf H locs hP hD hS ls hl
      rw [lp_X8_allOf_7] at hf
      refine lv_iload hx hb dX8_allOf_7 (lv_at hl 3 rfl) ?_
      refine lv_aload_n hx hb dX8_allOf_9 rfl (lv_at hl 0 rfl) ?_
      refine va_get (D := G.1) (ci := 8) (v := .ref h_t_many) (C := RX8) (T := TX8) (N := 21) hx hb hts hiX8 hown hg.1 hP 0 rfl rfl 4 (by decide) (hts (.fieldLink RX8 17 "AsARuleModel" "many" "[I") (by decide +kernel)) (fun _ h9 => h9) rfl dX8_allOf_10 ?_
      refine lv_iload_n hx hb dX8_allOf_13 rfl (lv_at hl 1 rfl) ?_
      refine va_iald hx hb hg.1 hP 2 1 rfl rfl (ib_in (gd_t hf)) dX8_allOf_14 ?_
      have hf := gd_x hf
      refine lv_icmp_ge (tgt := 39) hx hb dX8_allOf_15 (by decide) (fun c1 => ?_) (fun c1 => ?_)
      · have hf := it_t c1 hf
        refine lv_lload_n hx hb dX8_allOf_39 rfl (lv_at hl 2 rfl) ?_
        rw [← Option.some.inj hf]
        exact rt_l (u := ()) hx hb hr hlocks hP hD trivial hS dX8_allOf_40
      · have hf := it_f c1 hf
        refine lv_lload_n hx hb dX8_allOf_18 rfl (lv_at hl 2 rfl) ?_
        refine lv_aload_n hx hb dX8_allOf_19 rfl (lv_at hl 0 rfl) ?_
        refine va_get (D := G.1) (ci := 8) (v := .ref h_t_said) (C := RX8) (T := TX8) (N := 21) hx hb hts hiX8 hown hg.1 hP 0 rfl rfl 3 (by decide) (hts (.fieldLink RX8 13 "AsARuleModel" "said" "[J") (by decide +kernel)) (fun _ h9 => h9) rfl dX8_allOf_20 ?_
        refine lv_bipush (v := (9 : Int32)) hx hb dX8_allOf_23 (by decide) ?_
        refine lv_iload_n hx hb dX8_allOf_25 rfl (lv_at hl 1 rfl) ?_
        refine lv_imul hx hb dX8_allOf_26 ?_
        refine lv_iload hx hb dX8_allOf_27 (lv_at hl 3 rfl) ?_
        refine lv_iadd hx hb dX8_allOf_29 ?_
        refine va_lald hx hb hg.1 hP 1 2 rfl rfl (ib_in (gd_t hf)) dX8_allOf_30 ?_
        have hf := gd_x hf
        refine lv_land hx hb dX8_allOf_31 ?_
        refine lv_topl (fun x2 ex2 => ?_)
        have hf := lt_n hf x2 ex2
        refine lv_lstore_n (lv' := [(2, .long x2), (0, .ref h_t), (1, .int a1), (4, .int v4)]) hx hb dX8_allOf_32 rfl hl (by decide) rfl (fun ls hl => ?_)
        obtain ⟨x3, ex3⟩ : ∃ y : Int32, y = (v4 + (1 : Int32)) := ⟨_, rfl⟩
        have hf := lt_n hf x3 ex3
        refine lv_iinc (v := x3) (lv' := [(4, .int x3), (2, .long x2), (0, .ref h_t), (1, .int a1)]) hx hb dX8_allOf_33 hl (k := 3) rfl (by rw [ex3]; rfl) (by decide) rfl (fun ls hl => ?_)
        refine lv_goto (tgt := 7) hx hb dX8_allOf_36 (by decide) ?_
        exact ih x2 x3 hf _ _ hP hD hS _ (lv_sub hl [2, 3, 1, 0] rfl)
  unfold f_X8_allOf at hf
  refine en (fun H locs hP hD hS => ?_) hP hD
  refine lv_ldc2 (v := (-1 : Int64)) hx hb hown (hts (.constantLong RX8 38 (-1 : Int64)) (by decide +kernel)) dX8_allOf_0 ?_
  refine lv_lstore_n (lv' := [(2, .long (-1 : Int64)), (0, .ref h_t), (1, .int a1)]) hx hb dX8_allOf_3 rfl hl (by decide) rfl (fun ls hl => ?_)
  refine lv_iconst (v := (0 : Int32)) hx hb dX8_allOf_4 (by decide) ?_
  refine lv_istore (lv' := [(4, .int (0 : Int32)), (2, .long (-1 : Int64)), (0, .ref h_t), (1, .int a1)]) hx hb dX8_allOf_5 hl (by decide) rfl (fun ls hl => ?_)
  exact hw_7 fu (-1 : Int64) (0 : Int32) hf _ _ hP hD hS _ (lv_sub hl [2, 3, 1, 0] rfl)
-- method X8_thereNow
def f_X8_thereNow (t_said : Nat → Int64) (t_many : Nat → Int32) : Option (Int64) :=
  bd (f_X8_allOf t_said t_many (0 : Int32)) (fun o1 => some (o1))
set_option maxHeartbeats 4000000 in
set_option maxRecDepth 100000 in
theorem c_X8_thereNow (l : Launch) (G : GG) (h_t h_t_text h_t_said h_t_many h_t_grades h_t_doubts h_t_vals h_t_waits h_t_fresh h_t_freshMany : Nat) (sz : Nat) (t_trace : Int64) (t_typed : Int32) (t_when : Int64) (t_then : Int64) (t_at : Int32) (t_token : Int32) (t_start : Int32) (t_valMany : Int32) (t_waitMany : Int32) (t_open : Int32) (t_saying : Int64) (t_quarrel : Int32) (t_said : Nat → Int64) (t_many : Nat → Int32)  (o : Int64) (ho : f_X8_thereNow t_said t_many = some o)  : Met l yX8_thereNow wsX8_thereNow ({ frames := 1, cells := 0, slots := 0, locals := 24 } : Room) (pcA G [.ref h_t] [(h_t, .inr (8, [.long t_trace, .ref h_t_text, .int t_typed, .ref h_t_said, .ref h_t_many, .long t_when, .long t_then, .ref h_t_grades, .ref h_t_doubts, .int t_at, .int t_token, .int t_start, .ref h_t_vals, .ref h_t_waits, .int t_valMany, .int t_waitMany, .int t_open, .long t_saying, .ref h_t_fresh, .ref h_t_freshMany, .int t_quarrel])), (h_t_said, .inl (G.2.1.2.2, 45, .inr (.inl t_said))), (h_t_many, .inl (G.2.1.2.1, 5, .inl t_many))] sz) (qcL Unit G o (fun _ => True) (fun _ => [(h_t, .inr (8, [.long t_trace, .ref h_t_text, .int t_typed, .ref h_t_said, .ref h_t_many, .long t_when, .long t_then, .ref h_t_grades, .ref h_t_doubts, .int t_at, .int t_token, .int t_start, .ref h_t_vals, .ref h_t_waits, .int t_valMany, .int t_waitMany, .int t_open, .long t_saying, .ref h_t_fresh, .ref h_t_freshMany, .int t_quarrel])), (h_t_said, .inl (G.2.1.2.2, 45, .inr (.inl t_said))), (h_t_many, .inl (G.2.1.2.1, 5, .inl t_many))]) (va_A [(h_t, .inr (8, [.long t_trace, .ref h_t_text, .int t_typed, .ref h_t_said, .ref h_t_many, .long t_when, .long t_then, .ref h_t_grades, .ref h_t_doubts, .int t_at, .int t_token, .int t_start, .ref h_t_vals, .ref h_t_waits, .int t_valMany, .int t_waitMany, .int t_open, .long t_saying, .ref h_t_fresh, .ref h_t_freshMany, .int t_quarrel])), (h_t_said, .inl (G.2.1.2.2, 45, .inr (.inl t_said))), (h_t_many, .inl (G.2.1.2.1, 5, .inl t_many))] sz)) 0 0 (va_A [(h_t, .inr (8, [.long t_trace, .ref h_t_text, .int t_typed, .ref h_t_said, .ref h_t_many, .long t_when, .long t_then, .ref h_t_grades, .ref h_t_doubts, .int t_at, .int t_token, .int t_start, .ref h_t_vals, .ref h_t_waits, .int t_valMany, .int t_waitMany, .int t_open, .long t_saying, .ref h_t_fresh, .ref h_t_freshMany, .int t_quarrel])), (h_t_said, .inl (G.2.1.2.2, 45, .inr (.inl t_said))), (h_t_many, .inl (G.2.1.2.1, 5, .inl t_many))] sz) := by
  refine Met.ofW (cc := cX8_thereNow) (maxL := 1) (ret := (some .long)) (by decide) rfl ?_
  intro p e s m args below meth c s₁ B hml hv
  obtain ⟨rfl, hsz, hP, hg, hD0, hc⟩ := hv
  have hx := B.exec
  have hb := B.bytes
  have hr := B.returns
  have hts := atoms_spec (ws := wsX8_thereNow) B.pre
  have hown : s.vm.findClass RX8 = some m.cls := findClass_of_methodNamed B.named
  have hlocks := B.notSynchronized
  subst hsz
  have hD := hD0.self (sz := s.heap.size)
  generalize hAe : va_A [(h_t, .inr (8, [.long t_trace, .ref h_t_text, .int t_typed, .ref h_t_said, .ref h_t_many, .long t_when, .long t_then, .ref h_t_grades, .ref h_t_doubts, .int t_at, .int t_token, .int t_start, .ref h_t_vals, .ref h_t_waits, .int t_valMany, .int t_waitMany, .int t_open, .long t_saying, .ref h_t_fresh, .ref h_t_freshMany, .int t_quarrel])), (h_t_said, .inl (G.2.1.2.2, 45, .inr (.inl t_said))), (h_t_many, .inl (G.2.1.2.1, 5, .inl t_many))] s.heap.size = A at hD hc ⊢
  have hA : ∀ q : Nat, s.heap.size ≤ q → A q := fun q h => by rw [← hAe]; exact Or.inr h
  have hl := lv_entry ([.ref h_t]) (n := 1) (Nat.le_of_ble_eq_true rfl)
  rw [lg_entry_eq]
  generalize (lg_sl ([.ref h_t]) ++ List.replicate (1 - (lg_sl ([.ref h_t])).length) Slot.unset).toArray = ls at hl ⊢
  have hl : lv_has ls 1 [(0, .ref h_t)] := hl
  have hf := ho
  unfold f_X8_thereNow at hf
  refine en (fun H locs hP hD hS => ?_) hP hD
  refine lv_aload_n hx hb dX8_thereNow_0 rfl (lv_at hl 0 rfl) ?_
  refine lv_iconst (v := (0 : Int32)) hx hb dX8_thereNow_1 (by decide) ?_
  obtain ⟨o1, ho1, hf⟩ := bd_e hf
  refine af_l (wr := []) (va_runV (As := [.int (0 : Int32)]) (rest := []) ⟨hx, hb, hml, hown, hts⟩ (c_X8_allOf l G h_t h_t_text h_t_said h_t_many h_t_grades h_t_doubts h_t_vals h_t_waits h_t_fresh h_t_freshMany H.size t_trace t_typed t_when t_then t_at t_token t_start t_valMany t_waitMany t_open t_saying t_quarrel t_said t_many (0 : Int32) o1 ho1) (cwV 1 hts gX8_thereNow_X8_allOf rfl rfl rfl (by decide +kernel) ⟨Nat.le_of_ble_eq_true rfl, Nat.le_of_ble_eq_true rfl⟩) (pcA_preV hg hc hP hD hS hA [0, 1, 2] rfl (by decide) (q0 := 0) (ci := 8) rfl rfl rfl) rfl rfl hl.1 rfl (lv_room (Nat.le_of_ble_eq_true rfl)) dX8_thereNow_2 ⟨Nat.zero_le _, Nat.zero_le _⟩) hP hD hS hA [0, 1, 2] [] rfl rfl (by decide) (by decide) (fun _ H locs _ hP hD hS => ?_)
  have hP : va_P G.1 vwCl [(h_t, .inr (8, [.long t_trace, .ref h_t_text, .int t_typed, .ref h_t_said, .ref h_t_many, .long t_when, .long t_then, .ref h_t_grades, .ref h_t_doubts, .int t_at, .int t_token, .int t_start, .ref h_t_vals, .ref h_t_waits, .int t_valMany, .int t_waitMany, .int t_open, .long t_saying, .ref h_t_fresh, .ref h_t_freshMany, .int t_quarrel])), (h_t_said, .inl (G.2.1.2.2, 45, .inr (.inl t_said))), (h_t_many, .inl (G.2.1.2.1, 5, .inl t_many))] H := hP
  have hD : va_D A [(h_t, .inr (8, [.long t_trace, .ref h_t_text, .int t_typed, .ref h_t_said, .ref h_t_many, .long t_when, .long t_then, .ref h_t_grades, .ref h_t_doubts, .int t_at, .int t_token, .int t_start, .ref h_t_vals, .ref h_t_waits, .int t_valMany, .int t_waitMany, .int t_open, .long t_saying, .ref h_t_fresh, .ref h_t_freshMany, .int t_quarrel])), (h_t_said, .inl (G.2.1.2.2, 45, .inr (.inl t_said))), (h_t_many, .inl (G.2.1.2.1, 5, .inl t_many))] := hD
  rw [← Option.some.inj hf]
  exact rt_l (u := ()) hx hb hr hlocks hP hD trivial hS dX8_thereNow_5
-- method X8_broken
def f_X8_broken (t_said : Nat → Int64) (a1 : Int32) : Option (Int64) :=
  gd (ib ((9 : Int32) + a1) 45) (gd (ib ((18 : Int32) + a1) 45) (some (((t_said ((9 : Int32) + a1).toNatClampNeg) &&& ((t_said ((18 : Int32) + a1).toNatClampNeg) ^^^ (-1 : Int64))))))
set_option maxHeartbeats 4000000 in
set_option maxRecDepth 100000 in
theorem c_X8_broken (l : Launch) (G : GG) (h_t h_t_text h_t_said h_t_many h_t_grades h_t_doubts h_t_vals h_t_waits h_t_fresh h_t_freshMany : Nat) (sz : Nat) (t_trace : Int64) (t_typed : Int32) (t_when : Int64) (t_then : Int64) (t_at : Int32) (t_token : Int32) (t_start : Int32) (t_valMany : Int32) (t_waitMany : Int32) (t_open : Int32) (t_saying : Int64) (t_quarrel : Int32) (t_said : Nat → Int64) (a1 : Int32) (o : Int64) (ho : f_X8_broken t_said a1 = some o)  : Met l yX8_broken wsX8_broken ({ frames := 0, cells := 0, slots := 0, locals := 0 } : Room) (pcA G [.ref h_t, .int a1] [(h_t, .inr (8, [.long t_trace, .ref h_t_text, .int t_typed, .ref h_t_said, .ref h_t_many, .long t_when, .long t_then, .ref h_t_grades, .ref h_t_doubts, .int t_at, .int t_token, .int t_start, .ref h_t_vals, .ref h_t_waits, .int t_valMany, .int t_waitMany, .int t_open, .long t_saying, .ref h_t_fresh, .ref h_t_freshMany, .int t_quarrel])), (h_t_said, .inl (G.2.1.2.2, 45, .inr (.inl t_said)))] sz) (qcL Unit G o (fun _ => True) (fun _ => [(h_t, .inr (8, [.long t_trace, .ref h_t_text, .int t_typed, .ref h_t_said, .ref h_t_many, .long t_when, .long t_then, .ref h_t_grades, .ref h_t_doubts, .int t_at, .int t_token, .int t_start, .ref h_t_vals, .ref h_t_waits, .int t_valMany, .int t_waitMany, .int t_open, .long t_saying, .ref h_t_fresh, .ref h_t_freshMany, .int t_quarrel])), (h_t_said, .inl (G.2.1.2.2, 45, .inr (.inl t_said)))]) (va_A [(h_t, .inr (8, [.long t_trace, .ref h_t_text, .int t_typed, .ref h_t_said, .ref h_t_many, .long t_when, .long t_then, .ref h_t_grades, .ref h_t_doubts, .int t_at, .int t_token, .int t_start, .ref h_t_vals, .ref h_t_waits, .int t_valMany, .int t_waitMany, .int t_open, .long t_saying, .ref h_t_fresh, .ref h_t_freshMany, .int t_quarrel])), (h_t_said, .inl (G.2.1.2.2, 45, .inr (.inl t_said)))] sz)) 0 0 (va_A [(h_t, .inr (8, [.long t_trace, .ref h_t_text, .int t_typed, .ref h_t_said, .ref h_t_many, .long t_when, .long t_then, .ref h_t_grades, .ref h_t_doubts, .int t_at, .int t_token, .int t_start, .ref h_t_vals, .ref h_t_waits, .int t_valMany, .int t_waitMany, .int t_open, .long t_saying, .ref h_t_fresh, .ref h_t_freshMany, .int t_quarrel])), (h_t_said, .inl (G.2.1.2.2, 45, .inr (.inl t_said)))] sz) := by
  refine Met.ofW (cc := cX8_broken) (maxL := 2) (ret := (some .long)) (by decide) rfl ?_
  intro p e s m args below meth c s₁ B hml hv
  obtain ⟨rfl, hsz, hP, hg, hD0, hc⟩ := hv
  have hx := B.exec
  have hb := B.bytes
  have hr := B.returns
  have hts := atoms_spec (ws := wsX8_broken) B.pre
  have hown : s.vm.findClass RX8 = some m.cls := findClass_of_methodNamed B.named
  have hlocks := B.notSynchronized
  subst hsz
  have hD := hD0.self (sz := s.heap.size)
  generalize hAe : va_A [(h_t, .inr (8, [.long t_trace, .ref h_t_text, .int t_typed, .ref h_t_said, .ref h_t_many, .long t_when, .long t_then, .ref h_t_grades, .ref h_t_doubts, .int t_at, .int t_token, .int t_start, .ref h_t_vals, .ref h_t_waits, .int t_valMany, .int t_waitMany, .int t_open, .long t_saying, .ref h_t_fresh, .ref h_t_freshMany, .int t_quarrel])), (h_t_said, .inl (G.2.1.2.2, 45, .inr (.inl t_said)))] s.heap.size = A at hD hc ⊢
  have hA : ∀ q : Nat, s.heap.size ≤ q → A q := fun q h => by rw [← hAe]; exact Or.inr h
  have hiX8 : ∀ w ∈ wsX80, w ∈ wsX8_broken := by decide +kernel
  have hl := lv_entry ([.ref h_t, .int a1]) (n := 2) (Nat.le_of_ble_eq_true rfl)
  rw [lg_entry_eq]
  generalize (lg_sl ([.ref h_t, .int a1]) ++ List.replicate (2 - (lg_sl ([.ref h_t, .int a1])).length) Slot.unset).toArray = ls at hl ⊢
  have hl : lv_has ls 2 [(0, .ref h_t), (1, .int a1)] := hl
  have hf := ho
  unfold f_X8_broken at hf
  refine en (fun H locs hP hD hS => ?_) hP hD
  refine lv_aload_n hx hb dX8_broken_0 rfl (lv_at hl 0 rfl) ?_
  refine va_get (D := G.1) (ci := 8) (v := .ref h_t_said) (C := RX8) (T := TX8) (N := 21) hx hb hts hiX8 hown hg.1 hP 0 rfl rfl 3 (by decide) (hts (.fieldLink RX8 13 "AsARuleModel" "said" "[J") (by decide +kernel)) (fun _ h9 => h9) rfl dX8_broken_1 ?_
  refine lv_bipush (v := (9 : Int32)) hx hb dX8_broken_4 (by decide) ?_
  refine lv_iload_n hx hb dX8_broken_6 rfl (lv_at hl 1 rfl) ?_
  refine lv_iadd hx hb dX8_broken_7 ?_
  refine va_lald hx hb hg.1 hP 1 2 rfl rfl (ib_in (gd_t hf)) dX8_broken_8 ?_
  have hf := gd_x hf
  refine lv_aload_n hx hb dX8_broken_9 rfl (lv_at hl 0 rfl) ?_
  refine va_get (D := G.1) (ci := 8) (v := .ref h_t_said) (C := RX8) (T := TX8) (N := 21) hx hb hts hiX8 hown hg.1 hP 0 rfl rfl 3 (by decide) (hts (.fieldLink RX8 13 "AsARuleModel" "said" "[J") (by decide +kernel)) (fun _ h9 => h9) rfl dX8_broken_10 ?_
  refine lv_bipush (v := (18 : Int32)) hx hb dX8_broken_13 (by decide) ?_
  refine lv_iload_n hx hb dX8_broken_15 rfl (lv_at hl 1 rfl) ?_
  refine lv_iadd hx hb dX8_broken_16 ?_
  refine va_lald hx hb hg.1 hP 1 2 rfl rfl (ib_in (gd_t hf)) dX8_broken_17 ?_
  have hf := gd_x hf
  refine lv_ldc2 (v := (-1 : Int64)) hx hb hown (hts (.constantLong RX8 38 (-1 : Int64)) (by decide +kernel)) dX8_broken_18 ?_
  refine lv_lxor hx hb dX8_broken_21 ?_
  refine lv_land hx hb dX8_broken_22 ?_
  rw [← Option.some.inj hf]
  exact rt_l (u := ()) hx hb hr hlocks hP hD trivial hS dX8_broken_23
-- method X8_grades
def jn_X8_grades_180 (t_said : Nat → Int64) (t_many : Nat → Int32) (a1 : Int32) (t_grades : Nat → Int32) (v2 : Int32) : Option (Int32 × (Nat → Int32)) :=
  if v2 = (0 : Int32) then some ((0 : Int32), t_grades) else some ((1 : Int32), t_grades)
def lp_X8_grades_99 (t_said : Nat → Int64) (t_many : Nat → Int32) (a1 : Int32) (k_32 : (Nat → Int32) → Int32 → Int32 → Int32 → Option (Int32 × (Nat → Int32))) (v2 : Int32) (v3 : Int32) (v5 : Int64) : Nat → (Nat → Int32) → Int32 → Int32 → Option (Int32 × (Nat → Int32))
  | 0, _, _, _ => none
  | n + 1, t_grades, v4, v7 => if a1 ≤ v7 then lt (v2 &&& (v4 ^^^ (-1 : Int32))) (fun x3 => lt (v3 + (1 : Int32)) (fun x4 => k_32 t_grades x3 x4 v4)) else if ((v2 >>> (v7 &&& 31)) &&& (1 : Int32)) = (1 : Int32) then gd (ib ((9 : Int32) + v7) 45) (gd (ib ((18 : Int32) + v7) 45) (if ((v5 &&& (t_said ((9 : Int32) + v7).toNatClampNeg)) &&& (t_said ((18 : Int32) + v7).toNatClampNeg)) = (0 : Int64) then lt (v7 + (1 : Int32)) (fun x8 => lp_X8_grades_99 t_said t_many a1 k_32 v2 v3 v5 n t_grades v4 x8) else lt (v4 ||| ((1 : Int32) <<< (v7 &&& 31))) (fun x9 => gd (ib v7 9) (lt (v7 + (1 : Int32)) (fun x10 => lp_X8_grades_99 t_said t_many a1 k_32 v2 v3 v5 n (upd t_grades v7.toNatClampNeg v3) x9 x10))))) else lt (v7 + (1 : Int32)) (fun x6 => lp_X8_grades_99 t_said t_many a1 k_32 v2 v3 v5 n t_grades v4 x6)
def lp_X8_grades_50 (t_said : Nat → Int64) (t_many : Nat → Int32) (a1 : Int32) (k_32 : (Nat → Int32) → Int32 → Int32 → Int32 → Option (Int32 × (Nat → Int32))) (t_grades : Nat → Int32) (v2 : Int32) (v3 : Int32) : Nat → Int64 → Int32 → Option (Int32 × (Nat → Int32))
  | 0, _, _ => none
  | n + 1, v5, v7 => if a1 ≤ v7 then lp_X8_grades_99 t_said t_many a1 k_32 v2 v3 v5 fu t_grades (0 : Int32) (0 : Int32) else if ((v2 >>> (v7 &&& 31)) &&& (1 : Int32)) = (1 : Int32) then bd (f_X8_broken t_said v7) (fun o15 => lt (v5 &&& (o15 ^^^ (-1 : Int64))) (fun x16 => lt (v7 + (1 : Int32)) (fun x17 => lp_X8_grades_50 t_said t_many a1 k_32 t_grades v2 v3 n x16 x17))) else lt (v5 &&& (-1 : Int64)) (fun x13 => lt (v7 + (1 : Int32)) (fun x14 => lp_X8_grades_50 t_said t_many a1 k_32 t_grades v2 v3 n x13 x14))
def lp_X8_grades_32 (t_said : Nat → Int64) (t_many : Nat → Int32) (a1 : Int32) : Nat → (Nat → Int32) → Int32 → Int32 → Int32 → Option (Int32 × (Nat → Int32))
  | 0, _, _, _, _ => none
  | n + 1, t_grades, v2, v3, v4 => if v2 = (0 : Int32) then jn_X8_grades_180 t_said t_many a1 t_grades v2 else if v4 = (0 : Int32) then jn_X8_grades_180 t_said t_many a1 t_grades v2 else bd (f_X8_thereNow t_said t_many) (fun o20 => lp_X8_grades_50 t_said t_many a1 (fun t_grades v2 v3 v4 => lp_X8_grades_32 t_said t_many a1 n t_grades v2 v3 v4) t_grades v2 v3 fu o20 (0 : Int32))
def lp_X8_grades_8 (t_said : Nat → Int64) (t_many : Nat → Int32) (a1 : Int32) (v2 : Int32) : Nat → (Nat → Int32) → Int32 → Option (Int32 × (Nat → Int32))
  | 0, _, _ => none
  | n + 1, t_grades, v3 => if a1 ≤ v3 then lp_X8_grades_32 t_said t_many a1 fu t_grades v2 (0 : Int32) v2 else gd (ib v3 9) (lt (v3 + (1 : Int32)) (fun x22 => lp_X8_grades_8 t_said t_many a1 v2 n (upd t_grades v3.toNatClampNeg (-9 : Int32)) x22))
def f_X8_grades (t_said : Nat → Int64) (t_many : Nat → Int32) (t_grades : Nat → Int32) (a1 : Int32) : Option (Int32 × (Nat → Int32)) :=
  lt (((1 : Int32) <<< (a1 &&& 31)) - (1 : Int32)) (fun x23 => lp_X8_grades_8 t_said t_many a1 x23 fu t_grades (0 : Int32))
set_option maxHeartbeats 4000000 in
set_option maxRecDepth 100000 in
theorem c_X8_grades (l : Launch) (G : GG) (h_t h_t_text h_t_said h_t_many h_t_grades h_t_doubts h_t_vals h_t_waits h_t_fresh h_t_freshMany : Nat) (sz : Nat) (t_trace : Int64) (t_typed : Int32) (t_when : Int64) (t_then : Int64) (t_at : Int32) (t_token : Int32) (t_start : Int32) (t_valMany : Int32) (t_waitMany : Int32) (t_open : Int32) (t_saying : Int64) (t_quarrel : Int32) (t_said : Nat → Int64) (t_many : Nat → Int32) (t_grades : Nat → Int32) (a1 : Int32) (o : Int32 × (Nat → Int32)) (ho : f_X8_grades t_said t_many t_grades a1 = some o)  : Met l yX8_grades wsX8_grades ({ frames := 2, cells := 0, slots := 0, locals := 44 } : Room) (pcA G [.ref h_t, .int a1] [(h_t, .inr (8, [.long t_trace, .ref h_t_text, .int t_typed, .ref h_t_said, .ref h_t_many, .long t_when, .long t_then, .ref h_t_grades, .ref h_t_doubts, .int t_at, .int t_token, .int t_start, .ref h_t_vals, .ref h_t_waits, .int t_valMany, .int t_waitMany, .int t_open, .long t_saying, .ref h_t_fresh, .ref h_t_freshMany, .int t_quarrel])), (h_t_said, .inl (G.2.1.2.2, 45, .inr (.inl t_said))), (h_t_many, .inl (G.2.1.2.1, 5, .inl t_many)), (h_t_grades, .inl (G.2.1.2.1, 9, .inl t_grades))] sz) (qcI Unit G o.1 (fun _ => True) (fun _ => [(h_t, .inr (8, [.long t_trace, .ref h_t_text, .int t_typed, .ref h_t_said, .ref h_t_many, .long t_when, .long t_then, .ref h_t_grades, .ref h_t_doubts, .int t_at, .int t_token, .int t_start, .ref h_t_vals, .ref h_t_waits, .int t_valMany, .int t_waitMany, .int t_open, .long t_saying, .ref h_t_fresh, .ref h_t_freshMany, .int t_quarrel])), (h_t_said, .inl (G.2.1.2.2, 45, .inr (.inl t_said))), (h_t_many, .inl (G.2.1.2.1, 5, .inl t_many)), (h_t_grades, .inl (G.2.1.2.1, 9, .inl o.2))]) (va_A [(h_t, .inr (8, [.long t_trace, .ref h_t_text, .int t_typed, .ref h_t_said, .ref h_t_many, .long t_when, .long t_then, .ref h_t_grades, .ref h_t_doubts, .int t_at, .int t_token, .int t_start, .ref h_t_vals, .ref h_t_waits, .int t_valMany, .int t_waitMany, .int t_open, .long t_saying, .ref h_t_fresh, .ref h_t_freshMany, .int t_quarrel])), (h_t_said, .inl (G.2.1.2.2, 45, .inr (.inl t_said))), (h_t_many, .inl (G.2.1.2.1, 5, .inl t_many)), (h_t_grades, .inl (G.2.1.2.1, 9, .inl t_grades))] sz)) 0 0 (va_A [(h_t, .inr (8, [.long t_trace, .ref h_t_text, .int t_typed, .ref h_t_said, .ref h_t_many, .long t_when, .long t_then, .ref h_t_grades, .ref h_t_doubts, .int t_at, .int t_token, .int t_start, .ref h_t_vals, .ref h_t_waits, .int t_valMany, .int t_waitMany, .int t_open, .long t_saying, .ref h_t_fresh, .ref h_t_freshMany, .int t_quarrel])), (h_t_said, .inl (G.2.1.2.2, 45, .inr (.inl t_said))), (h_t_many, .inl (G.2.1.2.1, 5, .inl t_many)), (h_t_grades, .inl (G.2.1.2.1, 9, .inl t_grades))] sz) := by
  refine Met.ofW (cc := cX8_grades) (maxL := 8) (ret := (some .boolean)) (by decide) rfl ?_
  intro p e s m args below meth c s₁ B hml hv
  obtain ⟨rfl, hsz, hP, hg, hD0, hc⟩ := hv
  have hx := B.exec
  have hb := B.bytes
  have hr := B.returns
  have hts := atoms_spec (ws := wsX8_grades) B.pre
  have hown : s.vm.findClass RX8 = some m.cls := findClass_of_methodNamed B.named
  have hlocks := B.notSynchronized
  subst hsz
  have hD := hD0.self (sz := s.heap.size)
  generalize hAe : va_A [(h_t, .inr (8, [.long t_trace, .ref h_t_text, .int t_typed, .ref h_t_said, .ref h_t_many, .long t_when, .long t_then, .ref h_t_grades, .ref h_t_doubts, .int t_at, .int t_token, .int t_start, .ref h_t_vals, .ref h_t_waits, .int t_valMany, .int t_waitMany, .int t_open, .long t_saying, .ref h_t_fresh, .ref h_t_freshMany, .int t_quarrel])), (h_t_said, .inl (G.2.1.2.2, 45, .inr (.inl t_said))), (h_t_many, .inl (G.2.1.2.1, 5, .inl t_many)), (h_t_grades, .inl (G.2.1.2.1, 9, .inl t_grades))] s.heap.size = A at hD hc ⊢
  have hA : ∀ q : Nat, s.heap.size ≤ q → A q := fun q h => by rw [← hAe]; exact Or.inr h
  have hiX8 : ∀ w ∈ wsX80, w ∈ wsX8_grades := by decide +kernel
  have hl := lv_entry ([.ref h_t, .int a1]) (n := 8) (Nat.le_of_ble_eq_true rfl)
  rw [lg_entry_eq]
  generalize (lg_sl ([.ref h_t, .int a1]) ++ List.replicate (8 - (lg_sl ([.ref h_t, .int a1])).length) Slot.unset).toArray = ls at hl ⊢
  have hl : lv_has ls 8 [(0, .ref h_t), (1, .int a1)] := hl
  have hf := ho
  have hw_180 : ∀ (t_grades : Nat → Int32) (v2 : Int32), jn_X8_grades_180 t_said t_many a1 t_grades v2 = some o → ∀ (H : Heap) (locs : List Loc), va_P G.1 vwCl [(h_t, .inr (8, [.long t_trace, .ref h_t_text, .int t_typed, .ref h_t_said, .ref h_t_many, .long t_when, .long t_then, .ref h_t_grades, .ref h_t_doubts, .int t_at, .int t_token, .int t_start, .ref h_t_vals, .ref h_t_waits, .int t_valMany, .int t_waitMany, .int t_open, .long t_saying, .ref h_t_fresh, .ref h_t_freshMany, .int t_quarrel])), (h_t_said, .inl (G.2.1.2.2, 45, .inr (.inl t_said))), (h_t_many, .inl (G.2.1.2.1, 5, .inl t_many)), (h_t_grades, .inl (G.2.1.2.1, 9, .inl t_grades))] H → va_D A [(h_t, .inr (8, [.long t_trace, .ref h_t_text, .int t_typed, .ref h_t_said, .ref h_t_many, .long t_when, .long t_then, .ref h_t_grades, .ref h_t_doubts, .int t_at, .int t_token, .int t_start, .ref h_t_vals, .ref h_t_waits, .int t_valMany, .int t_waitMany, .int t_open, .long t_saying, .ref h_t_fresh, .ref h_t_freshMany, .int t_quarrel])), (h_t_said, .inl (G.2.1.2.2, 45, .inr (.inl t_said))), (h_t_many, .inl (G.2.1.2.1, 5, .inl t_many)), (h_t_grades, .inl (G.2.1.2.1, 9, .inl t_grades))] → va_S A s.heap H locs → ∀ (ls : Array Slot), lv_has ls 8 [(2, .int v2)] → W p l e (headSpec wsX8_grades ({ frames := 2, cells := 0, slots := 0, locals := 44 } : Room)).room s m ([.ref h_t, .int a1] : List Value).toArray below meth c H locs 0 0 (MQ below (qcI Unit G o.1 (fun _ => True) (fun _ => [(h_t, .inr (8, [.long t_trace, .ref h_t_text, .int t_typed, .ref h_t_said, .ref h_t_many, .long t_when, .long t_then, .ref h_t_grades, .ref h_t_doubts, .int t_at, .int t_token, .int t_start, .ref h_t_vals, .ref h_t_waits, .int t_valMany, .int t_waitMany, .int t_open, .long t_saying, .ref h_t_fresh, .ref h_t_freshMany, .int t_quarrel])), (h_t_said, .inl (G.2.1.2.2, 45, .inr (.inl t_said))), (h_t_many, .inl (G.2.1.2.1, 5, .inl t_many)), (h_t_grades, .inl (G.2.1.2.1, 9, .inl o.2))]) A) ([.ref h_t, .int a1] : List Value).toArray s 0 0 A) (F0 m 180 ls []) := by
    intro t_grades v2 hf H locs hP hD hS ls hl
    unfold jn_X8_grades_180 at hf
    refine lv_iload_n hx hb dX8_grades_180 rfl (lv_at hl 0 rfl) ?_
    refine lv_if_eq (tgt := 188) hx hb dX8_grades_181 (by decide) (fun c1 => ?_) (fun c1 => ?_)
    · have hf := it_t c1 hf
      refine lv_iconst (v := (0 : Int32)) hx hb dX8_grades_188 (by decide) ?_
      rw [← Option.some.inj hf]
      exact rt_z (u := ()) hx hb hr zb_0 hlocks hP hD trivial hS dX8_grades_189
    · have hf := it_f c1 hf
      refine lv_iconst (v := (1 : Int32)) hx hb dX8_grades_184 (by decide) ?_
      refine lv_goto (tgt := 189) hx hb dX8_grades_185 (by decide) ?_
      rw [← Option.some.inj hf]
      exact rt_z (u := ()) hx hb hr zb_1 hlocks hP hD trivial hS dX8_grades_189
  have hw_99 : ∀ (k_32 : (Nat → Int32) → Int32 → Int32 → Int32 → Option (Int32 × (Nat → Int32))) (hk_32 : ∀ (t_grades : Nat → Int32) (v2 : Int32) (v3 : Int32) (v4 : Int32), k_32 t_grades v2 v3 v4 = some o → ∀ (H : Heap) (locs : List Loc), va_P G.1 vwCl [(h_t, .inr (8, [.long t_trace, .ref h_t_text, .int t_typed, .ref h_t_said, .ref h_t_many, .long t_when, .long t_then, .ref h_t_grades, .ref h_t_doubts, .int t_at, .int t_token, .int t_start, .ref h_t_vals, .ref h_t_waits, .int t_valMany, .int t_waitMany, .int t_open, .long t_saying, .ref h_t_fresh, .ref h_t_freshMany, .int t_quarrel])), (h_t_said, .inl (G.2.1.2.2, 45, .inr (.inl t_said))), (h_t_many, .inl (G.2.1.2.1, 5, .inl t_many)), (h_t_grades, .inl (G.2.1.2.1, 9, .inl t_grades))] H → va_D A [(h_t, .inr (8, [.long t_trace, .ref h_t_text, .int t_typed, .ref h_t_said, .ref h_t_many, .long t_when, .long t_then, .ref h_t_grades, .ref h_t_doubts, .int t_at, .int t_token, .int t_start, .ref h_t_vals, .ref h_t_waits, .int t_valMany, .int t_waitMany, .int t_open, .long t_saying, .ref h_t_fresh, .ref h_t_freshMany, .int t_quarrel])), (h_t_said, .inl (G.2.1.2.2, 45, .inr (.inl t_said))), (h_t_many, .inl (G.2.1.2.1, 5, .inl t_many)), (h_t_grades, .inl (G.2.1.2.1, 9, .inl t_grades))] → va_S A s.heap H locs → ∀ (ls : Array Slot), lv_has ls 8 [(0, .ref h_t), (1, .int a1), (2, .int v2), (3, .int v3), (4, .int v4)] → W p l e (headSpec wsX8_grades ({ frames := 2, cells := 0, slots := 0, locals := 44 } : Room)).room s m ([.ref h_t, .int a1] : List Value).toArray below meth c H locs 0 0 (MQ below (qcI Unit G o.1 (fun _ => True) (fun _ => [(h_t, .inr (8, [.long t_trace, .ref h_t_text, .int t_typed, .ref h_t_said, .ref h_t_many, .long t_when, .long t_then, .ref h_t_grades, .ref h_t_doubts, .int t_at, .int t_token, .int t_start, .ref h_t_vals, .ref h_t_waits, .int t_valMany, .int t_waitMany, .int t_open, .long t_saying, .ref h_t_fresh, .ref h_t_freshMany, .int t_quarrel])), (h_t_said, .inl (G.2.1.2.2, 45, .inr (.inl t_said))), (h_t_many, .inl (G.2.1.2.1, 5, .inl t_many)), (h_t_grades, .inl (G.2.1.2.1, 9, .inl o.2))]) A) ([.ref h_t, .int a1] : List Value).toArray s 0 0 A) (F0 m 32 ls [])) (v2 : Int32) (v3 : Int32) (v5 : Int64) (n : Nat) (t_grades : Nat → Int32) (v4 : Int32) (v7 : Int32), lp_X8_grades_99 t_said t_many a1 k_32 v2 v3 v5 n t_grades v4 v7 = some o → ∀ (H : Heap) (locs : List Loc), va_P G.1 vwCl [(h_t, .inr (8, [.long t_trace, .ref h_t_text, .int t_typed, .ref h_t_said, .ref h_t_many, .long t_when, .long t_then, .ref h_t_grades, .ref h_t_doubts, .int t_at, .int t_token, .int t_start, .ref h_t_vals, .ref h_t_waits, .int t_valMany, .int t_waitMany, .int t_open, .long t_saying, .ref h_t_fresh, .ref h_t_freshMany, .int t_quarrel])), (h_t_said, .inl (G.2.1.2.2, 45, .inr (.inl t_said))), (h_t_many, .inl (G.2.1.2.1, 5, .inl t_many)), (h_t_grades, .inl (G.2.1.2.1, 9, .inl t_grades))] H → va_D A [(h_t, .inr (8, [.long t_trace, .ref h_t_text, .int t_typed, .ref h_t_said, .ref h_t_many, .long t_when, .long t_then, .ref h_t_grades, .ref h_t_doubts, .int t_at, .int t_token, .int t_start, .ref h_t_vals, .ref h_t_waits, .int t_valMany, .int t_waitMany, .int t_open, .long t_saying, .ref h_t_fresh, .ref h_t_freshMany, .int t_quarrel])), (h_t_said, .inl (G.2.1.2.2, 45, .inr (.inl t_said))), (h_t_many, .inl (G.2.1.2.1, 5, .inl t_many)), (h_t_grades, .inl (G.2.1.2.1, 9, .inl t_grades))] → va_S A s.heap H locs → ∀ (ls : Array Slot), lv_has ls 8 [(0, .ref h_t), (1, .int a1), (2, .int v2), (3, .int v3), (4, .int v4), (5, .long v5), (7, .int v7)] → W p l e (headSpec wsX8_grades ({ frames := 2, cells := 0, slots := 0, locals := 44 } : Room)).room s m ([.ref h_t, .int a1] : List Value).toArray below meth c H locs 0 0 (MQ below (qcI Unit G o.1 (fun _ => True) (fun _ => [(h_t, .inr (8, [.long t_trace, .ref h_t_text, .int t_typed, .ref h_t_said, .ref h_t_many, .long t_when, .long t_then, .ref h_t_grades, .ref h_t_doubts, .int t_at, .int t_token, .int t_start, .ref h_t_vals, .ref h_t_waits, .int t_valMany, .int t_waitMany, .int t_open, .long t_saying, .ref h_t_fresh, .ref h_t_freshMany, .int t_quarrel])), (h_t_said, .inl (G.2.1.2.2, 45, .inr (.inl t_said))), (h_t_many, .inl (G.2.1.2.1, 5, .inl t_many)), (h_t_grades, .inl (G.2.1.2.1, 9, .inl o.2))]) A) ([.ref h_t, .int a1] : List Value).toArray s 0 0 A) (F0 m 99 ls []) := by
    intro k_32 hk_32 v2 v3 v5
    intro n
    induction n with
    | zero =>
      intro t_grades v4 v7 hf
      exact absurd hf (by rw [lp_X8_grades_99]; intro h; cases h)
    | succ n ih =>
      intro t_grades v4 v7 hf H locs hP hD hS ls hl
      rw [lp_X8_grades_99] at hf
      refine lv_iload hx hb dX8_grades_99 (lv_at hl 6 rfl) ?_
      refine lv_iload_n hx hb dX8_grades_101 rfl (lv_at hl 1 rfl) ?_
      refine lv_icmp_ge (tgt := 167) hx hb dX8_grades_102 (by decide) (fun c2 => ?_) (fun c2 => ?_)
      · have hf := it_t c2 hf
        refine lv_iload_n hx hb dX8_grades_167 rfl (lv_at hl 2 rfl) ?_
        refine lv_iload hx hb dX8_grades_168 (lv_at hl 4 rfl) ?_
        refine lv_iconst (v := (-1 : Int32)) hx hb dX8_grades_170 (by decide) ?_
        refine lv_ixor hx hb dX8_grades_171 ?_
        refine lv_iand hx hb dX8_grades_172 ?_
        refine lv_topi (fun x3 ex3 => ?_)
        have hf := lt_n hf x3 ex3
        refine lv_istore_n (lv' := [(2, .int x3), (0, .ref h_t), (1, .int a1), (3, .int v3), (4, .int v4), (5, .long v5), (7, .int v7)]) hx hb dX8_grades_173 rfl hl (by decide) rfl (fun ls hl => ?_)
        obtain ⟨x4, ex4⟩ : ∃ y : Int32, y = (v3 + (1 : Int32)) := ⟨_, rfl⟩
        have hf := lt_n hf x4 ex4
        refine lv_iinc (v := x4) (lv' := [(3, .int x4), (2, .int x3), (0, .ref h_t), (1, .int a1), (4, .int v4), (5, .long v5), (7, .int v7)]) hx hb dX8_grades_174 hl (k := 3) rfl (by rw [ex4]; rfl) (by decide) rfl (fun ls hl => ?_)
        refine lv_goto (tgt := 32) hx hb dX8_grades_177 (by decide) ?_
        exact hk_32 t_grades x3 x4 v4 hf _ _ hP hD hS _ (lv_sub hl [2, 3, 1, 0, 4] rfl)
      · have hf := it_f c2 hf
        refine lv_iload_n hx hb dX8_grades_105 rfl (lv_at hl 2 rfl) ?_
        refine lv_iload hx hb dX8_grades_106 (lv_at hl 6 rfl) ?_
        refine lv_ishr hx hb dX8_grades_108 ?_
        refine lv_iconst (v := (1 : Int32)) hx hb dX8_grades_109 (by decide) ?_
        refine lv_iand hx hb dX8_grades_110 ?_
        refine lv_iconst (v := (1 : Int32)) hx hb dX8_grades_111 (by decide) ?_
        refine lv_icmp_ne (tgt := 161) hx hb dX8_grades_112 (by decide) (fun c5 => ?_) (fun c5 => ?_)
        · have hf := it_f c5 hf
          obtain ⟨x6, ex6⟩ : ∃ y : Int32, y = (v7 + (1 : Int32)) := ⟨_, rfl⟩
          have hf := lt_n hf x6 ex6
          refine lv_iinc (v := x6) (lv' := [(7, .int x6), (0, .ref h_t), (1, .int a1), (2, .int v2), (3, .int v3), (4, .int v4), (5, .long v5)]) hx hb dX8_grades_161 hl (k := 6) rfl (by rw [ex6]; rfl) (by decide) rfl (fun ls hl => ?_)
          refine lv_goto (tgt := 99) hx hb dX8_grades_164 (by decide) ?_
          exact ih t_grades v4 x6 hf _ _ hP hD hS _ (lv_sub hl [1, 2, 3, 4, 5, 6, 0] rfl)
        · have hf := it_t c5 hf
          refine lv_lload hx hb dX8_grades_115 (lv_at hl 5 rfl) ?_
          refine lv_aload_n hx hb dX8_grades_117 rfl (lv_at hl 0 rfl) ?_
          refine va_get (D := G.1) (ci := 8) (v := .ref h_t_said) (C := RX8) (T := TX8) (N := 21) hx hb hts hiX8 hown hg.1 hP 0 rfl rfl 3 (by decide) (hts (.fieldLink RX8 13 "AsARuleModel" "said" "[J") (by decide +kernel)) (fun _ h9 => h9) rfl dX8_grades_118 ?_
          refine lv_bipush (v := (9 : Int32)) hx hb dX8_grades_121 (by decide) ?_
          refine lv_iload hx hb dX8_grades_123 (lv_at hl 6 rfl) ?_
          refine lv_iadd hx hb dX8_grades_125 ?_
          refine va_lald hx hb hg.1 hP 1 2 rfl rfl (ib_in (gd_t hf)) dX8_grades_126 ?_
          have hf := gd_x hf
          refine lv_land hx hb dX8_grades_127 ?_
          refine lv_aload_n hx hb dX8_grades_128 rfl (lv_at hl 0 rfl) ?_
          refine va_get (D := G.1) (ci := 8) (v := .ref h_t_said) (C := RX8) (T := TX8) (N := 21) hx hb hts hiX8 hown hg.1 hP 0 rfl rfl 3 (by decide) (hts (.fieldLink RX8 13 "AsARuleModel" "said" "[J") (by decide +kernel)) (fun _ h9 => h9) rfl dX8_grades_129 ?_
          refine lv_bipush (v := (18 : Int32)) hx hb dX8_grades_132 (by decide) ?_
          refine lv_iload hx hb dX8_grades_134 (lv_at hl 6 rfl) ?_
          refine lv_iadd hx hb dX8_grades_136 ?_
          refine va_lald hx hb hg.1 hP 1 2 rfl rfl (ib_in (gd_t hf)) dX8_grades_137 ?_
          have hf := gd_x hf
          refine lv_land hx hb dX8_grades_138 ?_
          refine lv_lconst (v := (0 : Int64)) hx hb dX8_grades_139 (by decide) ?_
          refine W.lcmp hx hb dX8_grades_140 ?_
          refine lv_if_eq (tgt := 161) hx hb dX8_grades_141 (by decide) (fun c7 => ?_) (fun c7 => ?_)
          · have c7 := lgc0.mp c7
            have hf := it_t c7 hf
            obtain ⟨x8, ex8⟩ : ∃ y : Int32, y = (v7 + (1 : Int32)) := ⟨_, rfl⟩
            have hf := lt_n hf x8 ex8
            refine lv_iinc (v := x8) (lv' := [(7, .int x8), (0, .ref h_t), (1, .int a1), (2, .int v2), (3, .int v3), (4, .int v4), (5, .long v5)]) hx hb dX8_grades_161 hl (k := 6) rfl (by rw [ex8]; rfl) (by decide) rfl (fun ls hl => ?_)
            refine lv_goto (tgt := 99) hx hb dX8_grades_164 (by decide) ?_
            exact ih t_grades v4 x8 hf _ _ hP hD hS _ (lv_sub hl [1, 2, 3, 4, 5, 6, 0] rfl)
          · have c7 := fun z => c7 (lgc0.mpr z)
            have hf := it_f c7 hf
            refine lv_iload hx hb dX8_grades_144 (lv_at hl 4 rfl) ?_
            refine lv_iconst (v := (1 : Int32)) hx hb dX8_grades_146 (by decide) ?_
            refine lv_iload hx hb dX8_grades_147 (lv_at hl 6 rfl) ?_
            refine lv_ishl hx hb dX8_grades_149 ?_
            refine lv_ior hx hb dX8_grades_150 ?_
            refine lv_topi (fun x9 ex9 => ?_)
            have hf := lt_n hf x9 ex9
            refine lv_istore (lv' := [(4, .int x9), (0, .ref h_t), (1, .int a1), (2, .int v2), (3, .int v3), (5, .long v5), (7, .int v7)]) hx hb dX8_grades_151 hl (by decide) rfl (fun ls hl => ?_)
            refine lv_aload_n hx hb dX8_grades_153 rfl (lv_at hl 1 rfl) ?_
            refine va_get (D := G.1) (ci := 8) (v := .ref h_t_grades) (C := RX8) (T := TX8) (N := 21) hx hb hts hiX8 hown hg.1 hP 0 rfl rfl 7 (by decide) (hts (.fieldLink RX8 20 "AsARuleModel" "grades" "[I") (by decide +kernel)) (fun _ h9 => h9) rfl dX8_grades_154 ?_
            refine lv_iload hx hb dX8_grades_157 (lv_at hl 6 rfl) ?_
            refine lv_iload_n hx hb dX8_grades_159 rfl (lv_at hl 4 rfl) ?_
            refine va_iast hx hb hg.1 hP hD hS 3 1 rfl rfl (ib_in (gd_t hf)) dX8_grades_160 (fun H locs hP hD hS => ?_)
            have hf := gd_x hf
            have hP : va_P G.1 vwCl [(h_t, .inr (8, [.long t_trace, .ref h_t_text, .int t_typed, .ref h_t_said, .ref h_t_many, .long t_when, .long t_then, .ref h_t_grades, .ref h_t_doubts, .int t_at, .int t_token, .int t_start, .ref h_t_vals, .ref h_t_waits, .int t_valMany, .int t_waitMany, .int t_open, .long t_saying, .ref h_t_fresh, .ref h_t_freshMany, .int t_quarrel])), (h_t_said, .inl (G.2.1.2.2, 45, .inr (.inl t_said))), (h_t_many, .inl (G.2.1.2.1, 5, .inl t_many)), (h_t_grades, .inl (G.2.1.2.1, 9, .inl (upd t_grades v7.toNatClampNeg v3)))] H := hP
            have hD : va_D A [(h_t, .inr (8, [.long t_trace, .ref h_t_text, .int t_typed, .ref h_t_said, .ref h_t_many, .long t_when, .long t_then, .ref h_t_grades, .ref h_t_doubts, .int t_at, .int t_token, .int t_start, .ref h_t_vals, .ref h_t_waits, .int t_valMany, .int t_waitMany, .int t_open, .long t_saying, .ref h_t_fresh, .ref h_t_freshMany, .int t_quarrel])), (h_t_said, .inl (G.2.1.2.2, 45, .inr (.inl t_said))), (h_t_many, .inl (G.2.1.2.1, 5, .inl t_many)), (h_t_grades, .inl (G.2.1.2.1, 9, .inl (upd t_grades v7.toNatClampNeg v3)))] := hD
            obtain ⟨x10, ex10⟩ : ∃ y : Int32, y = (v7 + (1 : Int32)) := ⟨_, rfl⟩
            have hf := lt_n hf x10 ex10
            refine lv_iinc (v := x10) (lv' := [(7, .int x10), (4, .int x9), (0, .ref h_t), (1, .int a1), (2, .int v2), (3, .int v3), (5, .long v5)]) hx hb dX8_grades_161 hl (k := 6) rfl (by rw [ex10]; rfl) (by decide) rfl (fun ls hl => ?_)
            refine lv_goto (tgt := 99) hx hb dX8_grades_164 (by decide) ?_
            exact ih (upd t_grades v7.toNatClampNeg v3) x9 x10 hf _ _ hP hD hS _ (lv_sub hl [2, 3, 4, 5, 1, 6, 0] rfl)
  have hw_50 : ∀ (k_32 : (Nat → Int32) → Int32 → Int32 → Int32 → Option (Int32 × (Nat → Int32))) (hk_32 : ∀ (t_grades : Nat → Int32) (v2 : Int32) (v3 : Int32) (v4 : Int32), k_32 t_grades v2 v3 v4 = some o → ∀ (H : Heap) (locs : List Loc), va_P G.1 vwCl [(h_t, .inr (8, [.long t_trace, .ref h_t_text, .int t_typed, .ref h_t_said, .ref h_t_many, .long t_when, .long t_then, .ref h_t_grades, .ref h_t_doubts, .int t_at, .int t_token, .int t_start, .ref h_t_vals, .ref h_t_waits, .int t_valMany, .int t_waitMany, .int t_open, .long t_saying, .ref h_t_fresh, .ref h_t_freshMany, .int t_quarrel])), (h_t_said, .inl (G.2.1.2.2, 45, .inr (.inl t_said))), (h_t_many, .inl (G.2.1.2.1, 5, .inl t_many)), (h_t_grades, .inl (G.2.1.2.1, 9, .inl t_grades))] H → va_D A [(h_t, .inr (8, [.long t_trace, .ref h_t_text, .int t_typed, .ref h_t_said, .ref h_t_many, .long t_when, .long t_then, .ref h_t_grades, .ref h_t_doubts, .int t_at, .int t_token, .int t_start, .ref h_t_vals, .ref h_t_waits, .int t_valMany, .int t_waitMany, .int t_open, .long t_saying, .ref h_t_fresh, .ref h_t_freshMany, .int t_quarrel])), (h_t_said, .inl (G.2.1.2.2, 45, .inr (.inl t_said))), (h_t_many, .inl (G.2.1.2.1, 5, .inl t_many)), (h_t_grades, .inl (G.2.1.2.1, 9, .inl t_grades))] → va_S A s.heap H locs → ∀ (ls : Array Slot), lv_has ls 8 [(0, .ref h_t), (1, .int a1), (2, .int v2), (3, .int v3), (4, .int v4)] → W p l e (headSpec wsX8_grades ({ frames := 2, cells := 0, slots := 0, locals := 44 } : Room)).room s m ([.ref h_t, .int a1] : List Value).toArray below meth c H locs 0 0 (MQ below (qcI Unit G o.1 (fun _ => True) (fun _ => [(h_t, .inr (8, [.long t_trace, .ref h_t_text, .int t_typed, .ref h_t_said, .ref h_t_many, .long t_when, .long t_then, .ref h_t_grades, .ref h_t_doubts, .int t_at, .int t_token, .int t_start, .ref h_t_vals, .ref h_t_waits, .int t_valMany, .int t_waitMany, .int t_open, .long t_saying, .ref h_t_fresh, .ref h_t_freshMany, .int t_quarrel])), (h_t_said, .inl (G.2.1.2.2, 45, .inr (.inl t_said))), (h_t_many, .inl (G.2.1.2.1, 5, .inl t_many)), (h_t_grades, .inl (G.2.1.2.1, 9, .inl o.2))]) A) ([.ref h_t, .int a1] : List Value).toArray s 0 0 A) (F0 m 32 ls [])) (t_grades : Nat → Int32) (v2 : Int32) (v3 : Int32) (n : Nat) (v5 : Int64) (v7 : Int32), lp_X8_grades_50 t_said t_many a1 k_32 t_grades v2 v3 n v5 v7 = some o → ∀ (H : Heap) (locs : List Loc), va_P G.1 vwCl [(h_t, .inr (8, [.long t_trace, .ref h_t_text, .int t_typed, .ref h_t_said, .ref h_t_many, .long t_when, .long t_then, .ref h_t_grades, .ref h_t_doubts, .int t_at, .int t_token, .int t_start, .ref h_t_vals, .ref h_t_waits, .int t_valMany, .int t_waitMany, .int t_open, .long t_saying, .ref h_t_fresh, .ref h_t_freshMany, .int t_quarrel])), (h_t_said, .inl (G.2.1.2.2, 45, .inr (.inl t_said))), (h_t_many, .inl (G.2.1.2.1, 5, .inl t_many)), (h_t_grades, .inl (G.2.1.2.1, 9, .inl t_grades))] H → va_D A [(h_t, .inr (8, [.long t_trace, .ref h_t_text, .int t_typed, .ref h_t_said, .ref h_t_many, .long t_when, .long t_then, .ref h_t_grades, .ref h_t_doubts, .int t_at, .int t_token, .int t_start, .ref h_t_vals, .ref h_t_waits, .int t_valMany, .int t_waitMany, .int t_open, .long t_saying, .ref h_t_fresh, .ref h_t_freshMany, .int t_quarrel])), (h_t_said, .inl (G.2.1.2.2, 45, .inr (.inl t_said))), (h_t_many, .inl (G.2.1.2.1, 5, .inl t_many)), (h_t_grades, .inl (G.2.1.2.1, 9, .inl t_grades))] → va_S A s.heap H locs → ∀ (ls : Array Slot), lv_has ls 8 [(0, .ref h_t), (1, .int a1), (2, .int v2), (3, .int v3), (5, .long v5), (7, .int v7)] → W p l e (headSpec wsX8_grades ({ frames := 2, cells := 0, slots := 0, locals := 44 } : Room)).room s m ([.ref h_t, .int a1] : List Value).toArray below meth c H locs 0 0 (MQ below (qcI Unit G o.1 (fun _ => True) (fun _ => [(h_t, .inr (8, [.long t_trace, .ref h_t_text, .int t_typed, .ref h_t_said, .ref h_t_many, .long t_when, .long t_then, .ref h_t_grades, .ref h_t_doubts, .int t_at, .int t_token, .int t_start, .ref h_t_vals, .ref h_t_waits, .int t_valMany, .int t_waitMany, .int t_open, .long t_saying, .ref h_t_fresh, .ref h_t_freshMany, .int t_quarrel])), (h_t_said, .inl (G.2.1.2.2, 45, .inr (.inl t_said))), (h_t_many, .inl (G.2.1.2.1, 5, .inl t_many)), (h_t_grades, .inl (G.2.1.2.1, 9, .inl o.2))]) A) ([.ref h_t, .int a1] : List Value).toArray s 0 0 A) (F0 m 50 ls []) := by
    intro k_32 hk_32 t_grades v2 v3
    intro n
    induction n with
    | zero =>
      intro v5 v7 hf
      exact absurd hf (by rw [lp_X8_grades_50]; intro h; cases h)
    | succ n ih =>
      intro v5 v7 hf H locs hP hD hS ls hl
      rw [lp_X8_grades_50] at hf
      refine lv_iload hx hb dX8_grades_50 (lv_at hl 5 rfl) ?_
      refine lv_iload_n hx hb dX8_grades_52 rfl (lv_at hl 1 rfl) ?_
      refine lv_icmp_ge (tgt := 93) hx hb dX8_grades_53 (by decide) (fun c11 => ?_) (fun c11 => ?_)
      · have hf := it_t c11 hf
        refine lv_iconst (v := (0 : Int32)) hx hb dX8_grades_93 (by decide) ?_
        refine lv_istore (lv' := [(4, .int (0 : Int32)), (0, .ref h_t), (1, .int a1), (2, .int v2), (3, .int v3), (5, .long v5), (7, .int v7)]) hx hb dX8_grades_94 hl (by decide) rfl (fun ls hl => ?_)
        refine lv_iconst (v := (0 : Int32)) hx hb dX8_grades_96 (by decide) ?_
        refine lv_istore (lv' := [(7, .int (0 : Int32)), (4, .int (0 : Int32)), (0, .ref h_t), (1, .int a1), (2, .int v2), (3, .int v3), (5, .long v5)]) hx hb dX8_grades_97 hl (by decide) rfl (fun ls hl => ?_)
        exact hw_99 _ hk_32 v2 v3 v5 fu t_grades (0 : Int32) (0 : Int32) hf _ _ hP hD hS _ (lv_sub hl [2, 3, 4, 5, 1, 6, 0] rfl)
      · have hf := it_f c11 hf
        refine lv_lload hx hb dX8_grades_56 (lv_at hl 4 rfl) ?_
        refine lv_iload_n hx hb dX8_grades_58 rfl (lv_at hl 2 rfl) ?_
        refine lv_iload hx hb dX8_grades_59 (lv_at hl 5 rfl) ?_
        refine lv_ishr hx hb dX8_grades_61 ?_
        refine lv_iconst (v := (1 : Int32)) hx hb dX8_grades_62 (by decide) ?_
        refine lv_iand hx hb dX8_grades_63 ?_
        refine lv_iconst (v := (1 : Int32)) hx hb dX8_grades_64 (by decide) ?_
        refine lv_icmp_ne (tgt := 81) hx hb dX8_grades_65 (by decide) (fun c12 => ?_) (fun c12 => ?_)
        · have hf := it_f c12 hf
          refine lv_ldc2 (v := (-1 : Int64)) hx hb hown (hts (.constantLong RX8 38 (-1 : Int64)) (by decide +kernel)) dX8_grades_81 ?_
          refine lv_land hx hb dX8_grades_84 ?_
          refine lv_topl (fun x13 ex13 => ?_)
          have hf := lt_n hf x13 ex13
          refine lv_lstore (lv' := [(5, .long x13), (0, .ref h_t), (1, .int a1), (2, .int v2), (3, .int v3), (7, .int v7)]) hx hb dX8_grades_85 hl (by decide) rfl (fun ls hl => ?_)
          obtain ⟨x14, ex14⟩ : ∃ y : Int32, y = (v7 + (1 : Int32)) := ⟨_, rfl⟩
          have hf := lt_n hf x14 ex14
          refine lv_iinc (v := x14) (lv' := [(7, .int x14), (5, .long x13), (0, .ref h_t), (1, .int a1), (2, .int v2), (3, .int v3)]) hx hb dX8_grades_87 hl (k := 5) rfl (by rw [ex14]; rfl) (by decide) rfl (fun ls hl => ?_)
          refine lv_goto (tgt := 50) hx hb dX8_grades_90 (by decide) ?_
          exact ih x13 x14 hf _ _ hP hD hS _ (lv_sub hl [2, 3, 4, 5, 1, 0] rfl)
        · have hf := it_t c12 hf
          refine lv_aload_n hx hb dX8_grades_68 rfl (lv_at hl 0 rfl) ?_
          refine lv_iload hx hb dX8_grades_69 (lv_at hl 5 rfl) ?_
          obtain ⟨o15, ho15, hf⟩ := bd_e hf
          refine af_l (wr := [(h_t_many, .inl (G.2.1.2.1, 5, .inl t_many)), (h_t_grades, .inl (G.2.1.2.1, 9, .inl t_grades))]) (va_runV (As := [.int v7]) (rest := [.long v5]) ⟨hx, hb, hml, hown, hts⟩ (c_X8_broken l G h_t h_t_text h_t_said h_t_many h_t_grades h_t_doubts h_t_vals h_t_waits h_t_fresh h_t_freshMany H.size t_trace t_typed t_when t_then t_at t_token t_start t_valMany t_waitMany t_open t_saying t_quarrel t_said v7 o15 ho15) (cwV 1 hts gX8_grades_X8_broken rfl rfl rfl (by decide +kernel) ⟨Nat.le_of_ble_eq_true rfl, Nat.le_of_ble_eq_true rfl⟩) (pcA_preV hg hc hP hD hS hA [0, 1] rfl (by decide) (q0 := 0) (ci := 8) rfl rfl rfl) rfl rfl hl.1 rfl (lv_room (Nat.le_of_ble_eq_true rfl)) dX8_grades_71 ⟨Nat.zero_le _, Nat.zero_le _⟩) hP hD hS hA [0, 1] [2, 3] rfl rfl (by decide) (by decide) (fun _ H locs _ hP hD hS => ?_)
          have hP : va_P G.1 vwCl [(h_t, .inr (8, [.long t_trace, .ref h_t_text, .int t_typed, .ref h_t_said, .ref h_t_many, .long t_when, .long t_then, .ref h_t_grades, .ref h_t_doubts, .int t_at, .int t_token, .int t_start, .ref h_t_vals, .ref h_t_waits, .int t_valMany, .int t_waitMany, .int t_open, .long t_saying, .ref h_t_fresh, .ref h_t_freshMany, .int t_quarrel])), (h_t_said, .inl (G.2.1.2.2, 45, .inr (.inl t_said))), (h_t_many, .inl (G.2.1.2.1, 5, .inl t_many)), (h_t_grades, .inl (G.2.1.2.1, 9, .inl t_grades))] H := hP.sub [2, 3, 0, 1] rfl
          have hD : va_D A [(h_t, .inr (8, [.long t_trace, .ref h_t_text, .int t_typed, .ref h_t_said, .ref h_t_many, .long t_when, .long t_then, .ref h_t_grades, .ref h_t_doubts, .int t_at, .int t_token, .int t_start, .ref h_t_vals, .ref h_t_waits, .int t_valMany, .int t_waitMany, .int t_open, .long t_saying, .ref h_t_fresh, .ref h_t_freshMany, .int t_quarrel])), (h_t_said, .inl (G.2.1.2.2, 45, .inr (.inl t_said))), (h_t_many, .inl (G.2.1.2.1, 5, .inl t_many)), (h_t_grades, .inl (G.2.1.2.1, 9, .inl t_grades))] := hD.sub [2, 3, 0, 1] (by decide) rfl
          refine lv_ldc2 (v := (-1 : Int64)) hx hb hown (hts (.constantLong RX8 38 (-1 : Int64)) (by decide +kernel)) dX8_grades_74 ?_
          refine lv_lxor hx hb dX8_grades_77 ?_
          refine lv_goto (tgt := 84) hx hb dX8_grades_78 (by decide) ?_
          refine lv_land hx hb dX8_grades_84 ?_
          refine lv_topl (fun x16 ex16 => ?_)
          have hf := lt_n hf x16 ex16
          refine lv_lstore (lv' := [(5, .long x16), (0, .ref h_t), (1, .int a1), (2, .int v2), (3, .int v3), (7, .int v7)]) hx hb dX8_grades_85 hl (by decide) rfl (fun ls hl => ?_)
          obtain ⟨x17, ex17⟩ : ∃ y : Int32, y = (v7 + (1 : Int32)) := ⟨_, rfl⟩
          have hf := lt_n hf x17 ex17
          refine lv_iinc (v := x17) (lv' := [(7, .int x17), (5, .long x16), (0, .ref h_t), (1, .int a1), (2, .int v2), (3, .int v3)]) hx hb dX8_grades_87 hl (k := 5) rfl (by rw [ex17]; rfl) (by decide) rfl (fun ls hl => ?_)
          refine lv_goto (tgt := 50) hx hb dX8_grades_90 (by decide) ?_
          exact ih x16 x17 hf _ _ hP hD hS _ (lv_sub hl [2, 3, 4, 5, 1, 0] rfl)
  have hw_32 : ∀  (n : Nat) (t_grades : Nat → Int32) (v2 : Int32) (v3 : Int32) (v4 : Int32), lp_X8_grades_32 t_said t_many a1 n t_grades v2 v3 v4 = some o → ∀ (H : Heap) (locs : List Loc), va_P G.1 vwCl [(h_t, .inr (8, [.long t_trace, .ref h_t_text, .int t_typed, .ref h_t_said, .ref h_t_many, .long t_when, .long t_then, .ref h_t_grades, .ref h_t_doubts, .int t_at, .int t_token, .int t_start, .ref h_t_vals, .ref h_t_waits, .int t_valMany, .int t_waitMany, .int t_open, .long t_saying, .ref h_t_fresh, .ref h_t_freshMany, .int t_quarrel])), (h_t_said, .inl (G.2.1.2.2, 45, .inr (.inl t_said))), (h_t_many, .inl (G.2.1.2.1, 5, .inl t_many)), (h_t_grades, .inl (G.2.1.2.1, 9, .inl t_grades))] H → va_D A [(h_t, .inr (8, [.long t_trace, .ref h_t_text, .int t_typed, .ref h_t_said, .ref h_t_many, .long t_when, .long t_then, .ref h_t_grades, .ref h_t_doubts, .int t_at, .int t_token, .int t_start, .ref h_t_vals, .ref h_t_waits, .int t_valMany, .int t_waitMany, .int t_open, .long t_saying, .ref h_t_fresh, .ref h_t_freshMany, .int t_quarrel])), (h_t_said, .inl (G.2.1.2.2, 45, .inr (.inl t_said))), (h_t_many, .inl (G.2.1.2.1, 5, .inl t_many)), (h_t_grades, .inl (G.2.1.2.1, 9, .inl t_grades))] → va_S A s.heap H locs → ∀ (ls : Array Slot), lv_has ls 8 [(0, .ref h_t), (1, .int a1), (2, .int v2), (3, .int v3), (4, .int v4)] → W p l e (headSpec wsX8_grades ({ frames := 2, cells := 0, slots := 0, locals := 44 } : Room)).room s m ([.ref h_t, .int a1] : List Value).toArray below meth c H locs 0 0 (MQ below (qcI Unit G o.1 (fun _ => True) (fun _ => [(h_t, .inr (8, [.long t_trace, .ref h_t_text, .int t_typed, .ref h_t_said, .ref h_t_many, .long t_when, .long t_then, .ref h_t_grades, .ref h_t_doubts, .int t_at, .int t_token, .int t_start, .ref h_t_vals, .ref h_t_waits, .int t_valMany, .int t_waitMany, .int t_open, .long t_saying, .ref h_t_fresh, .ref h_t_freshMany, .int t_quarrel])), (h_t_said, .inl (G.2.1.2.2, 45, .inr (.inl t_said))), (h_t_many, .inl (G.2.1.2.1, 5, .inl t_many)), (h_t_grades, .inl (G.2.1.2.1, 9, .inl o.2))]) A) ([.ref h_t, .int a1] : List Value).toArray s 0 0 A) (F0 m 32 ls []) := by
    intro n
    induction n with
    | zero =>
      intro t_grades v2 v3 v4 hf
      exact absurd hf (by rw [lp_X8_grades_32]; intro h; cases h)
    | succ n ih =>
      intro t_grades v2 v3 v4 hf H locs hP hD hS ls hl
      rw [lp_X8_grades_32] at hf
      refine lv_iload_n hx hb dX8_grades_32 rfl (lv_at hl 2 rfl) ?_
      refine lv_if_eq (tgt := 180) hx hb dX8_grades_33 (by decide) (fun c18 => ?_) (fun c18 => ?_)
      · have hf := it_t c18 hf
        exact hw_180 t_grades v2 hf _ _ hP hD hS _ (lv_sub hl [2] rfl)
      · have hf := it_f c18 hf
        refine lv_iload hx hb dX8_grades_36 (lv_at hl 4 rfl) ?_
        refine lv_if_eq (tgt := 180) hx hb dX8_grades_38 (by decide) (fun c19 => ?_) (fun c19 => ?_)
        · have hf := it_t c19 hf
          exact hw_180 t_grades v2 hf _ _ hP hD hS _ (lv_sub hl [2] rfl)
        · have hf := it_f c19 hf
          refine lv_aload_n hx hb dX8_grades_41 rfl (lv_at hl 0 rfl) ?_
          obtain ⟨o20, ho20, hf⟩ := bd_e hf
          refine af_l (wr := [(h_t_grades, .inl (G.2.1.2.1, 9, .inl t_grades))]) (va_runV (As := []) (rest := []) ⟨hx, hb, hml, hown, hts⟩ (c_X8_thereNow l G h_t h_t_text h_t_said h_t_many h_t_grades h_t_doubts h_t_vals h_t_waits h_t_fresh h_t_freshMany H.size t_trace t_typed t_when t_then t_at t_token t_start t_valMany t_waitMany t_open t_saying t_quarrel t_said t_many o20 ho20) (cwV 0 hts gX8_grades_X8_thereNow rfl rfl rfl (by decide +kernel) ⟨Nat.le_of_ble_eq_true rfl, Nat.le_of_ble_eq_true rfl⟩) (pcA_preV hg hc hP hD hS hA [0, 1, 2] rfl (by decide) (q0 := 0) (ci := 8) rfl rfl rfl) rfl rfl hl.1 rfl (lv_room (Nat.le_of_ble_eq_true rfl)) dX8_grades_42 ⟨Nat.zero_le _, Nat.zero_le _⟩) hP hD hS hA [0, 1, 2] [3] rfl rfl (by decide) (by decide) (fun _ H locs _ hP hD hS => ?_)
          have hP : va_P G.1 vwCl [(h_t, .inr (8, [.long t_trace, .ref h_t_text, .int t_typed, .ref h_t_said, .ref h_t_many, .long t_when, .long t_then, .ref h_t_grades, .ref h_t_doubts, .int t_at, .int t_token, .int t_start, .ref h_t_vals, .ref h_t_waits, .int t_valMany, .int t_waitMany, .int t_open, .long t_saying, .ref h_t_fresh, .ref h_t_freshMany, .int t_quarrel])), (h_t_said, .inl (G.2.1.2.2, 45, .inr (.inl t_said))), (h_t_many, .inl (G.2.1.2.1, 5, .inl t_many)), (h_t_grades, .inl (G.2.1.2.1, 9, .inl t_grades))] H := hP.sub [1, 2, 3, 0] rfl
          have hD : va_D A [(h_t, .inr (8, [.long t_trace, .ref h_t_text, .int t_typed, .ref h_t_said, .ref h_t_many, .long t_when, .long t_then, .ref h_t_grades, .ref h_t_doubts, .int t_at, .int t_token, .int t_start, .ref h_t_vals, .ref h_t_waits, .int t_valMany, .int t_waitMany, .int t_open, .long t_saying, .ref h_t_fresh, .ref h_t_freshMany, .int t_quarrel])), (h_t_said, .inl (G.2.1.2.2, 45, .inr (.inl t_said))), (h_t_many, .inl (G.2.1.2.1, 5, .inl t_many)), (h_t_grades, .inl (G.2.1.2.1, 9, .inl t_grades))] := hD.sub [1, 2, 3, 0] (by decide) rfl
          refine lv_lstore (lv' := [(5, .long o20), (0, .ref h_t), (1, .int a1), (2, .int v2), (3, .int v3), (4, .int v4)]) hx hb dX8_grades_45 hl (by decide) rfl (fun ls hl => ?_)
          refine lv_iconst (v := (0 : Int32)) hx hb dX8_grades_47 (by decide) ?_
          refine lv_istore (lv' := [(7, .int (0 : Int32)), (5, .long o20), (0, .ref h_t), (1, .int a1), (2, .int v2), (3, .int v3), (4, .int v4)]) hx hb dX8_grades_48 hl (by decide) rfl (fun ls hl => ?_)
          exact hw_50 _ ih t_grades v2 v3 fu o20 (0 : Int32) hf _ _ hP hD hS _ (lv_sub hl [2, 3, 4, 5, 1, 0] rfl)
  have hw_8 : ∀ (v2 : Int32) (n : Nat) (t_grades : Nat → Int32) (v3 : Int32), lp_X8_grades_8 t_said t_many a1 v2 n t_grades v3 = some o → ∀ (H : Heap) (locs : List Loc), va_P G.1 vwCl [(h_t, .inr (8, [.long t_trace, .ref h_t_text, .int t_typed, .ref h_t_said, .ref h_t_many, .long t_when, .long t_then, .ref h_t_grades, .ref h_t_doubts, .int t_at, .int t_token, .int t_start, .ref h_t_vals, .ref h_t_waits, .int t_valMany, .int t_waitMany, .int t_open, .long t_saying, .ref h_t_fresh, .ref h_t_freshMany, .int t_quarrel])), (h_t_said, .inl (G.2.1.2.2, 45, .inr (.inl t_said))), (h_t_many, .inl (G.2.1.2.1, 5, .inl t_many)), (h_t_grades, .inl (G.2.1.2.1, 9, .inl t_grades))] H → va_D A [(h_t, .inr (8, [.long t_trace, .ref h_t_text, .int t_typed, .ref h_t_said, .ref h_t_many, .long t_when, .long t_then, .ref h_t_grades, .ref h_t_doubts, .int t_at, .int t_token, .int t_start, .ref h_t_vals, .ref h_t_waits, .int t_valMany, .int t_waitMany, .int t_open, .long t_saying, .ref h_t_fresh, .ref h_t_freshMany, .int t_quarrel])), (h_t_said, .inl (G.2.1.2.2, 45, .inr (.inl t_said))), (h_t_many, .inl (G.2.1.2.1, 5, .inl t_many)), (h_t_grades, .inl (G.2.1.2.1, 9, .inl t_grades))] → va_S A s.heap H locs → ∀ (ls : Array Slot), lv_has ls 8 [(0, .ref h_t), (1, .int a1), (2, .int v2), (3, .int v3)] → W p l e (headSpec wsX8_grades ({ frames := 2, cells := 0, slots := 0, locals := 44 } : Room)).room s m ([.ref h_t, .int a1] : List Value).toArray below meth c H locs 0 0 (MQ below (qcI Unit G o.1 (fun _ => True) (fun _ => [(h_t, .inr (8, [.long t_trace, .ref h_t_text, .int t_typed, .ref h_t_said, .ref h_t_many, .long t_when, .long t_then, .ref h_t_grades, .ref h_t_doubts, .int t_at, .int t_token, .int t_start, .ref h_t_vals, .ref h_t_waits, .int t_valMany, .int t_waitMany, .int t_open, .long t_saying, .ref h_t_fresh, .ref h_t_freshMany, .int t_quarrel])), (h_t_said, .inl (G.2.1.2.2, 45, .inr (.inl t_said))), (h_t_many, .inl (G.2.1.2.1, 5, .inl t_many)), (h_t_grades, .inl (G.2.1.2.1, 9, .inl o.2))]) A) ([.ref h_t, .int a1] : List Value).toArray s 0 0 A) (F0 m 8 ls []) := by
    intro v2
    intro n
    induction n with
    | zero =>
      intro t_grades v3 hf
      exact absurd hf (by rw [lp_X8_grades_8]; intro h; cases h)
    | succ n ih =>
      intro t_grades v3 hf H locs hP hD hS ls hl
      rw [lp_X8_grades_8] at hf
      refine lv_iload_n hx hb dX8_grades_8 rfl (lv_at hl 3 rfl) ?_
      refine lv_iload_n hx hb dX8_grades_9 rfl (lv_at hl 1 rfl) ?_
      refine lv_icmp_ge (tgt := 27) hx hb dX8_grades_10 (by decide) (fun c21 => ?_) (fun c21 => ?_)
      · have hf := it_t c21 hf
        refine lv_iconst (v := (0 : Int32)) hx hb dX8_grades_27 (by decide) ?_
        refine lv_istore_n (lv' := [(3, .int (0 : Int32)), (0, .ref h_t), (1, .int a1), (2, .int v2)]) hx hb dX8_grades_28 rfl hl (by decide) rfl (fun ls hl => ?_)
        refine lv_iload_n hx hb dX8_grades_29 rfl (lv_at hl 3 rfl) ?_
        refine lv_istore (lv' := [(4, .int v2), (3, .int (0 : Int32)), (0, .ref h_t), (1, .int a1), (2, .int v2)]) hx hb dX8_grades_30 hl (by decide) rfl (fun ls hl => ?_)
        exact hw_32 fu t_grades v2 (0 : Int32) v2 hf _ _ hP hD hS _ (lv_sub hl [2, 3, 4, 1, 0] rfl)
      · have hf := it_f c21 hf
        refine lv_aload_n hx hb dX8_grades_13 rfl (lv_at hl 0 rfl) ?_
        refine va_get (D := G.1) (ci := 8) (v := .ref h_t_grades) (C := RX8) (T := TX8) (N := 21) hx hb hts hiX8 hown hg.1 hP 0 rfl rfl 7 (by decide) (hts (.fieldLink RX8 20 "AsARuleModel" "grades" "[I") (by decide +kernel)) (fun _ h9 => h9) rfl dX8_grades_14 ?_
        refine lv_iload_n hx hb dX8_grades_17 rfl (lv_at hl 3 rfl) ?_
        refine lv_bipush (v := (-9 : Int32)) hx hb dX8_grades_18 (by decide) ?_
        refine va_iast hx hb hg.1 hP hD hS 3 1 rfl rfl (ib_in (gd_t hf)) dX8_grades_20 (fun H locs hP hD hS => ?_)
        have hf := gd_x hf
        have hP : va_P G.1 vwCl [(h_t, .inr (8, [.long t_trace, .ref h_t_text, .int t_typed, .ref h_t_said, .ref h_t_many, .long t_when, .long t_then, .ref h_t_grades, .ref h_t_doubts, .int t_at, .int t_token, .int t_start, .ref h_t_vals, .ref h_t_waits, .int t_valMany, .int t_waitMany, .int t_open, .long t_saying, .ref h_t_fresh, .ref h_t_freshMany, .int t_quarrel])), (h_t_said, .inl (G.2.1.2.2, 45, .inr (.inl t_said))), (h_t_many, .inl (G.2.1.2.1, 5, .inl t_many)), (h_t_grades, .inl (G.2.1.2.1, 9, .inl (upd t_grades v3.toNatClampNeg (-9 : Int32))))] H := hP
        have hD : va_D A [(h_t, .inr (8, [.long t_trace, .ref h_t_text, .int t_typed, .ref h_t_said, .ref h_t_many, .long t_when, .long t_then, .ref h_t_grades, .ref h_t_doubts, .int t_at, .int t_token, .int t_start, .ref h_t_vals, .ref h_t_waits, .int t_valMany, .int t_waitMany, .int t_open, .long t_saying, .ref h_t_fresh, .ref h_t_freshMany, .int t_quarrel])), (h_t_said, .inl (G.2.1.2.2, 45, .inr (.inl t_said))), (h_t_many, .inl (G.2.1.2.1, 5, .inl t_many)), (h_t_grades, .inl (G.2.1.2.1, 9, .inl (upd t_grades v3.toNatClampNeg (-9 : Int32))))] := hD
        obtain ⟨x22, ex22⟩ : ∃ y : Int32, y = (v3 + (1 : Int32)) := ⟨_, rfl⟩
        have hf := lt_n hf x22 ex22
        refine lv_iinc (v := x22) (lv' := [(3, .int x22), (0, .ref h_t), (1, .int a1), (2, .int v2)]) hx hb dX8_grades_21 hl (k := 3) rfl (by rw [ex22]; rfl) (by decide) rfl (fun ls hl => ?_)
        refine lv_goto (tgt := 8) hx hb dX8_grades_24 (by decide) ?_
        exact ih (upd t_grades v3.toNatClampNeg (-9 : Int32)) x22 hf _ _ hP hD hS _ (lv_sub hl [1, 2, 3, 0] rfl)
  unfold f_X8_grades at hf
  refine en (fun H locs hP hD hS => ?_) hP hD
  refine lv_iconst (v := (1 : Int32)) hx hb dX8_grades_0 (by decide) ?_
  refine lv_iload_n hx hb dX8_grades_1 rfl (lv_at hl 1 rfl) ?_
  refine lv_ishl hx hb dX8_grades_2 ?_
  refine lv_iconst (v := (1 : Int32)) hx hb dX8_grades_3 (by decide) ?_
  refine lv_isub hx hb dX8_grades_4 ?_
  refine lv_topi (fun x23 ex23 => ?_)
  have hf := lt_n hf x23 ex23
  refine lv_istore_n (lv' := [(2, .int x23), (0, .ref h_t), (1, .int a1)]) hx hb dX8_grades_5 rfl hl (by decide) rfl (fun ls hl => ?_)
  refine lv_iconst (v := (0 : Int32)) hx hb dX8_grades_6 (by decide) ?_
  refine lv_istore_n (lv' := [(3, .int (0 : Int32)), (2, .int x23), (0, .ref h_t), (1, .int a1)]) hx hb dX8_grades_7 rfl hl (by decide) rfl (fun ls hl => ?_)
  exact hw_8 x23 fu t_grades (0 : Int32) hf _ _ hP hD hS _ (lv_sub hl [2, 3, 1, 0] rfl)
-- method X8_rates
def f_X8_rates (t_quarrel : Int32) (t_said : Nat → Int64) (t_many : Nat → Int32) (t_grades : Nat → Int32) : Option (Int32 × (Nat → Int32)) :=
  gd (ib (1 : Int32) 5) (bd (f_X8_grades t_said t_many t_grades (t_many (1 : Int32).toNatClampNeg)) (fun o1 => gd (zb o1.1) (some (o1.1, o1.2))))
set_option maxHeartbeats 4000000 in
set_option maxRecDepth 100000 in
theorem c_X8_rates (l : Launch) (G : GG) (h_t h_t_text h_t_said h_t_many h_t_grades h_t_doubts h_t_vals h_t_waits h_t_fresh h_t_freshMany : Nat) (sz : Nat) (t_trace : Int64) (t_typed : Int32) (t_when : Int64) (t_then : Int64) (t_at : Int32) (t_token : Int32) (t_start : Int32) (t_valMany : Int32) (t_waitMany : Int32) (t_open : Int32) (t_saying : Int64) (t_quarrel : Int32) (t_said : Nat → Int64) (t_many : Nat → Int32) (t_grades : Nat → Int32)  (o : Int32 × (Nat → Int32)) (ho : f_X8_rates t_quarrel t_said t_many t_grades = some o)  : Met l yX8_rates wsX8_rates ({ frames := 3, cells := 0, slots := 0, locals := 71 } : Room) (pcA G [.ref h_t] [(h_t, .inr (8, [.long t_trace, .ref h_t_text, .int t_typed, .ref h_t_said, .ref h_t_many, .long t_when, .long t_then, .ref h_t_grades, .ref h_t_doubts, .int t_at, .int t_token, .int t_start, .ref h_t_vals, .ref h_t_waits, .int t_valMany, .int t_waitMany, .int t_open, .long t_saying, .ref h_t_fresh, .ref h_t_freshMany, .int t_quarrel])), (h_t_said, .inl (G.2.1.2.2, 45, .inr (.inl t_said))), (h_t_many, .inl (G.2.1.2.1, 5, .inl t_many)), (h_t_grades, .inl (G.2.1.2.1, 9, .inl t_grades))] sz) (qcV Unit G (fun _ => True) (fun _ => [(h_t, .inr (8, [.long t_trace, .ref h_t_text, .int t_typed, .ref h_t_said, .ref h_t_many, .long t_when, .long t_then, .ref h_t_grades, .ref h_t_doubts, .int t_at, .int t_token, .int t_start, .ref h_t_vals, .ref h_t_waits, .int t_valMany, .int t_waitMany, .int t_open, .long t_saying, .ref h_t_fresh, .ref h_t_freshMany, .int o.1])), (h_t_said, .inl (G.2.1.2.2, 45, .inr (.inl t_said))), (h_t_many, .inl (G.2.1.2.1, 5, .inl t_many)), (h_t_grades, .inl (G.2.1.2.1, 9, .inl o.2))]) (va_A [(h_t, .inr (8, [.long t_trace, .ref h_t_text, .int t_typed, .ref h_t_said, .ref h_t_many, .long t_when, .long t_then, .ref h_t_grades, .ref h_t_doubts, .int t_at, .int t_token, .int t_start, .ref h_t_vals, .ref h_t_waits, .int t_valMany, .int t_waitMany, .int t_open, .long t_saying, .ref h_t_fresh, .ref h_t_freshMany, .int t_quarrel])), (h_t_said, .inl (G.2.1.2.2, 45, .inr (.inl t_said))), (h_t_many, .inl (G.2.1.2.1, 5, .inl t_many)), (h_t_grades, .inl (G.2.1.2.1, 9, .inl t_grades))] sz)) 0 0 (va_A [(h_t, .inr (8, [.long t_trace, .ref h_t_text, .int t_typed, .ref h_t_said, .ref h_t_many, .long t_when, .long t_then, .ref h_t_grades, .ref h_t_doubts, .int t_at, .int t_token, .int t_start, .ref h_t_vals, .ref h_t_waits, .int t_valMany, .int t_waitMany, .int t_open, .long t_saying, .ref h_t_fresh, .ref h_t_freshMany, .int t_quarrel])), (h_t_said, .inl (G.2.1.2.2, 45, .inr (.inl t_said))), (h_t_many, .inl (G.2.1.2.1, 5, .inl t_many)), (h_t_grades, .inl (G.2.1.2.1, 9, .inl t_grades))] sz) := by
  refine Met.ofW (cc := cX8_rates) (maxL := 1) (ret := none) (by decide) rfl ?_
  intro p e s m args below meth c s₁ B hml hv
  obtain ⟨rfl, hsz, hP, hg, hD0, hc⟩ := hv
  have hx := B.exec
  have hb := B.bytes
  have hr := B.returns
  have hts := atoms_spec (ws := wsX8_rates) B.pre
  have hown : s.vm.findClass RX8 = some m.cls := findClass_of_methodNamed B.named
  have hlocks := B.notSynchronized
  subst hsz
  have hD := hD0.self (sz := s.heap.size)
  generalize hAe : va_A [(h_t, .inr (8, [.long t_trace, .ref h_t_text, .int t_typed, .ref h_t_said, .ref h_t_many, .long t_when, .long t_then, .ref h_t_grades, .ref h_t_doubts, .int t_at, .int t_token, .int t_start, .ref h_t_vals, .ref h_t_waits, .int t_valMany, .int t_waitMany, .int t_open, .long t_saying, .ref h_t_fresh, .ref h_t_freshMany, .int t_quarrel])), (h_t_said, .inl (G.2.1.2.2, 45, .inr (.inl t_said))), (h_t_many, .inl (G.2.1.2.1, 5, .inl t_many)), (h_t_grades, .inl (G.2.1.2.1, 9, .inl t_grades))] s.heap.size = A at hD hc ⊢
  have hA : ∀ q : Nat, s.heap.size ≤ q → A q := fun q h => by rw [← hAe]; exact Or.inr h
  have hiX8 : ∀ w ∈ wsX80, w ∈ wsX8_rates := by decide +kernel
  have hl := lv_entry ([.ref h_t]) (n := 1) (Nat.le_of_ble_eq_true rfl)
  rw [lg_entry_eq]
  generalize (lg_sl ([.ref h_t]) ++ List.replicate (1 - (lg_sl ([.ref h_t])).length) Slot.unset).toArray = ls at hl ⊢
  have hl : lv_has ls 1 [(0, .ref h_t)] := hl
  have hf := ho
  unfold f_X8_rates at hf
  refine en (fun H locs hP hD hS => ?_) hP hD
  refine lv_aload_n hx hb dX8_rates_0 rfl (lv_at hl 0 rfl) ?_
  refine lv_aload_n hx hb dX8_rates_1 rfl (lv_at hl 0 rfl) ?_
  refine lv_aload_n hx hb dX8_rates_2 rfl (lv_at hl 0 rfl) ?_
  refine va_get (D := G.1) (ci := 8) (v := .ref h_t_many) (C := RX8) (T := TX8) (N := 21) hx hb hts hiX8 hown hg.1 hP 0 rfl rfl 4 (by decide) (hts (.fieldLink RX8 17 "AsARuleModel" "many" "[I") (by decide +kernel)) (fun _ h9 => h9) rfl dX8_rates_3 ?_
  refine lv_iconst (v := (1 : Int32)) hx hb dX8_rates_6 (by decide) ?_
  refine va_iald hx hb hg.1 hP 2 1 rfl rfl (ib_in (gd_t hf)) dX8_rates_7 ?_
  have hf := gd_x hf
  obtain ⟨o1, ho1, hf⟩ := bd_e hf
  refine af_i (wr := []) (va_runV (As := [.int (t_many (1 : Int32).toNatClampNeg)]) (rest := [.ref h_t]) ⟨hx, hb, hml, hown, hts⟩ (c_X8_grades l G h_t h_t_text h_t_said h_t_many h_t_grades h_t_doubts h_t_vals h_t_waits h_t_fresh h_t_freshMany H.size t_trace t_typed t_when t_then t_at t_token t_start t_valMany t_waitMany t_open t_saying t_quarrel t_said t_many t_grades (t_many (1 : Int32).toNatClampNeg) o1 ho1) (cwV 1 hts gX8_rates_X8_grades rfl rfl rfl (by decide +kernel) ⟨Nat.le_of_ble_eq_true rfl, Nat.le_of_ble_eq_true rfl⟩) (pcA_preV hg hc hP hD hS hA [0, 1, 2, 3] rfl (by decide) (q0 := 0) (ci := 8) rfl rfl rfl) rfl rfl hl.1 rfl (lv_room (Nat.le_of_ble_eq_true rfl)) dX8_rates_8 ⟨Nat.zero_le _, Nat.zero_le _⟩) hP hD hS hA [0, 1, 2, 3] [] rfl rfl (by decide) (by decide) (fun _ H locs _ hP hD hS => ?_)
  have hP : va_P G.1 vwCl [(h_t, .inr (8, [.long t_trace, .ref h_t_text, .int t_typed, .ref h_t_said, .ref h_t_many, .long t_when, .long t_then, .ref h_t_grades, .ref h_t_doubts, .int t_at, .int t_token, .int t_start, .ref h_t_vals, .ref h_t_waits, .int t_valMany, .int t_waitMany, .int t_open, .long t_saying, .ref h_t_fresh, .ref h_t_freshMany, .int t_quarrel])), (h_t_said, .inl (G.2.1.2.2, 45, .inr (.inl t_said))), (h_t_many, .inl (G.2.1.2.1, 5, .inl t_many)), (h_t_grades, .inl (G.2.1.2.1, 9, .inl o1.2))] H := hP
  have hD : va_D A [(h_t, .inr (8, [.long t_trace, .ref h_t_text, .int t_typed, .ref h_t_said, .ref h_t_many, .long t_when, .long t_then, .ref h_t_grades, .ref h_t_doubts, .int t_at, .int t_token, .int t_start, .ref h_t_vals, .ref h_t_waits, .int t_valMany, .int t_waitMany, .int t_open, .long t_saying, .ref h_t_fresh, .ref h_t_freshMany, .int t_quarrel])), (h_t_said, .inl (G.2.1.2.2, 45, .inr (.inl t_said))), (h_t_many, .inl (G.2.1.2.1, 5, .inl t_many)), (h_t_grades, .inl (G.2.1.2.1, 9, .inl o1.2))] := hD
  have z2 := gd_t hf
  have hf := gd_x hf
  refine va_put (D := G.1) (ci := 8) (v := .int o1.1) (ty := .boolean) (C := RX8) (T := TX8) (N := 21) hx hb hts hiX8 tyX8 tyX8_ok nmX8 hown hg.1 hP hD hS 0 rfl rfl 20 (by decide) (hts (.fieldLink RX8 169 "AsARuleModel" "quarrel" "Z") (by decide +kernel)) (fun _ h9 => h9) rfl (by decide +kernel) (zb_n z2) (zb_f z2) (Nat.le_of_ble_eq_true rfl) dX8_rates_11 (fun H locs hP hD hS => ?_)
  have hP : va_P G.1 vwCl [(h_t, .inr (8, [.long t_trace, .ref h_t_text, .int t_typed, .ref h_t_said, .ref h_t_many, .long t_when, .long t_then, .ref h_t_grades, .ref h_t_doubts, .int t_at, .int t_token, .int t_start, .ref h_t_vals, .ref h_t_waits, .int t_valMany, .int t_waitMany, .int t_open, .long t_saying, .ref h_t_fresh, .ref h_t_freshMany, .int o1.1])), (h_t_said, .inl (G.2.1.2.2, 45, .inr (.inl t_said))), (h_t_many, .inl (G.2.1.2.1, 5, .inl t_many)), (h_t_grades, .inl (G.2.1.2.1, 9, .inl o1.2))] H := hP
  have hD : va_D A [(h_t, .inr (8, [.long t_trace, .ref h_t_text, .int t_typed, .ref h_t_said, .ref h_t_many, .long t_when, .long t_then, .ref h_t_grades, .ref h_t_doubts, .int t_at, .int t_token, .int t_start, .ref h_t_vals, .ref h_t_waits, .int t_valMany, .int t_waitMany, .int t_open, .long t_saying, .ref h_t_fresh, .ref h_t_freshMany, .int o1.1])), (h_t_said, .inl (G.2.1.2.2, 45, .inr (.inl t_said))), (h_t_many, .inl (G.2.1.2.1, 5, .inl t_many)), (h_t_grades, .inl (G.2.1.2.1, 9, .inl o1.2))] := hD
  rw [← Option.some.inj hf]
  exact rt_v (u := ()) hx hb hr hlocks hP hD trivial hS dX8_rates_14
-- method X8_gradeOfRule
def f_X8_gradeOfRule (t_grades : Nat → Int32) (a1 : Int32) : Option (Int32) :=
  gd (ib a1 9) (if (t_grades a1.toNatClampNeg) = (-9 : Int32) then some ((8 : Int32)) else gd (ib a1 9) (some ((t_grades a1.toNatClampNeg))))
set_option maxHeartbeats 4000000 in
set_option maxRecDepth 100000 in
theorem c_X8_gradeOfRule (l : Launch) (G : GG) (h_t h_t_text h_t_said h_t_many h_t_grades h_t_doubts h_t_vals h_t_waits h_t_fresh h_t_freshMany : Nat) (sz : Nat) (t_trace : Int64) (t_typed : Int32) (t_when : Int64) (t_then : Int64) (t_at : Int32) (t_token : Int32) (t_start : Int32) (t_valMany : Int32) (t_waitMany : Int32) (t_open : Int32) (t_saying : Int64) (t_quarrel : Int32) (t_grades : Nat → Int32) (a1 : Int32) (o : Int32) (ho : f_X8_gradeOfRule t_grades a1 = some o)  : Met l yX8_gradeOfRule wsX8_gradeOfRule ({ frames := 0, cells := 0, slots := 0, locals := 0 } : Room) (pcA G [.ref h_t, .int a1] [(h_t, .inr (8, [.long t_trace, .ref h_t_text, .int t_typed, .ref h_t_said, .ref h_t_many, .long t_when, .long t_then, .ref h_t_grades, .ref h_t_doubts, .int t_at, .int t_token, .int t_start, .ref h_t_vals, .ref h_t_waits, .int t_valMany, .int t_waitMany, .int t_open, .long t_saying, .ref h_t_fresh, .ref h_t_freshMany, .int t_quarrel])), (h_t_grades, .inl (G.2.1.2.1, 9, .inl t_grades))] sz) (qcI Unit G o (fun _ => True) (fun _ => [(h_t, .inr (8, [.long t_trace, .ref h_t_text, .int t_typed, .ref h_t_said, .ref h_t_many, .long t_when, .long t_then, .ref h_t_grades, .ref h_t_doubts, .int t_at, .int t_token, .int t_start, .ref h_t_vals, .ref h_t_waits, .int t_valMany, .int t_waitMany, .int t_open, .long t_saying, .ref h_t_fresh, .ref h_t_freshMany, .int t_quarrel])), (h_t_grades, .inl (G.2.1.2.1, 9, .inl t_grades))]) (va_A [(h_t, .inr (8, [.long t_trace, .ref h_t_text, .int t_typed, .ref h_t_said, .ref h_t_many, .long t_when, .long t_then, .ref h_t_grades, .ref h_t_doubts, .int t_at, .int t_token, .int t_start, .ref h_t_vals, .ref h_t_waits, .int t_valMany, .int t_waitMany, .int t_open, .long t_saying, .ref h_t_fresh, .ref h_t_freshMany, .int t_quarrel])), (h_t_grades, .inl (G.2.1.2.1, 9, .inl t_grades))] sz)) 0 0 (va_A [(h_t, .inr (8, [.long t_trace, .ref h_t_text, .int t_typed, .ref h_t_said, .ref h_t_many, .long t_when, .long t_then, .ref h_t_grades, .ref h_t_doubts, .int t_at, .int t_token, .int t_start, .ref h_t_vals, .ref h_t_waits, .int t_valMany, .int t_waitMany, .int t_open, .long t_saying, .ref h_t_fresh, .ref h_t_freshMany, .int t_quarrel])), (h_t_grades, .inl (G.2.1.2.1, 9, .inl t_grades))] sz) := by
  refine Met.ofW (cc := cX8_gradeOfRule) (maxL := 2) (ret := (some .int)) (by decide) rfl ?_
  intro p e s m args below meth c s₁ B hml hv
  obtain ⟨rfl, hsz, hP, hg, hD0, hc⟩ := hv
  have hx := B.exec
  have hb := B.bytes
  have hr := B.returns
  have hts := atoms_spec (ws := wsX8_gradeOfRule) B.pre
  have hown : s.vm.findClass RX8 = some m.cls := findClass_of_methodNamed B.named
  have hlocks := B.notSynchronized
  subst hsz
  have hD := hD0.self (sz := s.heap.size)
  generalize hAe : va_A [(h_t, .inr (8, [.long t_trace, .ref h_t_text, .int t_typed, .ref h_t_said, .ref h_t_many, .long t_when, .long t_then, .ref h_t_grades, .ref h_t_doubts, .int t_at, .int t_token, .int t_start, .ref h_t_vals, .ref h_t_waits, .int t_valMany, .int t_waitMany, .int t_open, .long t_saying, .ref h_t_fresh, .ref h_t_freshMany, .int t_quarrel])), (h_t_grades, .inl (G.2.1.2.1, 9, .inl t_grades))] s.heap.size = A at hD hc ⊢
  have hA : ∀ q : Nat, s.heap.size ≤ q → A q := fun q h => by rw [← hAe]; exact Or.inr h
  have hiX8 : ∀ w ∈ wsX80, w ∈ wsX8_gradeOfRule := by decide +kernel
  have hl := lv_entry ([.ref h_t, .int a1]) (n := 2) (Nat.le_of_ble_eq_true rfl)
  rw [lg_entry_eq]
  generalize (lg_sl ([.ref h_t, .int a1]) ++ List.replicate (2 - (lg_sl ([.ref h_t, .int a1])).length) Slot.unset).toArray = ls at hl ⊢
  have hl : lv_has ls 2 [(0, .ref h_t), (1, .int a1)] := hl
  have hf := ho
  unfold f_X8_gradeOfRule at hf
  refine en (fun H locs hP hD hS => ?_) hP hD
  refine lv_aload_n hx hb dX8_gradeOfRule_0 rfl (lv_at hl 0 rfl) ?_
  refine va_get (D := G.1) (ci := 8) (v := .ref h_t_grades) (C := RX8) (T := TX8) (N := 21) hx hb hts hiX8 hown hg.1 hP 0 rfl rfl 7 (by decide) (hts (.fieldLink RX8 20 "AsARuleModel" "grades" "[I") (by decide +kernel)) (fun _ h9 => h9) rfl dX8_gradeOfRule_1 ?_
  refine lv_iload_n hx hb dX8_gradeOfRule_4 rfl (lv_at hl 1 rfl) ?_
  refine va_iald hx hb hg.1 hP 1 1 rfl rfl (ib_in (gd_t hf)) dX8_gradeOfRule_5 ?_
  have hf := gd_x hf
  refine lv_bipush (v := (-9 : Int32)) hx hb dX8_gradeOfRule_6 (by decide) ?_
  refine lv_icmp_ne (tgt := 16) hx hb dX8_gradeOfRule_8 (by decide) (fun c1 => ?_) (fun c1 => ?_)
  · have hf := it_f c1 hf
    refine lv_aload_n hx hb dX8_gradeOfRule_16 rfl (lv_at hl 0 rfl) ?_
    refine va_get (D := G.1) (ci := 8) (v := .ref h_t_grades) (C := RX8) (T := TX8) (N := 21) hx hb hts hiX8 hown hg.1 hP 0 rfl rfl 7 (by decide) (hts (.fieldLink RX8 20 "AsARuleModel" "grades" "[I") (by decide +kernel)) (fun _ h9 => h9) rfl dX8_gradeOfRule_17 ?_
    refine lv_iload_n hx hb dX8_gradeOfRule_20 rfl (lv_at hl 1 rfl) ?_
    refine va_iald hx hb hg.1 hP 1 1 rfl rfl (ib_in (gd_t hf)) dX8_gradeOfRule_21 ?_
    have hf := gd_x hf
    rw [← Option.some.inj hf]
    exact rt_i (u := ()) hx hb hr hlocks hP hD trivial hS dX8_gradeOfRule_22
  · have hf := it_t c1 hf
    refine lv_bipush (v := (8 : Int32)) hx hb dX8_gradeOfRule_11 (by decide) ?_
    refine lv_goto (tgt := 22) hx hb dX8_gradeOfRule_13 (by decide) ?_
    rw [← Option.some.inj hf]
    exact rt_i (u := ()) hx hb hr hlocks hP hD trivial hS dX8_gradeOfRule_22
-- method X8_worldGrade
def jn_X8_worldGrade_51 (t_said : Nat → Int64) (t_many : Nat → Int32) (t_grades : Nat → Int32) (a1 : Int32) (k_18 : Int32 → Int32 → Option (Int32)) (v2 : Int32) (v3 : Int32) (s0 : Int32) : Option (Int32) :=
  if s0 ≤ v2 then lt (v3 + (1 : Int32)) (fun x2 => k_18 v2 x2) else lt (v3 + (1 : Int32)) (fun x3 => k_18 s0 x3)
def lp_X8_worldGrade_18 (t_said : Nat → Int64) (t_many : Nat → Int32) (t_grades : Nat → Int32) (a1 : Int32) : Nat → Int32 → Int32 → Option (Int32)
  | 0, _, _ => none
  | n + 1, v2, v3 => gd (ib (1 : Int32) 5) (if (t_many (1 : Int32).toNatClampNeg) ≤ v3 then some (v2) else bd (f_X8_broken t_said v3) (fun o5 => bd (f_X8_has o5 a1) (fun o6 => if o6 = (0 : Int32) then jn_X8_worldGrade_51 t_said t_many t_grades a1 (fun v2 v3 => lp_X8_worldGrade_18 t_said t_many t_grades a1 n v2 v3) v2 v3 (0 : Int32) else bd (f_X8_gradeOfRule t_grades v3) (fun o8 => jn_X8_worldGrade_51 t_said t_many t_grades a1 (fun v2 v3 => lp_X8_worldGrade_18 t_said t_many t_grades a1 n v2 v3) v2 v3 (o8 + (1 : Int32))))))
def f_X8_worldGrade (t_said : Nat → Int64) (t_many : Nat → Int32) (t_grades : Nat → Int32) (a1 : Int32) : Option (Int32) :=
  bd (f_X8_thereNow t_said t_many) (fun o9 => bd (f_X8_has o9 a1) (fun o10 => if o10 = (0 : Int32) then some ((-9 : Int32)) else lp_X8_worldGrade_18 t_said t_many t_grades a1 fu (0 : Int32) (0 : Int32)))
set_option maxHeartbeats 4000000 in
set_option maxRecDepth 100000 in
theorem c_X8_worldGrade (l : Launch) (G : GG) (h_t h_t_text h_t_said h_t_many h_t_grades h_t_doubts h_t_vals h_t_waits h_t_fresh h_t_freshMany : Nat) (sz : Nat) (t_trace : Int64) (t_typed : Int32) (t_when : Int64) (t_then : Int64) (t_at : Int32) (t_token : Int32) (t_start : Int32) (t_valMany : Int32) (t_waitMany : Int32) (t_open : Int32) (t_saying : Int64) (t_quarrel : Int32) (t_said : Nat → Int64) (t_many : Nat → Int32) (t_grades : Nat → Int32) (a1 : Int32) (o : Int32) (ho : f_X8_worldGrade t_said t_many t_grades a1 = some o)  : Met l yX8_worldGrade wsX8_worldGrade ({ frames := 2, cells := 0, slots := 0, locals := 44 } : Room) (pcA G [.ref h_t, .int a1] [(h_t, .inr (8, [.long t_trace, .ref h_t_text, .int t_typed, .ref h_t_said, .ref h_t_many, .long t_when, .long t_then, .ref h_t_grades, .ref h_t_doubts, .int t_at, .int t_token, .int t_start, .ref h_t_vals, .ref h_t_waits, .int t_valMany, .int t_waitMany, .int t_open, .long t_saying, .ref h_t_fresh, .ref h_t_freshMany, .int t_quarrel])), (h_t_said, .inl (G.2.1.2.2, 45, .inr (.inl t_said))), (h_t_many, .inl (G.2.1.2.1, 5, .inl t_many)), (h_t_grades, .inl (G.2.1.2.1, 9, .inl t_grades))] sz) (qcI Unit G o (fun _ => True) (fun _ => [(h_t, .inr (8, [.long t_trace, .ref h_t_text, .int t_typed, .ref h_t_said, .ref h_t_many, .long t_when, .long t_then, .ref h_t_grades, .ref h_t_doubts, .int t_at, .int t_token, .int t_start, .ref h_t_vals, .ref h_t_waits, .int t_valMany, .int t_waitMany, .int t_open, .long t_saying, .ref h_t_fresh, .ref h_t_freshMany, .int t_quarrel])), (h_t_said, .inl (G.2.1.2.2, 45, .inr (.inl t_said))), (h_t_many, .inl (G.2.1.2.1, 5, .inl t_many)), (h_t_grades, .inl (G.2.1.2.1, 9, .inl t_grades))]) (va_A [(h_t, .inr (8, [.long t_trace, .ref h_t_text, .int t_typed, .ref h_t_said, .ref h_t_many, .long t_when, .long t_then, .ref h_t_grades, .ref h_t_doubts, .int t_at, .int t_token, .int t_start, .ref h_t_vals, .ref h_t_waits, .int t_valMany, .int t_waitMany, .int t_open, .long t_saying, .ref h_t_fresh, .ref h_t_freshMany, .int t_quarrel])), (h_t_said, .inl (G.2.1.2.2, 45, .inr (.inl t_said))), (h_t_many, .inl (G.2.1.2.1, 5, .inl t_many)), (h_t_grades, .inl (G.2.1.2.1, 9, .inl t_grades))] sz)) 0 0 (va_A [(h_t, .inr (8, [.long t_trace, .ref h_t_text, .int t_typed, .ref h_t_said, .ref h_t_many, .long t_when, .long t_then, .ref h_t_grades, .ref h_t_doubts, .int t_at, .int t_token, .int t_start, .ref h_t_vals, .ref h_t_waits, .int t_valMany, .int t_waitMany, .int t_open, .long t_saying, .ref h_t_fresh, .ref h_t_freshMany, .int t_quarrel])), (h_t_said, .inl (G.2.1.2.2, 45, .inr (.inl t_said))), (h_t_many, .inl (G.2.1.2.1, 5, .inl t_many)), (h_t_grades, .inl (G.2.1.2.1, 9, .inl t_grades))] sz) := by
  refine Met.ofW (cc := cX8_worldGrade) (maxL := 5) (ret := (some .int)) (by decide) rfl ?_
  intro p e s m args below meth c s₁ B hml hv
  obtain ⟨rfl, hsz, hP, hg, hD0, hc⟩ := hv
  have hx := B.exec
  have hb := B.bytes
  have hr := B.returns
  have hts := atoms_spec (ws := wsX8_worldGrade) B.pre
  have hown : s.vm.findClass RX8 = some m.cls := findClass_of_methodNamed B.named
  have hlocks := B.notSynchronized
  subst hsz
  have hD := hD0.self (sz := s.heap.size)
  generalize hAe : va_A [(h_t, .inr (8, [.long t_trace, .ref h_t_text, .int t_typed, .ref h_t_said, .ref h_t_many, .long t_when, .long t_then, .ref h_t_grades, .ref h_t_doubts, .int t_at, .int t_token, .int t_start, .ref h_t_vals, .ref h_t_waits, .int t_valMany, .int t_waitMany, .int t_open, .long t_saying, .ref h_t_fresh, .ref h_t_freshMany, .int t_quarrel])), (h_t_said, .inl (G.2.1.2.2, 45, .inr (.inl t_said))), (h_t_many, .inl (G.2.1.2.1, 5, .inl t_many)), (h_t_grades, .inl (G.2.1.2.1, 9, .inl t_grades))] s.heap.size = A at hD hc ⊢
  have hA : ∀ q : Nat, s.heap.size ≤ q → A q := fun q h => by rw [← hAe]; exact Or.inr h
  have hiX8 : ∀ w ∈ wsX80, w ∈ wsX8_worldGrade := by decide +kernel
  have hl := lv_entry ([.ref h_t, .int a1]) (n := 5) (Nat.le_of_ble_eq_true rfl)
  rw [lg_entry_eq]
  generalize (lg_sl ([.ref h_t, .int a1]) ++ List.replicate (5 - (lg_sl ([.ref h_t, .int a1])).length) Slot.unset).toArray = ls at hl ⊢
  have hl : lv_has ls 5 [(0, .ref h_t), (1, .int a1)] := hl
  have hf := ho
  have hw_51 : ∀ (k_18 : Int32 → Int32 → Option (Int32)) (hk_18 : ∀ (v2 : Int32) (v3 : Int32), k_18 v2 v3 = some o → ∀ (H : Heap) (locs : List Loc), va_P G.1 vwCl [(h_t, .inr (8, [.long t_trace, .ref h_t_text, .int t_typed, .ref h_t_said, .ref h_t_many, .long t_when, .long t_then, .ref h_t_grades, .ref h_t_doubts, .int t_at, .int t_token, .int t_start, .ref h_t_vals, .ref h_t_waits, .int t_valMany, .int t_waitMany, .int t_open, .long t_saying, .ref h_t_fresh, .ref h_t_freshMany, .int t_quarrel])), (h_t_said, .inl (G.2.1.2.2, 45, .inr (.inl t_said))), (h_t_many, .inl (G.2.1.2.1, 5, .inl t_many)), (h_t_grades, .inl (G.2.1.2.1, 9, .inl t_grades))] H → va_D A [(h_t, .inr (8, [.long t_trace, .ref h_t_text, .int t_typed, .ref h_t_said, .ref h_t_many, .long t_when, .long t_then, .ref h_t_grades, .ref h_t_doubts, .int t_at, .int t_token, .int t_start, .ref h_t_vals, .ref h_t_waits, .int t_valMany, .int t_waitMany, .int t_open, .long t_saying, .ref h_t_fresh, .ref h_t_freshMany, .int t_quarrel])), (h_t_said, .inl (G.2.1.2.2, 45, .inr (.inl t_said))), (h_t_many, .inl (G.2.1.2.1, 5, .inl t_many)), (h_t_grades, .inl (G.2.1.2.1, 9, .inl t_grades))] → va_S A s.heap H locs → ∀ (ls : Array Slot), lv_has ls 5 [(0, .ref h_t), (1, .int a1), (2, .int v2), (3, .int v3)] → W p l e (headSpec wsX8_worldGrade ({ frames := 2, cells := 0, slots := 0, locals := 44 } : Room)).room s m ([.ref h_t, .int a1] : List Value).toArray below meth c H locs 0 0 (MQ below (qcI Unit G o (fun _ => True) (fun _ => [(h_t, .inr (8, [.long t_trace, .ref h_t_text, .int t_typed, .ref h_t_said, .ref h_t_many, .long t_when, .long t_then, .ref h_t_grades, .ref h_t_doubts, .int t_at, .int t_token, .int t_start, .ref h_t_vals, .ref h_t_waits, .int t_valMany, .int t_waitMany, .int t_open, .long t_saying, .ref h_t_fresh, .ref h_t_freshMany, .int t_quarrel])), (h_t_said, .inl (G.2.1.2.2, 45, .inr (.inl t_said))), (h_t_many, .inl (G.2.1.2.1, 5, .inl t_many)), (h_t_grades, .inl (G.2.1.2.1, 9, .inl t_grades))]) A) ([.ref h_t, .int a1] : List Value).toArray s 0 0 A) (F0 m 18 ls [])) (v2 : Int32) (v3 : Int32) (s0 : Int32), jn_X8_worldGrade_51 t_said t_many t_grades a1 k_18 v2 v3 s0 = some o → ∀ (H : Heap) (locs : List Loc), va_P G.1 vwCl [(h_t, .inr (8, [.long t_trace, .ref h_t_text, .int t_typed, .ref h_t_said, .ref h_t_many, .long t_when, .long t_then, .ref h_t_grades, .ref h_t_doubts, .int t_at, .int t_token, .int t_start, .ref h_t_vals, .ref h_t_waits, .int t_valMany, .int t_waitMany, .int t_open, .long t_saying, .ref h_t_fresh, .ref h_t_freshMany, .int t_quarrel])), (h_t_said, .inl (G.2.1.2.2, 45, .inr (.inl t_said))), (h_t_many, .inl (G.2.1.2.1, 5, .inl t_many)), (h_t_grades, .inl (G.2.1.2.1, 9, .inl t_grades))] H → va_D A [(h_t, .inr (8, [.long t_trace, .ref h_t_text, .int t_typed, .ref h_t_said, .ref h_t_many, .long t_when, .long t_then, .ref h_t_grades, .ref h_t_doubts, .int t_at, .int t_token, .int t_start, .ref h_t_vals, .ref h_t_waits, .int t_valMany, .int t_waitMany, .int t_open, .long t_saying, .ref h_t_fresh, .ref h_t_freshMany, .int t_quarrel])), (h_t_said, .inl (G.2.1.2.2, 45, .inr (.inl t_said))), (h_t_many, .inl (G.2.1.2.1, 5, .inl t_many)), (h_t_grades, .inl (G.2.1.2.1, 9, .inl t_grades))] → va_S A s.heap H locs → ∀ (ls : Array Slot), lv_has ls 5 [(0, .ref h_t), (1, .int a1), (2, .int v2), (3, .int v3)] → W p l e (headSpec wsX8_worldGrade ({ frames := 2, cells := 0, slots := 0, locals := 44 } : Room)).room s m ([.ref h_t, .int a1] : List Value).toArray below meth c H locs 0 0 (MQ below (qcI Unit G o (fun _ => True) (fun _ => [(h_t, .inr (8, [.long t_trace, .ref h_t_text, .int t_typed, .ref h_t_said, .ref h_t_many, .long t_when, .long t_then, .ref h_t_grades, .ref h_t_doubts, .int t_at, .int t_token, .int t_start, .ref h_t_vals, .ref h_t_waits, .int t_valMany, .int t_waitMany, .int t_open, .long t_saying, .ref h_t_fresh, .ref h_t_freshMany, .int t_quarrel])), (h_t_said, .inl (G.2.1.2.2, 45, .inr (.inl t_said))), (h_t_many, .inl (G.2.1.2.1, 5, .inl t_many)), (h_t_grades, .inl (G.2.1.2.1, 9, .inl t_grades))]) A) ([.ref h_t, .int a1] : List Value).toArray s 0 0 A) (F0 m 51 ls [.int s0]) := by
    intro k_18 hk_18 v2 v3 s0 hf H locs hP hD hS ls hl
    unfold jn_X8_worldGrade_51 at hf
    refine lv_istore (lv' := [(4, .int s0), (0, .ref h_t), (1, .int a1), (2, .int v2), (3, .int v3)]) hx hb dX8_worldGrade_51 hl (by decide) rfl (fun ls hl => ?_)
    refine lv_iload hx hb dX8_worldGrade_53 (lv_at hl 0 rfl) ?_
    refine lv_iload_n hx hb dX8_worldGrade_55 rfl (lv_at hl 3 rfl) ?_
    refine lv_icmp_le (tgt := 64) hx hb dX8_worldGrade_56 (by decide) (fun c1 => ?_) (fun c1 => ?_)
    · have hf := it_t c1 hf
      refine lv_iload_n hx hb dX8_worldGrade_64 rfl (lv_at hl 3 rfl) ?_
      refine lv_istore_n (lv' := [(2, .int v2), (4, .int s0), (0, .ref h_t), (1, .int a1), (3, .int v3)]) hx hb dX8_worldGrade_65 rfl hl (by decide) rfl (fun ls hl => ?_)
      obtain ⟨x2, ex2⟩ : ∃ y : Int32, y = (v3 + (1 : Int32)) := ⟨_, rfl⟩
      have hf := lt_n hf x2 ex2
      refine lv_iinc (v := x2) (lv' := [(3, .int x2), (2, .int v2), (4, .int s0), (0, .ref h_t), (1, .int a1)]) hx hb dX8_worldGrade_66 hl (k := 4) rfl (by rw [ex2]; rfl) (by decide) rfl (fun ls hl => ?_)
      refine lv_goto (tgt := 18) hx hb dX8_worldGrade_69 (by decide) ?_
      exact hk_18 v2 x2 hf _ _ hP hD hS _ (lv_sub hl [3, 4, 1, 0] rfl)
    · have hf := it_f c1 hf
      refine lv_iload hx hb dX8_worldGrade_59 (lv_at hl 0 rfl) ?_
      refine lv_goto (tgt := 65) hx hb dX8_worldGrade_61 (by decide) ?_
      refine lv_istore_n (lv' := [(2, .int s0), (4, .int s0), (0, .ref h_t), (1, .int a1), (3, .int v3)]) hx hb dX8_worldGrade_65 rfl hl (by decide) rfl (fun ls hl => ?_)
      obtain ⟨x3, ex3⟩ : ∃ y : Int32, y = (v3 + (1 : Int32)) := ⟨_, rfl⟩
      have hf := lt_n hf x3 ex3
      refine lv_iinc (v := x3) (lv' := [(3, .int x3), (2, .int s0), (4, .int s0), (0, .ref h_t), (1, .int a1)]) hx hb dX8_worldGrade_66 hl (k := 4) rfl (by rw [ex3]; rfl) (by decide) rfl (fun ls hl => ?_)
      refine lv_goto (tgt := 18) hx hb dX8_worldGrade_69 (by decide) ?_
      exact hk_18 s0 x3 hf _ _ hP hD hS _ (lv_sub hl [3, 4, 1, 0] rfl)
  have hw_18 : ∀  (n : Nat) (v2 : Int32) (v3 : Int32), lp_X8_worldGrade_18 t_said t_many t_grades a1 n v2 v3 = some o → ∀ (H : Heap) (locs : List Loc), va_P G.1 vwCl [(h_t, .inr (8, [.long t_trace, .ref h_t_text, .int t_typed, .ref h_t_said, .ref h_t_many, .long t_when, .long t_then, .ref h_t_grades, .ref h_t_doubts, .int t_at, .int t_token, .int t_start, .ref h_t_vals, .ref h_t_waits, .int t_valMany, .int t_waitMany, .int t_open, .long t_saying, .ref h_t_fresh, .ref h_t_freshMany, .int t_quarrel])), (h_t_said, .inl (G.2.1.2.2, 45, .inr (.inl t_said))), (h_t_many, .inl (G.2.1.2.1, 5, .inl t_many)), (h_t_grades, .inl (G.2.1.2.1, 9, .inl t_grades))] H → va_D A [(h_t, .inr (8, [.long t_trace, .ref h_t_text, .int t_typed, .ref h_t_said, .ref h_t_many, .long t_when, .long t_then, .ref h_t_grades, .ref h_t_doubts, .int t_at, .int t_token, .int t_start, .ref h_t_vals, .ref h_t_waits, .int t_valMany, .int t_waitMany, .int t_open, .long t_saying, .ref h_t_fresh, .ref h_t_freshMany, .int t_quarrel])), (h_t_said, .inl (G.2.1.2.2, 45, .inr (.inl t_said))), (h_t_many, .inl (G.2.1.2.1, 5, .inl t_many)), (h_t_grades, .inl (G.2.1.2.1, 9, .inl t_grades))] → va_S A s.heap H locs → ∀ (ls : Array Slot), lv_has ls 5 [(0, .ref h_t), (1, .int a1), (2, .int v2), (3, .int v3)] → W p l e (headSpec wsX8_worldGrade ({ frames := 2, cells := 0, slots := 0, locals := 44 } : Room)).room s m ([.ref h_t, .int a1] : List Value).toArray below meth c H locs 0 0 (MQ below (qcI Unit G o (fun _ => True) (fun _ => [(h_t, .inr (8, [.long t_trace, .ref h_t_text, .int t_typed, .ref h_t_said, .ref h_t_many, .long t_when, .long t_then, .ref h_t_grades, .ref h_t_doubts, .int t_at, .int t_token, .int t_start, .ref h_t_vals, .ref h_t_waits, .int t_valMany, .int t_waitMany, .int t_open, .long t_saying, .ref h_t_fresh, .ref h_t_freshMany, .int t_quarrel])), (h_t_said, .inl (G.2.1.2.2, 45, .inr (.inl t_said))), (h_t_many, .inl (G.2.1.2.1, 5, .inl t_many)), (h_t_grades, .inl (G.2.1.2.1, 9, .inl t_grades))]) A) ([.ref h_t, .int a1] : List Value).toArray s 0 0 A) (F0 m 18 ls []) := by
    intro n
    induction n with
    | zero =>
      intro v2 v3 hf
      exact absurd hf (by rw [lp_X8_worldGrade_18]; intro h; cases h)
    | succ n ih =>
      intro v2 v3 hf H locs hP hD hS ls hl
      rw [lp_X8_worldGrade_18] at hf
      refine lv_iload_n hx hb dX8_worldGrade_18 rfl (lv_at hl 3 rfl) ?_
      refine lv_aload_n hx hb dX8_worldGrade_19 rfl (lv_at hl 0 rfl) ?_
      refine va_get (D := G.1) (ci := 8) (v := .ref h_t_many) (C := RX8) (T := TX8) (N := 21) hx hb hts hiX8 hown hg.1 hP 0 rfl rfl 4 (by decide) (hts (.fieldLink RX8 17 "AsARuleModel" "many" "[I") (by decide +kernel)) (fun _ h9 => h9) rfl dX8_worldGrade_20 ?_
      refine lv_iconst (v := (1 : Int32)) hx hb dX8_worldGrade_23 (by decide) ?_
      refine va_iald hx hb hg.1 hP 2 1 rfl rfl (ib_in (gd_t hf)) dX8_worldGrade_24 ?_
      have hf := gd_x hf
      refine lv_icmp_ge (tgt := 72) hx hb dX8_worldGrade_25 (by decide) (fun c4 => ?_) (fun c4 => ?_)
      · have hf := it_t c4 hf
        refine lv_iload_n hx hb dX8_worldGrade_72 rfl (lv_at hl 2 rfl) ?_
        rw [← Option.some.inj hf]
        exact rt_i (u := ()) hx hb hr hlocks hP hD trivial hS dX8_worldGrade_73
      · have hf := it_f c4 hf
        refine lv_aload_n hx hb dX8_worldGrade_28 rfl (lv_at hl 0 rfl) ?_
        refine lv_iload_n hx hb dX8_worldGrade_29 rfl (lv_at hl 3 rfl) ?_
        obtain ⟨o5, ho5, hf⟩ := bd_e hf
        refine af_l (wr := [(h_t_many, .inl (G.2.1.2.1, 5, .inl t_many)), (h_t_grades, .inl (G.2.1.2.1, 9, .inl t_grades))]) (va_runV (As := [.int v3]) (rest := []) ⟨hx, hb, hml, hown, hts⟩ (c_X8_broken l G h_t h_t_text h_t_said h_t_many h_t_grades h_t_doubts h_t_vals h_t_waits h_t_fresh h_t_freshMany H.size t_trace t_typed t_when t_then t_at t_token t_start t_valMany t_waitMany t_open t_saying t_quarrel t_said v3 o5 ho5) (cwV 1 hts gX8_worldGrade_X8_broken rfl rfl rfl (by decide +kernel) ⟨Nat.le_of_ble_eq_true rfl, Nat.le_of_ble_eq_true rfl⟩) (pcA_preV hg hc hP hD hS hA [0, 1] rfl (by decide) (q0 := 0) (ci := 8) rfl rfl rfl) rfl rfl hl.1 rfl (lv_room (Nat.le_of_ble_eq_true rfl)) dX8_worldGrade_30 ⟨Nat.zero_le _, Nat.zero_le _⟩) hP hD hS hA [0, 1] [2, 3] rfl rfl (by decide) (by decide) (fun _ H locs _ hP hD hS => ?_)
        have hP : va_P G.1 vwCl [(h_t, .inr (8, [.long t_trace, .ref h_t_text, .int t_typed, .ref h_t_said, .ref h_t_many, .long t_when, .long t_then, .ref h_t_grades, .ref h_t_doubts, .int t_at, .int t_token, .int t_start, .ref h_t_vals, .ref h_t_waits, .int t_valMany, .int t_waitMany, .int t_open, .long t_saying, .ref h_t_fresh, .ref h_t_freshMany, .int t_quarrel])), (h_t_said, .inl (G.2.1.2.2, 45, .inr (.inl t_said))), (h_t_many, .inl (G.2.1.2.1, 5, .inl t_many)), (h_t_grades, .inl (G.2.1.2.1, 9, .inl t_grades))] H := hP.sub [2, 3, 0, 1] rfl
        have hD : va_D A [(h_t, .inr (8, [.long t_trace, .ref h_t_text, .int t_typed, .ref h_t_said, .ref h_t_many, .long t_when, .long t_then, .ref h_t_grades, .ref h_t_doubts, .int t_at, .int t_token, .int t_start, .ref h_t_vals, .ref h_t_waits, .int t_valMany, .int t_waitMany, .int t_open, .long t_saying, .ref h_t_fresh, .ref h_t_freshMany, .int t_quarrel])), (h_t_said, .inl (G.2.1.2.2, 45, .inr (.inl t_said))), (h_t_many, .inl (G.2.1.2.1, 5, .inl t_many)), (h_t_grades, .inl (G.2.1.2.1, 9, .inl t_grades))] := hD.sub [2, 3, 0, 1] (by decide) rfl
        refine lv_iload_n hx hb dX8_worldGrade_33 rfl (lv_at hl 1 rfl) ?_
        obtain ⟨o6, ho6, hf⟩ := bd_e hf
        refine af0_i (va_runS (As := [.long o5, .int a1]) (rest := []) ⟨hx, hb, hml, hown, hts⟩ (c_X8_has l G H.size o5 a1 o6 ho6) (va_cwS 2 hts gX8_worldGrade_X8_has rfl rfl rfl (by decide +kernel) ⟨Nat.le_of_ble_eq_true rfl, Nat.le_of_ble_eq_true rfl⟩) (pcA_pre hg hc hP hD hS hA [] rfl rfl [.long o5, .int a1]) rfl rfl hl.1 rfl (lv_room (Nat.le_of_ble_eq_true rfl)) dX8_worldGrade_34 ⟨Nat.zero_le _, Nat.zero_le _⟩) hP hD hS hA (fun H locs hP hD hS => ?_)
        refine lv_if_eq (tgt := 50) hx hb dX8_worldGrade_37 (by decide) (fun c7 => ?_) (fun c7 => ?_)
        · have hf := it_t c7 hf
          refine lv_iconst (v := (0 : Int32)) hx hb dX8_worldGrade_50 (by decide) ?_
          exact hw_51 _ ih v2 v3 (0 : Int32) hf _ _ hP hD hS _ hl
        · have hf := it_f c7 hf
          refine lv_aload_n hx hb dX8_worldGrade_40 rfl (lv_at hl 0 rfl) ?_
          refine lv_iload_n hx hb dX8_worldGrade_41 rfl (lv_at hl 3 rfl) ?_
          obtain ⟨o8, ho8, hf⟩ := bd_e hf
          refine af_i (wr := [(h_t_said, .inl (G.2.1.2.2, 45, .inr (.inl t_said))), (h_t_many, .inl (G.2.1.2.1, 5, .inl t_many))]) (va_runV (As := [.int v3]) (rest := []) ⟨hx, hb, hml, hown, hts⟩ (c_X8_gradeOfRule l G h_t h_t_text h_t_said h_t_many h_t_grades h_t_doubts h_t_vals h_t_waits h_t_fresh h_t_freshMany H.size t_trace t_typed t_when t_then t_at t_token t_start t_valMany t_waitMany t_open t_saying t_quarrel t_grades v3 o8 ho8) (cwV 1 hts gX8_worldGrade_X8_gradeOfRule rfl rfl rfl (by decide +kernel) ⟨Nat.le_of_ble_eq_true rfl, Nat.le_of_ble_eq_true rfl⟩) (pcA_preV hg hc hP hD hS hA [0, 3] rfl (by decide) (q0 := 0) (ci := 8) rfl rfl rfl) rfl rfl hl.1 rfl (lv_room (Nat.le_of_ble_eq_true rfl)) dX8_worldGrade_42 ⟨Nat.zero_le _, Nat.zero_le _⟩) hP hD hS hA [0, 3] [1, 2] rfl rfl (by decide) (by decide) (fun _ H locs _ hP hD hS => ?_)
          have hP : va_P G.1 vwCl [(h_t, .inr (8, [.long t_trace, .ref h_t_text, .int t_typed, .ref h_t_said, .ref h_t_many, .long t_when, .long t_then, .ref h_t_grades, .ref h_t_doubts, .int t_at, .int t_token, .int t_start, .ref h_t_vals, .ref h_t_waits, .int t_valMany, .int t_waitMany, .int t_open, .long t_saying, .ref h_t_fresh, .ref h_t_freshMany, .int t_quarrel])), (h_t_said, .inl (G.2.1.2.2, 45, .inr (.inl t_said))), (h_t_many, .inl (G.2.1.2.1, 5, .inl t_many)), (h_t_grades, .inl (G.2.1.2.1, 9, .inl t_grades))] H := hP.sub [2, 0, 1, 3] rfl
          have hD : va_D A [(h_t, .inr (8, [.long t_trace, .ref h_t_text, .int t_typed, .ref h_t_said, .ref h_t_many, .long t_when, .long t_then, .ref h_t_grades, .ref h_t_doubts, .int t_at, .int t_token, .int t_start, .ref h_t_vals, .ref h_t_waits, .int t_valMany, .int t_waitMany, .int t_open, .long t_saying, .ref h_t_fresh, .ref h_t_freshMany, .int t_quarrel])), (h_t_said, .inl (G.2.1.2.2, 45, .inr (.inl t_said))), (h_t_many, .inl (G.2.1.2.1, 5, .inl t_many)), (h_t_grades, .inl (G.2.1.2.1, 9, .inl t_grades))] := hD.sub [2, 0, 1, 3] (by decide) rfl
          refine lv_iconst (v := (1 : Int32)) hx hb dX8_worldGrade_45 (by decide) ?_
          refine lv_iadd hx hb dX8_worldGrade_46 ?_
          refine lv_goto (tgt := 51) hx hb dX8_worldGrade_47 (by decide) ?_
          exact hw_51 _ ih v2 v3 (o8 + (1 : Int32)) hf _ _ hP hD hS _ hl
  unfold f_X8_worldGrade at hf
  refine en (fun H locs hP hD hS => ?_) hP hD
  refine lv_aload_n hx hb dX8_worldGrade_0 rfl (lv_at hl 0 rfl) ?_
  obtain ⟨o9, ho9, hf⟩ := bd_e hf
  refine af_l (wr := [(h_t_grades, .inl (G.2.1.2.1, 9, .inl t_grades))]) (va_runV (As := []) (rest := []) ⟨hx, hb, hml, hown, hts⟩ (c_X8_thereNow l G h_t h_t_text h_t_said h_t_many h_t_grades h_t_doubts h_t_vals h_t_waits h_t_fresh h_t_freshMany H.size t_trace t_typed t_when t_then t_at t_token t_start t_valMany t_waitMany t_open t_saying t_quarrel t_said t_many o9 ho9) (cwV 0 hts gX8_worldGrade_X8_thereNow rfl rfl rfl (by decide +kernel) ⟨Nat.le_of_ble_eq_true rfl, Nat.le_of_ble_eq_true rfl⟩) (pcA_preV hg hc hP hD hS hA [0, 1, 2] rfl (by decide) (q0 := 0) (ci := 8) rfl rfl rfl) rfl rfl hl.1 rfl (lv_room (Nat.le_of_ble_eq_true rfl)) dX8_worldGrade_1 ⟨Nat.zero_le _, Nat.zero_le _⟩) hP hD hS hA [0, 1, 2] [3] rfl rfl (by decide) (by decide) (fun _ H locs _ hP hD hS => ?_)
  have hP : va_P G.1 vwCl [(h_t, .inr (8, [.long t_trace, .ref h_t_text, .int t_typed, .ref h_t_said, .ref h_t_many, .long t_when, .long t_then, .ref h_t_grades, .ref h_t_doubts, .int t_at, .int t_token, .int t_start, .ref h_t_vals, .ref h_t_waits, .int t_valMany, .int t_waitMany, .int t_open, .long t_saying, .ref h_t_fresh, .ref h_t_freshMany, .int t_quarrel])), (h_t_said, .inl (G.2.1.2.2, 45, .inr (.inl t_said))), (h_t_many, .inl (G.2.1.2.1, 5, .inl t_many)), (h_t_grades, .inl (G.2.1.2.1, 9, .inl t_grades))] H := hP.sub [1, 2, 3, 0] rfl
  have hD : va_D A [(h_t, .inr (8, [.long t_trace, .ref h_t_text, .int t_typed, .ref h_t_said, .ref h_t_many, .long t_when, .long t_then, .ref h_t_grades, .ref h_t_doubts, .int t_at, .int t_token, .int t_start, .ref h_t_vals, .ref h_t_waits, .int t_valMany, .int t_waitMany, .int t_open, .long t_saying, .ref h_t_fresh, .ref h_t_freshMany, .int t_quarrel])), (h_t_said, .inl (G.2.1.2.2, 45, .inr (.inl t_said))), (h_t_many, .inl (G.2.1.2.1, 5, .inl t_many)), (h_t_grades, .inl (G.2.1.2.1, 9, .inl t_grades))] := hD.sub [1, 2, 3, 0] (by decide) rfl
  refine lv_iload_n hx hb dX8_worldGrade_4 rfl (lv_at hl 1 rfl) ?_
  obtain ⟨o10, ho10, hf⟩ := bd_e hf
  refine af0_i (va_runS (As := [.long o9, .int a1]) (rest := []) ⟨hx, hb, hml, hown, hts⟩ (c_X8_has l G H.size o9 a1 o10 ho10) (va_cwS 2 hts gX8_worldGrade_X8_has rfl rfl rfl (by decide +kernel) ⟨Nat.le_of_ble_eq_true rfl, Nat.le_of_ble_eq_true rfl⟩) (pcA_pre hg hc hP hD hS hA [] rfl rfl [.long o9, .int a1]) rfl rfl hl.1 rfl (lv_room (Nat.le_of_ble_eq_true rfl)) dX8_worldGrade_5 ⟨Nat.zero_le _, Nat.zero_le _⟩) hP hD hS hA (fun H locs hP hD hS => ?_)
  refine lv_if_ne (tgt := 14) hx hb dX8_worldGrade_8 (by decide) (fun c11 => ?_) (fun c11 => ?_)
  · have hf := it_f c11 hf
    refine lv_iconst (v := (0 : Int32)) hx hb dX8_worldGrade_14 (by decide) ?_
    refine lv_istore_n (lv' := [(2, .int (0 : Int32)), (0, .ref h_t), (1, .int a1)]) hx hb dX8_worldGrade_15 rfl hl (by decide) rfl (fun ls hl => ?_)
    refine lv_iconst (v := (0 : Int32)) hx hb dX8_worldGrade_16 (by decide) ?_
    refine lv_istore_n (lv' := [(3, .int (0 : Int32)), (2, .int (0 : Int32)), (0, .ref h_t), (1, .int a1)]) hx hb dX8_worldGrade_17 rfl hl (by decide) rfl (fun ls hl => ?_)
    exact hw_18 fu (0 : Int32) (0 : Int32) hf _ _ hP hD hS _ (lv_sub hl [2, 3, 1, 0] rfl)
  · have hf := it_t c11 hf
    refine lv_bipush (v := (-9 : Int32)) hx hb dX8_worldGrade_11 (by decide) ?_
    rw [← Option.some.inj hf]
    exact rt_i (u := ()) hx hb hr hlocks hP hD trivial hS dX8_worldGrade_13
-- method X8_forgets
def lp_X8_forgets_2 (t_said : Nat → Int64) (t_many : Nat → Int32) (t_grades : Nat → Int32) : Nat → (Nat → Int32) → Int32 → Option ((Nat → Int32))
  | 0, _, _ => none
  | n + 1, t_doubts, v1 => if (64 : Int32) ≤ v1 then some (t_doubts) else bd (f_X8_worldGrade t_said t_many t_grades v1) (fun o2 => gd (ib v1 64) (lt (v1 + (1 : Int32)) (fun x3 => lp_X8_forgets_2 t_said t_many t_grades n (upd t_doubts v1.toNatClampNeg o2) x3)))
def f_X8_forgets (t_said : Nat → Int64) (t_many : Nat → Int32) (t_grades : Nat → Int32) (t_doubts : Nat → Int32) : Option ((Nat → Int32)) :=
  lp_X8_forgets_2 t_said t_many t_grades fu t_doubts (0 : Int32)
set_option maxHeartbeats 4000000 in
set_option maxRecDepth 100000 in
theorem c_X8_forgets (l : Launch) (G : GG) (h_t h_t_text h_t_said h_t_many h_t_grades h_t_doubts h_t_vals h_t_waits h_t_fresh h_t_freshMany : Nat) (sz : Nat) (t_trace : Int64) (t_typed : Int32) (t_when : Int64) (t_then : Int64) (t_at : Int32) (t_token : Int32) (t_start : Int32) (t_valMany : Int32) (t_waitMany : Int32) (t_open : Int32) (t_saying : Int64) (t_quarrel : Int32) (t_said : Nat → Int64) (t_many : Nat → Int32) (t_grades : Nat → Int32) (t_doubts : Nat → Int32)  (o : (Nat → Int32)) (ho : f_X8_forgets t_said t_many t_grades t_doubts = some o)  : Met l yX8_forgets wsX8_forgets ({ frames := 3, cells := 0, slots := 0, locals := 68 } : Room) (pcA G [.ref h_t] [(h_t, .inr (8, [.long t_trace, .ref h_t_text, .int t_typed, .ref h_t_said, .ref h_t_many, .long t_when, .long t_then, .ref h_t_grades, .ref h_t_doubts, .int t_at, .int t_token, .int t_start, .ref h_t_vals, .ref h_t_waits, .int t_valMany, .int t_waitMany, .int t_open, .long t_saying, .ref h_t_fresh, .ref h_t_freshMany, .int t_quarrel])), (h_t_said, .inl (G.2.1.2.2, 45, .inr (.inl t_said))), (h_t_many, .inl (G.2.1.2.1, 5, .inl t_many)), (h_t_grades, .inl (G.2.1.2.1, 9, .inl t_grades)), (h_t_doubts, .inl (G.2.1.2.1, 64, .inl t_doubts))] sz) (qcV Unit G (fun _ => True) (fun _ => [(h_t, .inr (8, [.long t_trace, .ref h_t_text, .int t_typed, .ref h_t_said, .ref h_t_many, .long t_when, .long t_then, .ref h_t_grades, .ref h_t_doubts, .int t_at, .int t_token, .int t_start, .ref h_t_vals, .ref h_t_waits, .int t_valMany, .int t_waitMany, .int t_open, .long t_saying, .ref h_t_fresh, .ref h_t_freshMany, .int t_quarrel])), (h_t_said, .inl (G.2.1.2.2, 45, .inr (.inl t_said))), (h_t_many, .inl (G.2.1.2.1, 5, .inl t_many)), (h_t_grades, .inl (G.2.1.2.1, 9, .inl t_grades)), (h_t_doubts, .inl (G.2.1.2.1, 64, .inl o))]) (va_A [(h_t, .inr (8, [.long t_trace, .ref h_t_text, .int t_typed, .ref h_t_said, .ref h_t_many, .long t_when, .long t_then, .ref h_t_grades, .ref h_t_doubts, .int t_at, .int t_token, .int t_start, .ref h_t_vals, .ref h_t_waits, .int t_valMany, .int t_waitMany, .int t_open, .long t_saying, .ref h_t_fresh, .ref h_t_freshMany, .int t_quarrel])), (h_t_said, .inl (G.2.1.2.2, 45, .inr (.inl t_said))), (h_t_many, .inl (G.2.1.2.1, 5, .inl t_many)), (h_t_grades, .inl (G.2.1.2.1, 9, .inl t_grades)), (h_t_doubts, .inl (G.2.1.2.1, 64, .inl t_doubts))] sz)) 0 0 (va_A [(h_t, .inr (8, [.long t_trace, .ref h_t_text, .int t_typed, .ref h_t_said, .ref h_t_many, .long t_when, .long t_then, .ref h_t_grades, .ref h_t_doubts, .int t_at, .int t_token, .int t_start, .ref h_t_vals, .ref h_t_waits, .int t_valMany, .int t_waitMany, .int t_open, .long t_saying, .ref h_t_fresh, .ref h_t_freshMany, .int t_quarrel])), (h_t_said, .inl (G.2.1.2.2, 45, .inr (.inl t_said))), (h_t_many, .inl (G.2.1.2.1, 5, .inl t_many)), (h_t_grades, .inl (G.2.1.2.1, 9, .inl t_grades)), (h_t_doubts, .inl (G.2.1.2.1, 64, .inl t_doubts))] sz) := by
  refine Met.ofW (cc := cX8_forgets) (maxL := 2) (ret := none) (by decide) rfl ?_
  intro p e s m args below meth c s₁ B hml hv
  obtain ⟨rfl, hsz, hP, hg, hD0, hc⟩ := hv
  have hx := B.exec
  have hb := B.bytes
  have hr := B.returns
  have hts := atoms_spec (ws := wsX8_forgets) B.pre
  have hown : s.vm.findClass RX8 = some m.cls := findClass_of_methodNamed B.named
  have hlocks := B.notSynchronized
  subst hsz
  have hD := hD0.self (sz := s.heap.size)
  generalize hAe : va_A [(h_t, .inr (8, [.long t_trace, .ref h_t_text, .int t_typed, .ref h_t_said, .ref h_t_many, .long t_when, .long t_then, .ref h_t_grades, .ref h_t_doubts, .int t_at, .int t_token, .int t_start, .ref h_t_vals, .ref h_t_waits, .int t_valMany, .int t_waitMany, .int t_open, .long t_saying, .ref h_t_fresh, .ref h_t_freshMany, .int t_quarrel])), (h_t_said, .inl (G.2.1.2.2, 45, .inr (.inl t_said))), (h_t_many, .inl (G.2.1.2.1, 5, .inl t_many)), (h_t_grades, .inl (G.2.1.2.1, 9, .inl t_grades)), (h_t_doubts, .inl (G.2.1.2.1, 64, .inl t_doubts))] s.heap.size = A at hD hc ⊢
  have hA : ∀ q : Nat, s.heap.size ≤ q → A q := fun q h => by rw [← hAe]; exact Or.inr h
  have hiX8 : ∀ w ∈ wsX80, w ∈ wsX8_forgets := by decide +kernel
  have hl := lv_entry ([.ref h_t]) (n := 2) (Nat.le_of_ble_eq_true rfl)
  rw [lg_entry_eq]
  generalize (lg_sl ([.ref h_t]) ++ List.replicate (2 - (lg_sl ([.ref h_t])).length) Slot.unset).toArray = ls at hl ⊢
  have hl : lv_has ls 2 [(0, .ref h_t)] := hl
  have hf := ho
  have hw_2 : ∀  (n : Nat) (t_doubts : Nat → Int32) (v1 : Int32), lp_X8_forgets_2 t_said t_many t_grades n t_doubts v1 = some o → ∀ (H : Heap) (locs : List Loc), va_P G.1 vwCl [(h_t, .inr (8, [.long t_trace, .ref h_t_text, .int t_typed, .ref h_t_said, .ref h_t_many, .long t_when, .long t_then, .ref h_t_grades, .ref h_t_doubts, .int t_at, .int t_token, .int t_start, .ref h_t_vals, .ref h_t_waits, .int t_valMany, .int t_waitMany, .int t_open, .long t_saying, .ref h_t_fresh, .ref h_t_freshMany, .int t_quarrel])), (h_t_said, .inl (G.2.1.2.2, 45, .inr (.inl t_said))), (h_t_many, .inl (G.2.1.2.1, 5, .inl t_many)), (h_t_grades, .inl (G.2.1.2.1, 9, .inl t_grades)), (h_t_doubts, .inl (G.2.1.2.1, 64, .inl t_doubts))] H → va_D A [(h_t, .inr (8, [.long t_trace, .ref h_t_text, .int t_typed, .ref h_t_said, .ref h_t_many, .long t_when, .long t_then, .ref h_t_grades, .ref h_t_doubts, .int t_at, .int t_token, .int t_start, .ref h_t_vals, .ref h_t_waits, .int t_valMany, .int t_waitMany, .int t_open, .long t_saying, .ref h_t_fresh, .ref h_t_freshMany, .int t_quarrel])), (h_t_said, .inl (G.2.1.2.2, 45, .inr (.inl t_said))), (h_t_many, .inl (G.2.1.2.1, 5, .inl t_many)), (h_t_grades, .inl (G.2.1.2.1, 9, .inl t_grades)), (h_t_doubts, .inl (G.2.1.2.1, 64, .inl t_doubts))] → va_S A s.heap H locs → ∀ (ls : Array Slot), lv_has ls 2 [(0, .ref h_t), (1, .int v1)] → W p l e (headSpec wsX8_forgets ({ frames := 3, cells := 0, slots := 0, locals := 68 } : Room)).room s m ([.ref h_t] : List Value).toArray below meth c H locs 0 0 (MQ below (qcV Unit G (fun _ => True) (fun _ => [(h_t, .inr (8, [.long t_trace, .ref h_t_text, .int t_typed, .ref h_t_said, .ref h_t_many, .long t_when, .long t_then, .ref h_t_grades, .ref h_t_doubts, .int t_at, .int t_token, .int t_start, .ref h_t_vals, .ref h_t_waits, .int t_valMany, .int t_waitMany, .int t_open, .long t_saying, .ref h_t_fresh, .ref h_t_freshMany, .int t_quarrel])), (h_t_said, .inl (G.2.1.2.2, 45, .inr (.inl t_said))), (h_t_many, .inl (G.2.1.2.1, 5, .inl t_many)), (h_t_grades, .inl (G.2.1.2.1, 9, .inl t_grades)), (h_t_doubts, .inl (G.2.1.2.1, 64, .inl o))]) A) ([.ref h_t] : List Value).toArray s 0 0 A) (F0 m 2 ls []) := by
    intro n
    induction n with
    | zero =>
      intro t_doubts v1 hf
      exact absurd hf (by rw [lp_X8_forgets_2]; intro h; cases h)
    | succ n ih =>
      intro t_doubts v1 hf H locs hP hD hS ls hl
      rw [lp_X8_forgets_2] at hf
      refine lv_iload_n hx hb dX8_forgets_2 rfl (lv_at hl 1 rfl) ?_
      refine lv_bipush (v := (64 : Int32)) hx hb dX8_forgets_3 (by decide) ?_
      refine lv_icmp_ge (tgt := 25) hx hb dX8_forgets_5 (by decide) (fun c1 => ?_) (fun c1 => ?_)
      · have hf := it_t c1 hf
        rw [← Option.some.inj hf]
        exact rt_v (u := ()) hx hb hr hlocks hP hD trivial hS dX8_forgets_25
      · have hf := it_f c1 hf
        refine lv_aload_n hx hb dX8_forgets_8 rfl (lv_at hl 0 rfl) ?_
        refine va_get (D := G.1) (ci := 8) (v := .ref h_t_doubts) (C := RX8) (T := TX8) (N := 21) hx hb hts hiX8 hown hg.1 hP 0 rfl rfl 8 (by decide) (hts (.fieldLink RX8 23 "AsARuleModel" "doubts" "[I") (by decide +kernel)) (fun _ h9 => h9) rfl dX8_forgets_9 ?_
        refine lv_iload_n hx hb dX8_forgets_12 rfl (lv_at hl 1 rfl) ?_
        refine lv_aload_n hx hb dX8_forgets_13 rfl (lv_at hl 0 rfl) ?_
        refine lv_iload_n hx hb dX8_forgets_14 rfl (lv_at hl 1 rfl) ?_
        obtain ⟨o2, ho2, hf⟩ := bd_e hf
        refine af_i (wr := [(h_t_doubts, .inl (G.2.1.2.1, 64, .inl t_doubts))]) (va_runV (As := [.int v1]) (rest := [.int v1, .ref h_t_doubts]) ⟨hx, hb, hml, hown, hts⟩ (c_X8_worldGrade l G h_t h_t_text h_t_said h_t_many h_t_grades h_t_doubts h_t_vals h_t_waits h_t_fresh h_t_freshMany H.size t_trace t_typed t_when t_then t_at t_token t_start t_valMany t_waitMany t_open t_saying t_quarrel t_said t_many t_grades v1 o2 ho2) (cwV 1 hts gX8_forgets_X8_worldGrade rfl rfl rfl (by decide +kernel) ⟨Nat.le_of_ble_eq_true rfl, Nat.le_of_ble_eq_true rfl⟩) (pcA_preV hg hc hP hD hS hA [0, 1, 2, 3] rfl (by decide) (q0 := 0) (ci := 8) rfl rfl rfl) rfl rfl hl.1 rfl (lv_room (Nat.le_of_ble_eq_true rfl)) dX8_forgets_15 ⟨Nat.zero_le _, Nat.zero_le _⟩) hP hD hS hA [0, 1, 2, 3] [4] rfl rfl (by decide) (by decide) (fun _ H locs _ hP hD hS => ?_)
        have hP : va_P G.1 vwCl [(h_t, .inr (8, [.long t_trace, .ref h_t_text, .int t_typed, .ref h_t_said, .ref h_t_many, .long t_when, .long t_then, .ref h_t_grades, .ref h_t_doubts, .int t_at, .int t_token, .int t_start, .ref h_t_vals, .ref h_t_waits, .int t_valMany, .int t_waitMany, .int t_open, .long t_saying, .ref h_t_fresh, .ref h_t_freshMany, .int t_quarrel])), (h_t_said, .inl (G.2.1.2.2, 45, .inr (.inl t_said))), (h_t_many, .inl (G.2.1.2.1, 5, .inl t_many)), (h_t_grades, .inl (G.2.1.2.1, 9, .inl t_grades)), (h_t_doubts, .inl (G.2.1.2.1, 64, .inl t_doubts))] H := hP.sub [1, 2, 3, 4, 0] rfl
        have hD : va_D A [(h_t, .inr (8, [.long t_trace, .ref h_t_text, .int t_typed, .ref h_t_said, .ref h_t_many, .long t_when, .long t_then, .ref h_t_grades, .ref h_t_doubts, .int t_at, .int t_token, .int t_start, .ref h_t_vals, .ref h_t_waits, .int t_valMany, .int t_waitMany, .int t_open, .long t_saying, .ref h_t_fresh, .ref h_t_freshMany, .int t_quarrel])), (h_t_said, .inl (G.2.1.2.2, 45, .inr (.inl t_said))), (h_t_many, .inl (G.2.1.2.1, 5, .inl t_many)), (h_t_grades, .inl (G.2.1.2.1, 9, .inl t_grades)), (h_t_doubts, .inl (G.2.1.2.1, 64, .inl t_doubts))] := hD.sub [1, 2, 3, 4, 0] (by decide) rfl
        refine va_iast hx hb hg.1 hP hD hS 4 1 rfl rfl (ib_in (gd_t hf)) dX8_forgets_18 (fun H locs hP hD hS => ?_)
        have hf := gd_x hf
        have hP : va_P G.1 vwCl [(h_t, .inr (8, [.long t_trace, .ref h_t_text, .int t_typed, .ref h_t_said, .ref h_t_many, .long t_when, .long t_then, .ref h_t_grades, .ref h_t_doubts, .int t_at, .int t_token, .int t_start, .ref h_t_vals, .ref h_t_waits, .int t_valMany, .int t_waitMany, .int t_open, .long t_saying, .ref h_t_fresh, .ref h_t_freshMany, .int t_quarrel])), (h_t_said, .inl (G.2.1.2.2, 45, .inr (.inl t_said))), (h_t_many, .inl (G.2.1.2.1, 5, .inl t_many)), (h_t_grades, .inl (G.2.1.2.1, 9, .inl t_grades)), (h_t_doubts, .inl (G.2.1.2.1, 64, .inl (upd t_doubts v1.toNatClampNeg o2)))] H := hP
        have hD : va_D A [(h_t, .inr (8, [.long t_trace, .ref h_t_text, .int t_typed, .ref h_t_said, .ref h_t_many, .long t_when, .long t_then, .ref h_t_grades, .ref h_t_doubts, .int t_at, .int t_token, .int t_start, .ref h_t_vals, .ref h_t_waits, .int t_valMany, .int t_waitMany, .int t_open, .long t_saying, .ref h_t_fresh, .ref h_t_freshMany, .int t_quarrel])), (h_t_said, .inl (G.2.1.2.2, 45, .inr (.inl t_said))), (h_t_many, .inl (G.2.1.2.1, 5, .inl t_many)), (h_t_grades, .inl (G.2.1.2.1, 9, .inl t_grades)), (h_t_doubts, .inl (G.2.1.2.1, 64, .inl (upd t_doubts v1.toNatClampNeg o2)))] := hD
        obtain ⟨x3, ex3⟩ : ∃ y : Int32, y = (v1 + (1 : Int32)) := ⟨_, rfl⟩
        have hf := lt_n hf x3 ex3
        refine lv_iinc (v := x3) (lv' := [(1, .int x3), (0, .ref h_t)]) hx hb dX8_forgets_19 hl (k := 1) rfl (by rw [ex3]; rfl) (by decide) rfl (fun ls hl => ?_)
        refine lv_goto (tgt := 2) hx hb dX8_forgets_22 (by decide) ?_
        exact ih (upd t_doubts v1.toNatClampNeg o2) x3 hf _ _ hP hD hS _ (lv_sub hl [1, 0] rfl)
  unfold f_X8_forgets at hf
  refine en (fun H locs hP hD hS => ?_) hP hD
  refine lv_iconst (v := (0 : Int32)) hx hb dX8_forgets_0 (by decide) ?_
  refine lv_istore_n (lv' := [(1, .int (0 : Int32)), (0, .ref h_t)]) hx hb dX8_forgets_1 rfl hl (by decide) rfl (fun ls hl => ?_)
  exact hw_2 fu t_doubts (0 : Int32) hf _ _ hP hD hS _ (lv_sub hl [1, 0] rfl)
-- method X8_tell
def jn_X8_tell_110 (t_text : Nat → Int32) (t_typed : Int32) (t_at : Int32) (t_token : Int32) (t_start : Int32) (t_valMany : Int32) (t_waitMany : Int32) (t_open : Int32) (t_saying : Int64) (t_quarrel : Int32) (t_said : Nat → Int64) (t_many : Nat → Int32) (t_grades : Nat → Int32) (t_doubts : Nat → Int32) (t_vals : Nat → Int64) (t_waits : Nat → Int32) (t_fresh : Nat → Int64) (t_freshMany : Nat → Int32) (v1 : Int32) : Option (Int32 × Int32 × Int32 × Int32 × Int32 × Int32 × Int32 × Int32 × Int64 × Int32 × (Nat → Int64) × (Nat → Int32) × (Nat → Int32) × (Nat → Int32) × (Nat → Int64) × (Nat → Int32) × (Nat → Int64) × (Nat → Int32)) :=
  gd (ib (1 : Int32) 5) (gd (ib (2 : Int32) 5) (bd (f_X8_rates t_quarrel t_said (upd t_many (2 : Int32).toNatClampNeg (t_many (1 : Int32).toNatClampNeg)) t_grades) (fun o1 => bd (f_X8_forgets t_said (upd t_many (2 : Int32).toNatClampNeg (t_many (1 : Int32).toNatClampNeg)) o1.2 t_doubts) (fun o2 => some (v1, (0 : Int32), t_at, t_token, t_start, t_valMany, t_waitMany, t_open, t_saying, o1.1, t_said, (upd t_many (2 : Int32).toNatClampNeg (t_many (1 : Int32).toNatClampNeg)), o1.2, o2, t_vals, t_waits, t_fresh, t_freshMany)))))
def lp_X8_tell_87 (t_text : Nat → Int32) (t_typed : Int32) (t_at : Int32) (t_token : Int32) (t_start : Int32) (t_valMany : Int32) (t_waitMany : Int32) (t_open : Int32) (t_saying : Int64) (t_quarrel : Int32) (t_said : Nat → Int64) (t_grades : Nat → Int32) (t_doubts : Nat → Int32) (t_vals : Nat → Int64) (t_waits : Nat → Int32) (t_fresh : Nat → Int64) (t_freshMany : Nat → Int32) (v1 : Int32) : Nat → (Nat → Int32) → Int32 → Option (Int32 × Int32 × Int32 × Int32 × Int32 × Int32 × Int32 × Int32 × Int64 × Int32 × (Nat → Int64) × (Nat → Int32) × (Nat → Int32) × (Nat → Int32) × (Nat → Int64) × (Nat → Int32) × (Nat → Int64) × (Nat → Int32))
  | 0, _, _ => none
  | n + 1, t_many, v2 => if (5 : Int32) ≤ v2 then jn_X8_tell_110 t_text t_typed t_at t_token t_start t_valMany t_waitMany t_open t_saying t_quarrel t_said t_many t_grades t_doubts t_vals t_waits t_fresh t_freshMany v1 else gd (ib v2 5) (gd (ib v2 5) (lt (v2 + (1 : Int32)) (fun x4 => lp_X8_tell_87 t_text t_typed t_at t_token t_start t_valMany t_waitMany t_open t_saying t_quarrel t_said t_grades t_doubts t_vals t_waits t_fresh t_freshMany v1 n (upd t_many v2.toNatClampNeg (t_freshMany v2.toNatClampNeg)) x4)))
def lp_X8_tell_61 (t_text : Nat → Int32) (t_typed : Int32) (t_at : Int32) (t_token : Int32) (t_start : Int32) (t_valMany : Int32) (t_waitMany : Int32) (t_open : Int32) (t_saying : Int64) (t_quarrel : Int32) (t_many : Nat → Int32) (t_grades : Nat → Int32) (t_doubts : Nat → Int32) (t_vals : Nat → Int64) (t_waits : Nat → Int32) (t_fresh : Nat → Int64) (t_freshMany : Nat → Int32) (v1 : Int32) : Nat → (Nat → Int64) → Int32 → Option (Int32 × Int32 × Int32 × Int32 × Int32 × Int32 × Int32 × Int32 × Int64 × Int32 × (Nat → Int64) × (Nat → Int32) × (Nat → Int32) × (Nat → Int32) × (Nat → Int64) × (Nat → Int32) × (Nat → Int64) × (Nat → Int32))
  | 0, _, _ => none
  | n + 1, t_said, v2 => if (45 : Int32) ≤ v2 then lp_X8_tell_87 t_text t_typed t_at t_token t_start t_valMany t_waitMany t_open t_saying t_quarrel t_said t_grades t_doubts t_vals t_waits t_fresh t_freshMany v1 fu t_many (0 : Int32) else gd (ib v2 45) (gd (ib v2 45) (lt (v2 + (1 : Int32)) (fun x6 => lp_X8_tell_61 t_text t_typed t_at t_token t_start t_valMany t_waitMany t_open t_saying t_quarrel t_many t_grades t_doubts t_vals t_waits t_fresh t_freshMany v1 n (vp_updL t_said v2.toNatClampNeg (t_fresh v2.toNatClampNeg)) x6)))
def lp_X8_tell_31 (t_text : Nat → Int32) (t_typed : Int32) (t_quarrel : Int32) (t_said : Nat → Int64) (t_many : Nat → Int32) (t_grades : Nat → Int32) (t_doubts : Nat → Int32) : Nat → Int32 → Int32 → Int32 → Int32 → Int32 → Int32 → Int64 → (Nat → Int64) → (Nat → Int32) → (Nat → Int64) → (Nat → Int32) → Int32 → Option (Int32 × Int32 × Int32 × Int32 × Int32 × Int32 × Int32 × Int32 × Int64 × Int32 × (Nat → Int64) × (Nat → Int32) × (Nat → Int32) × (Nat → Int32) × (Nat → Int64) × (Nat → Int32) × (Nat → Int64) × (Nat → Int32))
  | 0, _, _, _, _, _, _, _, _, _, _, _, _ => none
  | n + 1, t_at, t_token, t_start, t_valMany, t_waitMany, t_open, t_saying, t_vals, t_waits, t_fresh, t_freshMany, v1 => if t_token = (0 : Int32) then lp_X8_tell_61 t_text t_typed t_at t_token t_start t_valMany t_waitMany t_open t_saying t_quarrel t_many t_grades t_doubts t_vals t_waits t_fresh t_freshMany v1 fu t_said (0 : Int32) else bd (f_X8_item t_typed t_at t_token t_start t_valMany t_waitMany t_open t_saying t_text t_vals t_waits t_fresh t_freshMany) (fun o8 => if o8.1 = (0 : Int32) then some (((-10 : Int32) - o8.2.2.2.1), t_typed, o8.2.1, o8.2.2.1, o8.2.2.2.1, o8.2.2.2.2.1, o8.2.2.2.2.2.1, o8.2.2.2.2.2.2.1, o8.2.2.2.2.2.2.2.1, t_quarrel, t_said, t_many, t_grades, t_doubts, o8.2.2.2.2.2.2.2.2.1, o8.2.2.2.2.2.2.2.2.2.1, o8.2.2.2.2.2.2.2.2.2.2.1, o8.2.2.2.2.2.2.2.2.2.2.2) else lt (v1 + (1 : Int32)) (fun x10 => lp_X8_tell_31 t_text t_typed t_quarrel t_said t_many t_grades t_doubts n o8.2.1 o8.2.2.1 o8.2.2.2.1 o8.2.2.2.2.1 o8.2.2.2.2.2.1 o8.2.2.2.2.2.2.1 o8.2.2.2.2.2.2.2.1 o8.2.2.2.2.2.2.2.2.1 o8.2.2.2.2.2.2.2.2.2.1 o8.2.2.2.2.2.2.2.2.2.2.1 o8.2.2.2.2.2.2.2.2.2.2.2 x10))
def lp_X8_tell_7 (t_text : Nat → Int32) (t_typed : Int32) (t_at : Int32) (t_token : Int32) (t_start : Int32) (t_valMany : Int32) (t_waitMany : Int32) (t_open : Int32) (t_saying : Int64) (t_quarrel : Int32) (t_said : Nat → Int64) (t_many : Nat → Int32) (t_grades : Nat → Int32) (t_doubts : Nat → Int32) (t_vals : Nat → Int64) (t_waits : Nat → Int32) (t_fresh : Nat → Int64) : Nat → (Nat → Int32) → Int32 → Option (Int32 × Int32 × Int32 × Int32 × Int32 × Int32 × Int32 × Int32 × Int64 × Int32 × (Nat → Int64) × (Nat → Int32) × (Nat → Int32) × (Nat → Int32) × (Nat → Int64) × (Nat → Int32) × (Nat → Int64) × (Nat → Int32))
  | 0, _, _ => none
  | n + 1, t_freshMany, v1 => if (5 : Int32) ≤ v1 then bd (f_X8_scans t_typed t_at t_token t_start t_text) (fun o12 => lp_X8_tell_31 t_text t_typed t_quarrel t_said t_many t_grades t_doubts fu o12.1 o12.2.1 o12.2.2 t_valMany t_waitMany t_open t_saying t_vals t_waits t_fresh t_freshMany (0 : Int32)) else gd (ib v1 5) (lt (v1 + (1 : Int32)) (fun x13 => lp_X8_tell_7 t_text t_typed t_at t_token t_start t_valMany t_waitMany t_open t_saying t_quarrel t_said t_many t_grades t_doubts t_vals t_waits t_fresh n (upd t_freshMany v1.toNatClampNeg (0 : Int32)) x13))
def f_X8_tell (t_typed : Int32) (t_at : Int32) (t_token : Int32) (t_start : Int32) (t_valMany : Int32) (t_waitMany : Int32) (t_open : Int32) (t_saying : Int64) (t_quarrel : Int32) (t_text : Nat → Int32) (t_said : Nat → Int64) (t_many : Nat → Int32) (t_grades : Nat → Int32) (t_doubts : Nat → Int32) (t_vals : Nat → Int64) (t_waits : Nat → Int32) (t_fresh : Nat → Int64) (t_freshMany : Nat → Int32) : Option (Int32 × Int32 × Int32 × Int32 × Int32 × Int32 × Int32 × Int32 × Int64 × Int32 × (Nat → Int64) × (Nat → Int32) × (Nat → Int32) × (Nat → Int32) × (Nat → Int64) × (Nat → Int32) × (Nat → Int64) × (Nat → Int32)) :=
  lp_X8_tell_7 t_text t_typed (0 : Int32) t_token t_start t_valMany t_waitMany t_open t_saying t_quarrel t_said t_many t_grades t_doubts t_vals t_waits t_fresh fu t_freshMany (0 : Int32)
set_option maxHeartbeats 4000000 in
set_option maxRecDepth 100000 in
theorem c_X8_tell (l : Launch) (G : GG) (h_t h_t_text h_t_said h_t_many h_t_grades h_t_doubts h_t_vals h_t_waits h_t_fresh h_t_freshMany : Nat) (sz : Nat) (t_trace : Int64) (t_typed : Int32) (t_when : Int64) (t_then : Int64) (t_at : Int32) (t_token : Int32) (t_start : Int32) (t_valMany : Int32) (t_waitMany : Int32) (t_open : Int32) (t_saying : Int64) (t_quarrel : Int32) (t_text : Nat → Int32) (t_said : Nat → Int64) (t_many : Nat → Int32) (t_grades : Nat → Int32) (t_doubts : Nat → Int32) (t_vals : Nat → Int64) (t_waits : Nat → Int32) (t_fresh : Nat → Int64) (t_freshMany : Nat → Int32)  (o : Int32 × Int32 × Int32 × Int32 × Int32 × Int32 × Int32 × Int32 × Int64 × Int32 × (Nat → Int64) × (Nat → Int32) × (Nat → Int32) × (Nat → Int32) × (Nat → Int64) × (Nat → Int32) × (Nat → Int64) × (Nat → Int32)) (ho : f_X8_tell t_typed t_at t_token t_start t_valMany t_waitMany t_open t_saying t_quarrel t_text t_said t_many t_grades t_doubts t_vals t_waits t_fresh t_freshMany = some o)  : Met l yX8_tell wsX8_tell ({ frames := 6, cells := 0, slots := 0, locals := 129 } : Room) (pcA G [.ref h_t] [(h_t, .inr (8, [.long t_trace, .ref h_t_text, .int t_typed, .ref h_t_said, .ref h_t_many, .long t_when, .long t_then, .ref h_t_grades, .ref h_t_doubts, .int t_at, .int t_token, .int t_start, .ref h_t_vals, .ref h_t_waits, .int t_valMany, .int t_waitMany, .int t_open, .long t_saying, .ref h_t_fresh, .ref h_t_freshMany, .int t_quarrel])), (h_t_text, .inl (G.2.1.2.1, 400, .inl t_text)), (h_t_said, .inl (G.2.1.2.2, 45, .inr (.inl t_said))), (h_t_many, .inl (G.2.1.2.1, 5, .inl t_many)), (h_t_grades, .inl (G.2.1.2.1, 9, .inl t_grades)), (h_t_doubts, .inl (G.2.1.2.1, 64, .inl t_doubts)), (h_t_vals, .inl (G.2.1.2.2, 410, .inr (.inl t_vals))), (h_t_waits, .inl (G.2.1.2.1, 410, .inl t_waits)), (h_t_fresh, .inl (G.2.1.2.2, 45, .inr (.inl t_fresh))), (h_t_freshMany, .inl (G.2.1.2.1, 5, .inl t_freshMany))] sz) (qcI Unit G o.1 (fun _ => True) (fun _ => [(h_t, .inr (8, [.long t_trace, .ref h_t_text, .int o.2.1, .ref h_t_said, .ref h_t_many, .long t_when, .long t_then, .ref h_t_grades, .ref h_t_doubts, .int o.2.2.1, .int o.2.2.2.1, .int o.2.2.2.2.1, .ref h_t_vals, .ref h_t_waits, .int o.2.2.2.2.2.1, .int o.2.2.2.2.2.2.1, .int o.2.2.2.2.2.2.2.1, .long o.2.2.2.2.2.2.2.2.1, .ref h_t_fresh, .ref h_t_freshMany, .int o.2.2.2.2.2.2.2.2.2.1])), (h_t_text, .inl (G.2.1.2.1, 400, .inl t_text)), (h_t_said, .inl (G.2.1.2.2, 45, .inr (.inl o.2.2.2.2.2.2.2.2.2.2.1))), (h_t_many, .inl (G.2.1.2.1, 5, .inl o.2.2.2.2.2.2.2.2.2.2.2.1)), (h_t_grades, .inl (G.2.1.2.1, 9, .inl o.2.2.2.2.2.2.2.2.2.2.2.2.1)), (h_t_doubts, .inl (G.2.1.2.1, 64, .inl o.2.2.2.2.2.2.2.2.2.2.2.2.2.1)), (h_t_vals, .inl (G.2.1.2.2, 410, .inr (.inl o.2.2.2.2.2.2.2.2.2.2.2.2.2.2.1))), (h_t_waits, .inl (G.2.1.2.1, 410, .inl o.2.2.2.2.2.2.2.2.2.2.2.2.2.2.2.1)), (h_t_fresh, .inl (G.2.1.2.2, 45, .inr (.inl o.2.2.2.2.2.2.2.2.2.2.2.2.2.2.2.2.1))), (h_t_freshMany, .inl (G.2.1.2.1, 5, .inl o.2.2.2.2.2.2.2.2.2.2.2.2.2.2.2.2.2))]) (va_A [(h_t, .inr (8, [.long t_trace, .ref h_t_text, .int t_typed, .ref h_t_said, .ref h_t_many, .long t_when, .long t_then, .ref h_t_grades, .ref h_t_doubts, .int t_at, .int t_token, .int t_start, .ref h_t_vals, .ref h_t_waits, .int t_valMany, .int t_waitMany, .int t_open, .long t_saying, .ref h_t_fresh, .ref h_t_freshMany, .int t_quarrel])), (h_t_text, .inl (G.2.1.2.1, 400, .inl t_text)), (h_t_said, .inl (G.2.1.2.2, 45, .inr (.inl t_said))), (h_t_many, .inl (G.2.1.2.1, 5, .inl t_many)), (h_t_grades, .inl (G.2.1.2.1, 9, .inl t_grades)), (h_t_doubts, .inl (G.2.1.2.1, 64, .inl t_doubts)), (h_t_vals, .inl (G.2.1.2.2, 410, .inr (.inl t_vals))), (h_t_waits, .inl (G.2.1.2.1, 410, .inl t_waits)), (h_t_fresh, .inl (G.2.1.2.2, 45, .inr (.inl t_fresh))), (h_t_freshMany, .inl (G.2.1.2.1, 5, .inl t_freshMany))] sz)) 0 0 (va_A [(h_t, .inr (8, [.long t_trace, .ref h_t_text, .int t_typed, .ref h_t_said, .ref h_t_many, .long t_when, .long t_then, .ref h_t_grades, .ref h_t_doubts, .int t_at, .int t_token, .int t_start, .ref h_t_vals, .ref h_t_waits, .int t_valMany, .int t_waitMany, .int t_open, .long t_saying, .ref h_t_fresh, .ref h_t_freshMany, .int t_quarrel])), (h_t_text, .inl (G.2.1.2.1, 400, .inl t_text)), (h_t_said, .inl (G.2.1.2.2, 45, .inr (.inl t_said))), (h_t_many, .inl (G.2.1.2.1, 5, .inl t_many)), (h_t_grades, .inl (G.2.1.2.1, 9, .inl t_grades)), (h_t_doubts, .inl (G.2.1.2.1, 64, .inl t_doubts)), (h_t_vals, .inl (G.2.1.2.2, 410, .inr (.inl t_vals))), (h_t_waits, .inl (G.2.1.2.1, 410, .inl t_waits)), (h_t_fresh, .inl (G.2.1.2.2, 45, .inr (.inl t_fresh))), (h_t_freshMany, .inl (G.2.1.2.1, 5, .inl t_freshMany))] sz) := by
  refine Met.ofW (cc := cX8_tell) (maxL := 3) (ret := (some .int)) (by decide) rfl ?_
  intro p e s m args below meth c s₁ B hml hv
  obtain ⟨rfl, hsz, hP, hg, hD0, hc⟩ := hv
  have hx := B.exec
  have hb := B.bytes
  have hr := B.returns
  have hts := atoms_spec (ws := wsX8_tell) B.pre
  have hown : s.vm.findClass RX8 = some m.cls := findClass_of_methodNamed B.named
  have hlocks := B.notSynchronized
  subst hsz
  have hD := hD0.self (sz := s.heap.size)
  generalize hAe : va_A [(h_t, .inr (8, [.long t_trace, .ref h_t_text, .int t_typed, .ref h_t_said, .ref h_t_many, .long t_when, .long t_then, .ref h_t_grades, .ref h_t_doubts, .int t_at, .int t_token, .int t_start, .ref h_t_vals, .ref h_t_waits, .int t_valMany, .int t_waitMany, .int t_open, .long t_saying, .ref h_t_fresh, .ref h_t_freshMany, .int t_quarrel])), (h_t_text, .inl (G.2.1.2.1, 400, .inl t_text)), (h_t_said, .inl (G.2.1.2.2, 45, .inr (.inl t_said))), (h_t_many, .inl (G.2.1.2.1, 5, .inl t_many)), (h_t_grades, .inl (G.2.1.2.1, 9, .inl t_grades)), (h_t_doubts, .inl (G.2.1.2.1, 64, .inl t_doubts)), (h_t_vals, .inl (G.2.1.2.2, 410, .inr (.inl t_vals))), (h_t_waits, .inl (G.2.1.2.1, 410, .inl t_waits)), (h_t_fresh, .inl (G.2.1.2.2, 45, .inr (.inl t_fresh))), (h_t_freshMany, .inl (G.2.1.2.1, 5, .inl t_freshMany))] s.heap.size = A at hD hc ⊢
  have hA : ∀ q : Nat, s.heap.size ≤ q → A q := fun q h => by rw [← hAe]; exact Or.inr h
  have hiX8 : ∀ w ∈ wsX80, w ∈ wsX8_tell := by decide +kernel
  have hl := lv_entry ([.ref h_t]) (n := 3) (Nat.le_of_ble_eq_true rfl)
  rw [lg_entry_eq]
  generalize (lg_sl ([.ref h_t]) ++ List.replicate (3 - (lg_sl ([.ref h_t])).length) Slot.unset).toArray = ls at hl ⊢
  have hl : lv_has ls 3 [(0, .ref h_t)] := hl
  have hf := ho
  have hw_110 : ∀ (t_typed : Int32) (t_at : Int32) (t_token : Int32) (t_start : Int32) (t_valMany : Int32) (t_waitMany : Int32) (t_open : Int32) (t_saying : Int64) (t_quarrel : Int32) (t_said : Nat → Int64) (t_many : Nat → Int32) (t_grades : Nat → Int32) (t_doubts : Nat → Int32) (t_vals : Nat → Int64) (t_waits : Nat → Int32) (t_fresh : Nat → Int64) (t_freshMany : Nat → Int32) (v1 : Int32), jn_X8_tell_110 t_text t_typed t_at t_token t_start t_valMany t_waitMany t_open t_saying t_quarrel t_said t_many t_grades t_doubts t_vals t_waits t_fresh t_freshMany v1 = some o → ∀ (H : Heap) (locs : List Loc), va_P G.1 vwCl [(h_t, .inr (8, [.long t_trace, .ref h_t_text, .int t_typed, .ref h_t_said, .ref h_t_many, .long t_when, .long t_then, .ref h_t_grades, .ref h_t_doubts, .int t_at, .int t_token, .int t_start, .ref h_t_vals, .ref h_t_waits, .int t_valMany, .int t_waitMany, .int t_open, .long t_saying, .ref h_t_fresh, .ref h_t_freshMany, .int t_quarrel])), (h_t_text, .inl (G.2.1.2.1, 400, .inl t_text)), (h_t_said, .inl (G.2.1.2.2, 45, .inr (.inl t_said))), (h_t_many, .inl (G.2.1.2.1, 5, .inl t_many)), (h_t_grades, .inl (G.2.1.2.1, 9, .inl t_grades)), (h_t_doubts, .inl (G.2.1.2.1, 64, .inl t_doubts)), (h_t_vals, .inl (G.2.1.2.2, 410, .inr (.inl t_vals))), (h_t_waits, .inl (G.2.1.2.1, 410, .inl t_waits)), (h_t_fresh, .inl (G.2.1.2.2, 45, .inr (.inl t_fresh))), (h_t_freshMany, .inl (G.2.1.2.1, 5, .inl t_freshMany))] H → va_D A [(h_t, .inr (8, [.long t_trace, .ref h_t_text, .int t_typed, .ref h_t_said, .ref h_t_many, .long t_when, .long t_then, .ref h_t_grades, .ref h_t_doubts, .int t_at, .int t_token, .int t_start, .ref h_t_vals, .ref h_t_waits, .int t_valMany, .int t_waitMany, .int t_open, .long t_saying, .ref h_t_fresh, .ref h_t_freshMany, .int t_quarrel])), (h_t_text, .inl (G.2.1.2.1, 400, .inl t_text)), (h_t_said, .inl (G.2.1.2.2, 45, .inr (.inl t_said))), (h_t_many, .inl (G.2.1.2.1, 5, .inl t_many)), (h_t_grades, .inl (G.2.1.2.1, 9, .inl t_grades)), (h_t_doubts, .inl (G.2.1.2.1, 64, .inl t_doubts)), (h_t_vals, .inl (G.2.1.2.2, 410, .inr (.inl t_vals))), (h_t_waits, .inl (G.2.1.2.1, 410, .inl t_waits)), (h_t_fresh, .inl (G.2.1.2.2, 45, .inr (.inl t_fresh))), (h_t_freshMany, .inl (G.2.1.2.1, 5, .inl t_freshMany))] → va_S A s.heap H locs → ∀ (ls : Array Slot), lv_has ls 3 [(0, .ref h_t), (1, .int v1)] → W p l e (headSpec wsX8_tell ({ frames := 6, cells := 0, slots := 0, locals := 129 } : Room)).room s m ([.ref h_t] : List Value).toArray below meth c H locs 0 0 (MQ below (qcI Unit G o.1 (fun _ => True) (fun _ => [(h_t, .inr (8, [.long t_trace, .ref h_t_text, .int o.2.1, .ref h_t_said, .ref h_t_many, .long t_when, .long t_then, .ref h_t_grades, .ref h_t_doubts, .int o.2.2.1, .int o.2.2.2.1, .int o.2.2.2.2.1, .ref h_t_vals, .ref h_t_waits, .int o.2.2.2.2.2.1, .int o.2.2.2.2.2.2.1, .int o.2.2.2.2.2.2.2.1, .long o.2.2.2.2.2.2.2.2.1, .ref h_t_fresh, .ref h_t_freshMany, .int o.2.2.2.2.2.2.2.2.2.1])), (h_t_text, .inl (G.2.1.2.1, 400, .inl t_text)), (h_t_said, .inl (G.2.1.2.2, 45, .inr (.inl o.2.2.2.2.2.2.2.2.2.2.1))), (h_t_many, .inl (G.2.1.2.1, 5, .inl o.2.2.2.2.2.2.2.2.2.2.2.1)), (h_t_grades, .inl (G.2.1.2.1, 9, .inl o.2.2.2.2.2.2.2.2.2.2.2.2.1)), (h_t_doubts, .inl (G.2.1.2.1, 64, .inl o.2.2.2.2.2.2.2.2.2.2.2.2.2.1)), (h_t_vals, .inl (G.2.1.2.2, 410, .inr (.inl o.2.2.2.2.2.2.2.2.2.2.2.2.2.2.1))), (h_t_waits, .inl (G.2.1.2.1, 410, .inl o.2.2.2.2.2.2.2.2.2.2.2.2.2.2.2.1)), (h_t_fresh, .inl (G.2.1.2.2, 45, .inr (.inl o.2.2.2.2.2.2.2.2.2.2.2.2.2.2.2.2.1))), (h_t_freshMany, .inl (G.2.1.2.1, 5, .inl o.2.2.2.2.2.2.2.2.2.2.2.2.2.2.2.2.2))]) A) ([.ref h_t] : List Value).toArray s 0 0 A) (F0 m 110 ls []) := by
    intro t_typed t_at t_token t_start t_valMany t_waitMany t_open t_saying t_quarrel t_said t_many t_grades t_doubts t_vals t_waits t_fresh t_freshMany v1 hf H locs hP hD hS ls hl
    unfold jn_X8_tell_110 at hf
    refine lv_aload_n hx hb dX8_tell_110 rfl (lv_at hl 0 rfl) ?_
    refine va_get (D := G.1) (ci := 8) (v := .ref h_t_many) (C := RX8) (T := TX8) (N := 21) hx hb hts hiX8 hown hg.1 hP 0 rfl rfl 4 (by decide) (hts (.fieldLink RX8 17 "AsARuleModel" "many" "[I") (by decide +kernel)) (fun _ h9 => h9) rfl dX8_tell_111 ?_
    refine lv_iconst (v := (2 : Int32)) hx hb dX8_tell_114 (by decide) ?_
    refine lv_aload_n hx hb dX8_tell_115 rfl (lv_at hl 0 rfl) ?_
    refine va_get (D := G.1) (ci := 8) (v := .ref h_t_many) (C := RX8) (T := TX8) (N := 21) hx hb hts hiX8 hown hg.1 hP 0 rfl rfl 4 (by decide) (hts (.fieldLink RX8 17 "AsARuleModel" "many" "[I") (by decide +kernel)) (fun _ h9 => h9) rfl dX8_tell_116 ?_
    refine lv_iconst (v := (1 : Int32)) hx hb dX8_tell_119 (by decide) ?_
    refine va_iald hx hb hg.1 hP 3 1 rfl rfl (ib_in (gd_t hf)) dX8_tell_120 ?_
    have hf := gd_x hf
    refine va_iast hx hb hg.1 hP hD hS 3 1 rfl rfl (ib_in (gd_t hf)) dX8_tell_121 (fun H locs hP hD hS => ?_)
    have hf := gd_x hf
    have hP : va_P G.1 vwCl [(h_t, .inr (8, [.long t_trace, .ref h_t_text, .int t_typed, .ref h_t_said, .ref h_t_many, .long t_when, .long t_then, .ref h_t_grades, .ref h_t_doubts, .int t_at, .int t_token, .int t_start, .ref h_t_vals, .ref h_t_waits, .int t_valMany, .int t_waitMany, .int t_open, .long t_saying, .ref h_t_fresh, .ref h_t_freshMany, .int t_quarrel])), (h_t_text, .inl (G.2.1.2.1, 400, .inl t_text)), (h_t_said, .inl (G.2.1.2.2, 45, .inr (.inl t_said))), (h_t_many, .inl (G.2.1.2.1, 5, .inl (upd t_many (2 : Int32).toNatClampNeg (t_many (1 : Int32).toNatClampNeg)))), (h_t_grades, .inl (G.2.1.2.1, 9, .inl t_grades)), (h_t_doubts, .inl (G.2.1.2.1, 64, .inl t_doubts)), (h_t_vals, .inl (G.2.1.2.2, 410, .inr (.inl t_vals))), (h_t_waits, .inl (G.2.1.2.1, 410, .inl t_waits)), (h_t_fresh, .inl (G.2.1.2.2, 45, .inr (.inl t_fresh))), (h_t_freshMany, .inl (G.2.1.2.1, 5, .inl t_freshMany))] H := hP
    have hD : va_D A [(h_t, .inr (8, [.long t_trace, .ref h_t_text, .int t_typed, .ref h_t_said, .ref h_t_many, .long t_when, .long t_then, .ref h_t_grades, .ref h_t_doubts, .int t_at, .int t_token, .int t_start, .ref h_t_vals, .ref h_t_waits, .int t_valMany, .int t_waitMany, .int t_open, .long t_saying, .ref h_t_fresh, .ref h_t_freshMany, .int t_quarrel])), (h_t_text, .inl (G.2.1.2.1, 400, .inl t_text)), (h_t_said, .inl (G.2.1.2.2, 45, .inr (.inl t_said))), (h_t_many, .inl (G.2.1.2.1, 5, .inl (upd t_many (2 : Int32).toNatClampNeg (t_many (1 : Int32).toNatClampNeg)))), (h_t_grades, .inl (G.2.1.2.1, 9, .inl t_grades)), (h_t_doubts, .inl (G.2.1.2.1, 64, .inl t_doubts)), (h_t_vals, .inl (G.2.1.2.2, 410, .inr (.inl t_vals))), (h_t_waits, .inl (G.2.1.2.1, 410, .inl t_waits)), (h_t_fresh, .inl (G.2.1.2.2, 45, .inr (.inl t_fresh))), (h_t_freshMany, .inl (G.2.1.2.1, 5, .inl t_freshMany))] := hD
    refine lv_aload_n hx hb dX8_tell_122 rfl (lv_at hl 0 rfl) ?_
    refine lv_iconst (v := (0 : Int32)) hx hb dX8_tell_123 (by decide) ?_
    refine va_put (D := G.1) (ci := 8) (v := .int (0 : Int32)) (ty := .int) (C := RX8) (T := TX8) (N := 21) hx hb hts hiX8 tyX8 tyX8_ok nmX8 hown hg.1 hP hD hS 0 rfl rfl 2 (by decide) (hts (.fieldLink RX8 59 "AsARuleModel" "typed" "I") (by decide +kernel)) (fun _ h9 => h9) rfl (by decide +kernel) rfl rfl (Nat.le_of_ble_eq_true rfl) dX8_tell_124 (fun H locs hP hD hS => ?_)
    have hP : va_P G.1 vwCl [(h_t, .inr (8, [.long t_trace, .ref h_t_text, .int (0 : Int32), .ref h_t_said, .ref h_t_many, .long t_when, .long t_then, .ref h_t_grades, .ref h_t_doubts, .int t_at, .int t_token, .int t_start, .ref h_t_vals, .ref h_t_waits, .int t_valMany, .int t_waitMany, .int t_open, .long t_saying, .ref h_t_fresh, .ref h_t_freshMany, .int t_quarrel])), (h_t_text, .inl (G.2.1.2.1, 400, .inl t_text)), (h_t_said, .inl (G.2.1.2.2, 45, .inr (.inl t_said))), (h_t_many, .inl (G.2.1.2.1, 5, .inl (upd t_many (2 : Int32).toNatClampNeg (t_many (1 : Int32).toNatClampNeg)))), (h_t_grades, .inl (G.2.1.2.1, 9, .inl t_grades)), (h_t_doubts, .inl (G.2.1.2.1, 64, .inl t_doubts)), (h_t_vals, .inl (G.2.1.2.2, 410, .inr (.inl t_vals))), (h_t_waits, .inl (G.2.1.2.1, 410, .inl t_waits)), (h_t_fresh, .inl (G.2.1.2.2, 45, .inr (.inl t_fresh))), (h_t_freshMany, .inl (G.2.1.2.1, 5, .inl t_freshMany))] H := hP
    have hD : va_D A [(h_t, .inr (8, [.long t_trace, .ref h_t_text, .int (0 : Int32), .ref h_t_said, .ref h_t_many, .long t_when, .long t_then, .ref h_t_grades, .ref h_t_doubts, .int t_at, .int t_token, .int t_start, .ref h_t_vals, .ref h_t_waits, .int t_valMany, .int t_waitMany, .int t_open, .long t_saying, .ref h_t_fresh, .ref h_t_freshMany, .int t_quarrel])), (h_t_text, .inl (G.2.1.2.1, 400, .inl t_text)), (h_t_said, .inl (G.2.1.2.2, 45, .inr (.inl t_said))), (h_t_many, .inl (G.2.1.2.1, 5, .inl (upd t_many (2 : Int32).toNatClampNeg (t_many (1 : Int32).toNatClampNeg)))), (h_t_grades, .inl (G.2.1.2.1, 9, .inl t_grades)), (h_t_doubts, .inl (G.2.1.2.1, 64, .inl t_doubts)), (h_t_vals, .inl (G.2.1.2.2, 410, .inr (.inl t_vals))), (h_t_waits, .inl (G.2.1.2.1, 410, .inl t_waits)), (h_t_fresh, .inl (G.2.1.2.2, 45, .inr (.inl t_fresh))), (h_t_freshMany, .inl (G.2.1.2.1, 5, .inl t_freshMany))] := hD
    refine lv_aload_n hx hb dX8_tell_127 rfl (lv_at hl 0 rfl) ?_
    obtain ⟨o1, ho1, hf⟩ := bd_e hf
    refine af_v (wr := [(h_t_text, .inl (G.2.1.2.1, 400, .inl t_text)), (h_t_doubts, .inl (G.2.1.2.1, 64, .inl t_doubts)), (h_t_vals, .inl (G.2.1.2.2, 410, .inr (.inl t_vals))), (h_t_waits, .inl (G.2.1.2.1, 410, .inl t_waits)), (h_t_fresh, .inl (G.2.1.2.2, 45, .inr (.inl t_fresh))), (h_t_freshMany, .inl (G.2.1.2.1, 5, .inl t_freshMany))]) (va_runV (As := []) (rest := []) ⟨hx, hb, hml, hown, hts⟩ (c_X8_rates l G h_t h_t_text h_t_said h_t_many h_t_grades h_t_doubts h_t_vals h_t_waits h_t_fresh h_t_freshMany H.size t_trace (0 : Int32) t_when t_then t_at t_token t_start t_valMany t_waitMany t_open t_saying t_quarrel t_said (upd t_many (2 : Int32).toNatClampNeg (t_many (1 : Int32).toNatClampNeg)) t_grades o1 ho1) (cwV 0 hts gX8_tell_X8_rates rfl rfl rfl (by decide +kernel) ⟨Nat.le_of_ble_eq_true rfl, Nat.le_of_ble_eq_true rfl⟩) (pcA_preV hg hc hP hD hS hA [0, 2, 3, 4] rfl (by decide) (q0 := 0) (ci := 8) rfl rfl rfl) rfl rfl hl.1 rfl (lv_room (Nat.le_of_ble_eq_true rfl)) dX8_tell_128 ⟨Nat.zero_le _, Nat.zero_le _⟩) hP hD hS hA [0, 2, 3, 4] [1, 5, 6, 7, 8, 9] rfl rfl (by decide) (by decide) (fun _ H locs _ hP hD hS => ?_)
    have hP : va_P G.1 vwCl [(h_t, .inr (8, [.long t_trace, .ref h_t_text, .int (0 : Int32), .ref h_t_said, .ref h_t_many, .long t_when, .long t_then, .ref h_t_grades, .ref h_t_doubts, .int t_at, .int t_token, .int t_start, .ref h_t_vals, .ref h_t_waits, .int t_valMany, .int t_waitMany, .int t_open, .long t_saying, .ref h_t_fresh, .ref h_t_freshMany, .int o1.1])), (h_t_text, .inl (G.2.1.2.1, 400, .inl t_text)), (h_t_said, .inl (G.2.1.2.2, 45, .inr (.inl t_said))), (h_t_many, .inl (G.2.1.2.1, 5, .inl (upd t_many (2 : Int32).toNatClampNeg (t_many (1 : Int32).toNatClampNeg)))), (h_t_grades, .inl (G.2.1.2.1, 9, .inl o1.2)), (h_t_doubts, .inl (G.2.1.2.1, 64, .inl t_doubts)), (h_t_vals, .inl (G.2.1.2.2, 410, .inr (.inl t_vals))), (h_t_waits, .inl (G.2.1.2.1, 410, .inl t_waits)), (h_t_fresh, .inl (G.2.1.2.2, 45, .inr (.inl t_fresh))), (h_t_freshMany, .inl (G.2.1.2.1, 5, .inl t_freshMany))] H := hP.sub [6, 0, 7, 8, 9, 1, 2, 3, 4, 5] rfl
    have hD : va_D A [(h_t, .inr (8, [.long t_trace, .ref h_t_text, .int (0 : Int32), .ref h_t_said, .ref h_t_many, .long t_when, .long t_then, .ref h_t_grades, .ref h_t_doubts, .int t_at, .int t_token, .int t_start, .ref h_t_vals, .ref h_t_waits, .int t_valMany, .int t_waitMany, .int t_open, .long t_saying, .ref h_t_fresh, .ref h_t_freshMany, .int o1.1])), (h_t_text, .inl (G.2.1.2.1, 400, .inl t_text)), (h_t_said, .inl (G.2.1.2.2, 45, .inr (.inl t_said))), (h_t_many, .inl (G.2.1.2.1, 5, .inl (upd t_many (2 : Int32).toNatClampNeg (t_many (1 : Int32).toNatClampNeg)))), (h_t_grades, .inl (G.2.1.2.1, 9, .inl o1.2)), (h_t_doubts, .inl (G.2.1.2.1, 64, .inl t_doubts)), (h_t_vals, .inl (G.2.1.2.2, 410, .inr (.inl t_vals))), (h_t_waits, .inl (G.2.1.2.1, 410, .inl t_waits)), (h_t_fresh, .inl (G.2.1.2.2, 45, .inr (.inl t_fresh))), (h_t_freshMany, .inl (G.2.1.2.1, 5, .inl t_freshMany))] := hD.sub [6, 0, 7, 8, 9, 1, 2, 3, 4, 5] (by decide) rfl
    refine lv_aload_n hx hb dX8_tell_131 rfl (lv_at hl 0 rfl) ?_
    obtain ⟨o2, ho2, hf⟩ := bd_e hf
    refine af_v (wr := [(h_t_text, .inl (G.2.1.2.1, 400, .inl t_text)), (h_t_vals, .inl (G.2.1.2.2, 410, .inr (.inl t_vals))), (h_t_waits, .inl (G.2.1.2.1, 410, .inl t_waits)), (h_t_fresh, .inl (G.2.1.2.2, 45, .inr (.inl t_fresh))), (h_t_freshMany, .inl (G.2.1.2.1, 5, .inl t_freshMany))]) (va_runV (As := []) (rest := []) ⟨hx, hb, hml, hown, hts⟩ (c_X8_forgets l G h_t h_t_text h_t_said h_t_many h_t_grades h_t_doubts h_t_vals h_t_waits h_t_fresh h_t_freshMany H.size t_trace (0 : Int32) t_when t_then t_at t_token t_start t_valMany t_waitMany t_open t_saying o1.1 t_said (upd t_many (2 : Int32).toNatClampNeg (t_many (1 : Int32).toNatClampNeg)) o1.2 t_doubts o2 ho2) (cwV 0 hts gX8_tell_X8_forgets rfl rfl rfl (by decide +kernel) ⟨Nat.le_of_ble_eq_true rfl, Nat.le_of_ble_eq_true rfl⟩) (pcA_preV hg hc hP hD hS hA [0, 2, 3, 4, 5] rfl (by decide) (q0 := 0) (ci := 8) rfl rfl rfl) rfl rfl hl.1 rfl (lv_room (Nat.le_of_ble_eq_true rfl)) dX8_tell_132 ⟨Nat.zero_le _, Nat.zero_le _⟩) hP hD hS hA [0, 2, 3, 4, 5] [1, 6, 7, 8, 9] rfl rfl (by decide) (by decide) (fun _ H locs _ hP hD hS => ?_)
    have hP : va_P G.1 vwCl [(h_t, .inr (8, [.long t_trace, .ref h_t_text, .int (0 : Int32), .ref h_t_said, .ref h_t_many, .long t_when, .long t_then, .ref h_t_grades, .ref h_t_doubts, .int t_at, .int t_token, .int t_start, .ref h_t_vals, .ref h_t_waits, .int t_valMany, .int t_waitMany, .int t_open, .long t_saying, .ref h_t_fresh, .ref h_t_freshMany, .int o1.1])), (h_t_text, .inl (G.2.1.2.1, 400, .inl t_text)), (h_t_said, .inl (G.2.1.2.2, 45, .inr (.inl t_said))), (h_t_many, .inl (G.2.1.2.1, 5, .inl (upd t_many (2 : Int32).toNatClampNeg (t_many (1 : Int32).toNatClampNeg)))), (h_t_grades, .inl (G.2.1.2.1, 9, .inl o1.2)), (h_t_doubts, .inl (G.2.1.2.1, 64, .inl o2)), (h_t_vals, .inl (G.2.1.2.2, 410, .inr (.inl t_vals))), (h_t_waits, .inl (G.2.1.2.1, 410, .inl t_waits)), (h_t_fresh, .inl (G.2.1.2.2, 45, .inr (.inl t_fresh))), (h_t_freshMany, .inl (G.2.1.2.1, 5, .inl t_freshMany))] H := hP.sub [5, 0, 6, 7, 8, 9, 1, 2, 3, 4] rfl
    have hD : va_D A [(h_t, .inr (8, [.long t_trace, .ref h_t_text, .int (0 : Int32), .ref h_t_said, .ref h_t_many, .long t_when, .long t_then, .ref h_t_grades, .ref h_t_doubts, .int t_at, .int t_token, .int t_start, .ref h_t_vals, .ref h_t_waits, .int t_valMany, .int t_waitMany, .int t_open, .long t_saying, .ref h_t_fresh, .ref h_t_freshMany, .int o1.1])), (h_t_text, .inl (G.2.1.2.1, 400, .inl t_text)), (h_t_said, .inl (G.2.1.2.2, 45, .inr (.inl t_said))), (h_t_many, .inl (G.2.1.2.1, 5, .inl (upd t_many (2 : Int32).toNatClampNeg (t_many (1 : Int32).toNatClampNeg)))), (h_t_grades, .inl (G.2.1.2.1, 9, .inl o1.2)), (h_t_doubts, .inl (G.2.1.2.1, 64, .inl o2)), (h_t_vals, .inl (G.2.1.2.2, 410, .inr (.inl t_vals))), (h_t_waits, .inl (G.2.1.2.1, 410, .inl t_waits)), (h_t_fresh, .inl (G.2.1.2.2, 45, .inr (.inl t_fresh))), (h_t_freshMany, .inl (G.2.1.2.1, 5, .inl t_freshMany))] := hD.sub [5, 0, 6, 7, 8, 9, 1, 2, 3, 4] (by decide) rfl
    refine lv_iload_n hx hb dX8_tell_135 rfl (lv_at hl 1 rfl) ?_
    rw [← Option.some.inj hf]
    exact rt_i (u := ()) hx hb hr hlocks hP hD trivial hS dX8_tell_136
  have hw_87 : ∀ (t_typed : Int32) (t_at : Int32) (t_token : Int32) (t_start : Int32) (t_valMany : Int32) (t_waitMany : Int32) (t_open : Int32) (t_saying : Int64) (t_quarrel : Int32) (t_said : Nat → Int64) (t_grades : Nat → Int32) (t_doubts : Nat → Int32) (t_vals : Nat → Int64) (t_waits : Nat → Int32) (t_fresh : Nat → Int64) (t_freshMany : Nat → Int32) (v1 : Int32) (n : Nat) (t_many : Nat → Int32) (v2 : Int32), lp_X8_tell_87 t_text t_typed t_at t_token t_start t_valMany t_waitMany t_open t_saying t_quarrel t_said t_grades t_doubts t_vals t_waits t_fresh t_freshMany v1 n t_many v2 = some o → ∀ (H : Heap) (locs : List Loc), va_P G.1 vwCl [(h_t, .inr (8, [.long t_trace, .ref h_t_text, .int t_typed, .ref h_t_said, .ref h_t_many, .long t_when, .long t_then, .ref h_t_grades, .ref h_t_doubts, .int t_at, .int t_token, .int t_start, .ref h_t_vals, .ref h_t_waits, .int t_valMany, .int t_waitMany, .int t_open, .long t_saying, .ref h_t_fresh, .ref h_t_freshMany, .int t_quarrel])), (h_t_text, .inl (G.2.1.2.1, 400, .inl t_text)), (h_t_said, .inl (G.2.1.2.2, 45, .inr (.inl t_said))), (h_t_many, .inl (G.2.1.2.1, 5, .inl t_many)), (h_t_grades, .inl (G.2.1.2.1, 9, .inl t_grades)), (h_t_doubts, .inl (G.2.1.2.1, 64, .inl t_doubts)), (h_t_vals, .inl (G.2.1.2.2, 410, .inr (.inl t_vals))), (h_t_waits, .inl (G.2.1.2.1, 410, .inl t_waits)), (h_t_fresh, .inl (G.2.1.2.2, 45, .inr (.inl t_fresh))), (h_t_freshMany, .inl (G.2.1.2.1, 5, .inl t_freshMany))] H → va_D A [(h_t, .inr (8, [.long t_trace, .ref h_t_text, .int t_typed, .ref h_t_said, .ref h_t_many, .long t_when, .long t_then, .ref h_t_grades, .ref h_t_doubts, .int t_at, .int t_token, .int t_start, .ref h_t_vals, .ref h_t_waits, .int t_valMany, .int t_waitMany, .int t_open, .long t_saying, .ref h_t_fresh, .ref h_t_freshMany, .int t_quarrel])), (h_t_text, .inl (G.2.1.2.1, 400, .inl t_text)), (h_t_said, .inl (G.2.1.2.2, 45, .inr (.inl t_said))), (h_t_many, .inl (G.2.1.2.1, 5, .inl t_many)), (h_t_grades, .inl (G.2.1.2.1, 9, .inl t_grades)), (h_t_doubts, .inl (G.2.1.2.1, 64, .inl t_doubts)), (h_t_vals, .inl (G.2.1.2.2, 410, .inr (.inl t_vals))), (h_t_waits, .inl (G.2.1.2.1, 410, .inl t_waits)), (h_t_fresh, .inl (G.2.1.2.2, 45, .inr (.inl t_fresh))), (h_t_freshMany, .inl (G.2.1.2.1, 5, .inl t_freshMany))] → va_S A s.heap H locs → ∀ (ls : Array Slot), lv_has ls 3 [(0, .ref h_t), (1, .int v1), (2, .int v2)] → W p l e (headSpec wsX8_tell ({ frames := 6, cells := 0, slots := 0, locals := 129 } : Room)).room s m ([.ref h_t] : List Value).toArray below meth c H locs 0 0 (MQ below (qcI Unit G o.1 (fun _ => True) (fun _ => [(h_t, .inr (8, [.long t_trace, .ref h_t_text, .int o.2.1, .ref h_t_said, .ref h_t_many, .long t_when, .long t_then, .ref h_t_grades, .ref h_t_doubts, .int o.2.2.1, .int o.2.2.2.1, .int o.2.2.2.2.1, .ref h_t_vals, .ref h_t_waits, .int o.2.2.2.2.2.1, .int o.2.2.2.2.2.2.1, .int o.2.2.2.2.2.2.2.1, .long o.2.2.2.2.2.2.2.2.1, .ref h_t_fresh, .ref h_t_freshMany, .int o.2.2.2.2.2.2.2.2.2.1])), (h_t_text, .inl (G.2.1.2.1, 400, .inl t_text)), (h_t_said, .inl (G.2.1.2.2, 45, .inr (.inl o.2.2.2.2.2.2.2.2.2.2.1))), (h_t_many, .inl (G.2.1.2.1, 5, .inl o.2.2.2.2.2.2.2.2.2.2.2.1)), (h_t_grades, .inl (G.2.1.2.1, 9, .inl o.2.2.2.2.2.2.2.2.2.2.2.2.1)), (h_t_doubts, .inl (G.2.1.2.1, 64, .inl o.2.2.2.2.2.2.2.2.2.2.2.2.2.1)), (h_t_vals, .inl (G.2.1.2.2, 410, .inr (.inl o.2.2.2.2.2.2.2.2.2.2.2.2.2.2.1))), (h_t_waits, .inl (G.2.1.2.1, 410, .inl o.2.2.2.2.2.2.2.2.2.2.2.2.2.2.2.1)), (h_t_fresh, .inl (G.2.1.2.2, 45, .inr (.inl o.2.2.2.2.2.2.2.2.2.2.2.2.2.2.2.2.1))), (h_t_freshMany, .inl (G.2.1.2.1, 5, .inl o.2.2.2.2.2.2.2.2.2.2.2.2.2.2.2.2.2))]) A) ([.ref h_t] : List Value).toArray s 0 0 A) (F0 m 87 ls []) := by
    intro t_typed t_at t_token t_start t_valMany t_waitMany t_open t_saying t_quarrel t_said t_grades t_doubts t_vals t_waits t_fresh t_freshMany v1
    intro n
    induction n with
    | zero =>
      intro t_many v2 hf
      exact absurd hf (by rw [lp_X8_tell_87]; intro h; cases h)
    | succ n ih =>
      intro t_many v2 hf H locs hP hD hS ls hl
      rw [lp_X8_tell_87] at hf
      refine lv_iload_n hx hb dX8_tell_87 rfl (lv_at hl 2 rfl) ?_
      refine lv_iconst (v := (5 : Int32)) hx hb dX8_tell_88 (by decide) ?_
      refine lv_icmp_ge (tgt := 110) hx hb dX8_tell_89 (by decide) (fun c3 => ?_) (fun c3 => ?_)
      · have hf := it_t c3 hf
        exact hw_110 t_typed t_at t_token t_start t_valMany t_waitMany t_open t_saying t_quarrel t_said t_many t_grades t_doubts t_vals t_waits t_fresh t_freshMany v1 hf _ _ hP hD hS _ (lv_sub hl [0, 1] rfl)
      · have hf := it_f c3 hf
        refine lv_aload_n hx hb dX8_tell_92 rfl (lv_at hl 0 rfl) ?_
        refine va_get (D := G.1) (ci := 8) (v := .ref h_t_many) (C := RX8) (T := TX8) (N := 21) hx hb hts hiX8 hown hg.1 hP 0 rfl rfl 4 (by decide) (hts (.fieldLink RX8 17 "AsARuleModel" "many" "[I") (by decide +kernel)) (fun _ h9 => h9) rfl dX8_tell_93 ?_
        refine lv_iload_n hx hb dX8_tell_96 rfl (lv_at hl 2 rfl) ?_
        refine lv_aload_n hx hb dX8_tell_97 rfl (lv_at hl 0 rfl) ?_
        refine va_get (D := G.1) (ci := 8) (v := .ref h_t_freshMany) (C := RX8) (T := TX8) (N := 21) hx hb hts hiX8 hown hg.1 hP 0 rfl rfl 19 (by decide) (hts (.fieldLink RX8 35 "AsARuleModel" "freshMany" "[I") (by decide +kernel)) (fun _ h9 => h9) rfl dX8_tell_98 ?_
        refine lv_iload_n hx hb dX8_tell_101 rfl (lv_at hl 2 rfl) ?_
        refine va_iald hx hb hg.1 hP 9 1 rfl rfl (ib_in (gd_t hf)) dX8_tell_102 ?_
        have hf := gd_x hf
        refine va_iast hx hb hg.1 hP hD hS 3 1 rfl rfl (ib_in (gd_t hf)) dX8_tell_103 (fun H locs hP hD hS => ?_)
        have hf := gd_x hf
        have hP : va_P G.1 vwCl [(h_t, .inr (8, [.long t_trace, .ref h_t_text, .int t_typed, .ref h_t_said, .ref h_t_many, .long t_when, .long t_then, .ref h_t_grades, .ref h_t_doubts, .int t_at, .int t_token, .int t_start, .ref h_t_vals, .ref h_t_waits, .int t_valMany, .int t_waitMany, .int t_open, .long t_saying, .ref h_t_fresh, .ref h_t_freshMany, .int t_quarrel])), (h_t_text, .inl (G.2.1.2.1, 400, .inl t_text)), (h_t_said, .inl (G.2.1.2.2, 45, .inr (.inl t_said))), (h_t_many, .inl (G.2.1.2.1, 5, .inl (upd t_many v2.toNatClampNeg (t_freshMany v2.toNatClampNeg)))), (h_t_grades, .inl (G.2.1.2.1, 9, .inl t_grades)), (h_t_doubts, .inl (G.2.1.2.1, 64, .inl t_doubts)), (h_t_vals, .inl (G.2.1.2.2, 410, .inr (.inl t_vals))), (h_t_waits, .inl (G.2.1.2.1, 410, .inl t_waits)), (h_t_fresh, .inl (G.2.1.2.2, 45, .inr (.inl t_fresh))), (h_t_freshMany, .inl (G.2.1.2.1, 5, .inl t_freshMany))] H := hP
        have hD : va_D A [(h_t, .inr (8, [.long t_trace, .ref h_t_text, .int t_typed, .ref h_t_said, .ref h_t_many, .long t_when, .long t_then, .ref h_t_grades, .ref h_t_doubts, .int t_at, .int t_token, .int t_start, .ref h_t_vals, .ref h_t_waits, .int t_valMany, .int t_waitMany, .int t_open, .long t_saying, .ref h_t_fresh, .ref h_t_freshMany, .int t_quarrel])), (h_t_text, .inl (G.2.1.2.1, 400, .inl t_text)), (h_t_said, .inl (G.2.1.2.2, 45, .inr (.inl t_said))), (h_t_many, .inl (G.2.1.2.1, 5, .inl (upd t_many v2.toNatClampNeg (t_freshMany v2.toNatClampNeg)))), (h_t_grades, .inl (G.2.1.2.1, 9, .inl t_grades)), (h_t_doubts, .inl (G.2.1.2.1, 64, .inl t_doubts)), (h_t_vals, .inl (G.2.1.2.2, 410, .inr (.inl t_vals))), (h_t_waits, .inl (G.2.1.2.1, 410, .inl t_waits)), (h_t_fresh, .inl (G.2.1.2.2, 45, .inr (.inl t_fresh))), (h_t_freshMany, .inl (G.2.1.2.1, 5, .inl t_freshMany))] := hD
        obtain ⟨x4, ex4⟩ : ∃ y : Int32, y = (v2 + (1 : Int32)) := ⟨_, rfl⟩
        have hf := lt_n hf x4 ex4
        refine lv_iinc (v := x4) (lv' := [(2, .int x4), (0, .ref h_t), (1, .int v1)]) hx hb dX8_tell_104 hl (k := 2) rfl (by rw [ex4]; rfl) (by decide) rfl (fun ls hl => ?_)
        refine lv_goto (tgt := 87) hx hb dX8_tell_107 (by decide) ?_
        exact ih (upd t_many v2.toNatClampNeg (t_freshMany v2.toNatClampNeg)) x4 hf _ _ hP hD hS _ (lv_sub hl [1, 2, 0] rfl)
  have hw_61 : ∀ (t_typed : Int32) (t_at : Int32) (t_token : Int32) (t_start : Int32) (t_valMany : Int32) (t_waitMany : Int32) (t_open : Int32) (t_saying : Int64) (t_quarrel : Int32) (t_many : Nat → Int32) (t_grades : Nat → Int32) (t_doubts : Nat → Int32) (t_vals : Nat → Int64) (t_waits : Nat → Int32) (t_fresh : Nat → Int64) (t_freshMany : Nat → Int32) (v1 : Int32) (n : Nat) (t_said : Nat → Int64) (v2 : Int32), lp_X8_tell_61 t_text t_typed t_at t_token t_start t_valMany t_waitMany t_open t_saying t_quarrel t_many t_grades t_doubts t_vals t_waits t_fresh t_freshMany v1 n t_said v2 = some o → ∀ (H : Heap) (locs : List Loc), va_P G.1 vwCl [(h_t, .inr (8, [.long t_trace, .ref h_t_text, .int t_typed, .ref h_t_said, .ref h_t_many, .long t_when, .long t_then, .ref h_t_grades, .ref h_t_doubts, .int t_at, .int t_token, .int t_start, .ref h_t_vals, .ref h_t_waits, .int t_valMany, .int t_waitMany, .int t_open, .long t_saying, .ref h_t_fresh, .ref h_t_freshMany, .int t_quarrel])), (h_t_text, .inl (G.2.1.2.1, 400, .inl t_text)), (h_t_said, .inl (G.2.1.2.2, 45, .inr (.inl t_said))), (h_t_many, .inl (G.2.1.2.1, 5, .inl t_many)), (h_t_grades, .inl (G.2.1.2.1, 9, .inl t_grades)), (h_t_doubts, .inl (G.2.1.2.1, 64, .inl t_doubts)), (h_t_vals, .inl (G.2.1.2.2, 410, .inr (.inl t_vals))), (h_t_waits, .inl (G.2.1.2.1, 410, .inl t_waits)), (h_t_fresh, .inl (G.2.1.2.2, 45, .inr (.inl t_fresh))), (h_t_freshMany, .inl (G.2.1.2.1, 5, .inl t_freshMany))] H → va_D A [(h_t, .inr (8, [.long t_trace, .ref h_t_text, .int t_typed, .ref h_t_said, .ref h_t_many, .long t_when, .long t_then, .ref h_t_grades, .ref h_t_doubts, .int t_at, .int t_token, .int t_start, .ref h_t_vals, .ref h_t_waits, .int t_valMany, .int t_waitMany, .int t_open, .long t_saying, .ref h_t_fresh, .ref h_t_freshMany, .int t_quarrel])), (h_t_text, .inl (G.2.1.2.1, 400, .inl t_text)), (h_t_said, .inl (G.2.1.2.2, 45, .inr (.inl t_said))), (h_t_many, .inl (G.2.1.2.1, 5, .inl t_many)), (h_t_grades, .inl (G.2.1.2.1, 9, .inl t_grades)), (h_t_doubts, .inl (G.2.1.2.1, 64, .inl t_doubts)), (h_t_vals, .inl (G.2.1.2.2, 410, .inr (.inl t_vals))), (h_t_waits, .inl (G.2.1.2.1, 410, .inl t_waits)), (h_t_fresh, .inl (G.2.1.2.2, 45, .inr (.inl t_fresh))), (h_t_freshMany, .inl (G.2.1.2.1, 5, .inl t_freshMany))] → va_S A s.heap H locs → ∀ (ls : Array Slot), lv_has ls 3 [(0, .ref h_t), (1, .int v1), (2, .int v2)] → W p l e (headSpec wsX8_tell ({ frames := 6, cells := 0, slots := 0, locals := 129 } : Room)).room s m ([.ref h_t] : List Value).toArray below meth c H locs 0 0 (MQ below (qcI Unit G o.1 (fun _ => True) (fun _ => [(h_t, .inr (8, [.long t_trace, .ref h_t_text, .int o.2.1, .ref h_t_said, .ref h_t_many, .long t_when, .long t_then, .ref h_t_grades, .ref h_t_doubts, .int o.2.2.1, .int o.2.2.2.1, .int o.2.2.2.2.1, .ref h_t_vals, .ref h_t_waits, .int o.2.2.2.2.2.1, .int o.2.2.2.2.2.2.1, .int o.2.2.2.2.2.2.2.1, .long o.2.2.2.2.2.2.2.2.1, .ref h_t_fresh, .ref h_t_freshMany, .int o.2.2.2.2.2.2.2.2.2.1])), (h_t_text, .inl (G.2.1.2.1, 400, .inl t_text)), (h_t_said, .inl (G.2.1.2.2, 45, .inr (.inl o.2.2.2.2.2.2.2.2.2.2.1))), (h_t_many, .inl (G.2.1.2.1, 5, .inl o.2.2.2.2.2.2.2.2.2.2.2.1)), (h_t_grades, .inl (G.2.1.2.1, 9, .inl o.2.2.2.2.2.2.2.2.2.2.2.2.1)), (h_t_doubts, .inl (G.2.1.2.1, 64, .inl o.2.2.2.2.2.2.2.2.2.2.2.2.2.1)), (h_t_vals, .inl (G.2.1.2.2, 410, .inr (.inl o.2.2.2.2.2.2.2.2.2.2.2.2.2.2.1))), (h_t_waits, .inl (G.2.1.2.1, 410, .inl o.2.2.2.2.2.2.2.2.2.2.2.2.2.2.2.1)), (h_t_fresh, .inl (G.2.1.2.2, 45, .inr (.inl o.2.2.2.2.2.2.2.2.2.2.2.2.2.2.2.2.1))), (h_t_freshMany, .inl (G.2.1.2.1, 5, .inl o.2.2.2.2.2.2.2.2.2.2.2.2.2.2.2.2.2))]) A) ([.ref h_t] : List Value).toArray s 0 0 A) (F0 m 61 ls []) := by
    intro t_typed t_at t_token t_start t_valMany t_waitMany t_open t_saying t_quarrel t_many t_grades t_doubts t_vals t_waits t_fresh t_freshMany v1
    intro n
    induction n with
    | zero =>
      intro t_said v2 hf
      exact absurd hf (by rw [lp_X8_tell_61]; intro h; cases h)
    | succ n ih =>
      intro t_said v2 hf H locs hP hD hS ls hl
      rw [lp_X8_tell_61] at hf
      refine lv_iload_n hx hb dX8_tell_61 rfl (lv_at hl 2 rfl) ?_
      refine lv_bipush (v := (45 : Int32)) hx hb dX8_tell_62 (by decide) ?_
      refine lv_icmp_ge (tgt := 85) hx hb dX8_tell_64 (by decide) (fun c5 => ?_) (fun c5 => ?_)
      · have hf := it_t c5 hf
        refine lv_iconst (v := (0 : Int32)) hx hb dX8_tell_85 (by decide) ?_
        refine lv_istore_n (lv' := [(2, .int (0 : Int32)), (0, .ref h_t), (1, .int v1)]) hx hb dX8_tell_86 rfl hl (by decide) rfl (fun ls hl => ?_)
        exact hw_87 t_typed t_at t_token t_start t_valMany t_waitMany t_open t_saying t_quarrel t_said t_grades t_doubts t_vals t_waits t_fresh t_freshMany v1 fu t_many (0 : Int32) hf _ _ hP hD hS _ (lv_sub hl [1, 2, 0] rfl)
      · have hf := it_f c5 hf
        refine lv_aload_n hx hb dX8_tell_67 rfl (lv_at hl 0 rfl) ?_
        refine va_get (D := G.1) (ci := 8) (v := .ref h_t_said) (C := RX8) (T := TX8) (N := 21) hx hb hts hiX8 hown hg.1 hP 0 rfl rfl 3 (by decide) (hts (.fieldLink RX8 13 "AsARuleModel" "said" "[J") (by decide +kernel)) (fun _ h9 => h9) rfl dX8_tell_68 ?_
        refine lv_iload_n hx hb dX8_tell_71 rfl (lv_at hl 2 rfl) ?_
        refine lv_aload_n hx hb dX8_tell_72 rfl (lv_at hl 0 rfl) ?_
        refine va_get (D := G.1) (ci := 8) (v := .ref h_t_fresh) (C := RX8) (T := TX8) (N := 21) hx hb hts hiX8 hown hg.1 hP 0 rfl rfl 18 (by decide) (hts (.fieldLink RX8 32 "AsARuleModel" "fresh" "[J") (by decide +kernel)) (fun _ h9 => h9) rfl dX8_tell_73 ?_
        refine lv_iload_n hx hb dX8_tell_76 rfl (lv_at hl 2 rfl) ?_
        refine va_lald hx hb hg.1 hP 8 2 rfl rfl (ib_in (gd_t hf)) dX8_tell_77 ?_
        have hf := gd_x hf
        refine va_last hx hb hg.1 hP hD hS 2 2 rfl rfl (ib_in (gd_t hf)) dX8_tell_78 (fun H locs hP hD hS => ?_)
        have hf := gd_x hf
        have hP : va_P G.1 vwCl [(h_t, .inr (8, [.long t_trace, .ref h_t_text, .int t_typed, .ref h_t_said, .ref h_t_many, .long t_when, .long t_then, .ref h_t_grades, .ref h_t_doubts, .int t_at, .int t_token, .int t_start, .ref h_t_vals, .ref h_t_waits, .int t_valMany, .int t_waitMany, .int t_open, .long t_saying, .ref h_t_fresh, .ref h_t_freshMany, .int t_quarrel])), (h_t_text, .inl (G.2.1.2.1, 400, .inl t_text)), (h_t_said, .inl (G.2.1.2.2, 45, .inr (.inl (vp_updL t_said v2.toNatClampNeg (t_fresh v2.toNatClampNeg))))), (h_t_many, .inl (G.2.1.2.1, 5, .inl t_many)), (h_t_grades, .inl (G.2.1.2.1, 9, .inl t_grades)), (h_t_doubts, .inl (G.2.1.2.1, 64, .inl t_doubts)), (h_t_vals, .inl (G.2.1.2.2, 410, .inr (.inl t_vals))), (h_t_waits, .inl (G.2.1.2.1, 410, .inl t_waits)), (h_t_fresh, .inl (G.2.1.2.2, 45, .inr (.inl t_fresh))), (h_t_freshMany, .inl (G.2.1.2.1, 5, .inl t_freshMany))] H := hP
        have hD : va_D A [(h_t, .inr (8, [.long t_trace, .ref h_t_text, .int t_typed, .ref h_t_said, .ref h_t_many, .long t_when, .long t_then, .ref h_t_grades, .ref h_t_doubts, .int t_at, .int t_token, .int t_start, .ref h_t_vals, .ref h_t_waits, .int t_valMany, .int t_waitMany, .int t_open, .long t_saying, .ref h_t_fresh, .ref h_t_freshMany, .int t_quarrel])), (h_t_text, .inl (G.2.1.2.1, 400, .inl t_text)), (h_t_said, .inl (G.2.1.2.2, 45, .inr (.inl (vp_updL t_said v2.toNatClampNeg (t_fresh v2.toNatClampNeg))))), (h_t_many, .inl (G.2.1.2.1, 5, .inl t_many)), (h_t_grades, .inl (G.2.1.2.1, 9, .inl t_grades)), (h_t_doubts, .inl (G.2.1.2.1, 64, .inl t_doubts)), (h_t_vals, .inl (G.2.1.2.2, 410, .inr (.inl t_vals))), (h_t_waits, .inl (G.2.1.2.1, 410, .inl t_waits)), (h_t_fresh, .inl (G.2.1.2.2, 45, .inr (.inl t_fresh))), (h_t_freshMany, .inl (G.2.1.2.1, 5, .inl t_freshMany))] := hD
        obtain ⟨x6, ex6⟩ : ∃ y : Int32, y = (v2 + (1 : Int32)) := ⟨_, rfl⟩
        have hf := lt_n hf x6 ex6
        refine lv_iinc (v := x6) (lv' := [(2, .int x6), (0, .ref h_t), (1, .int v1)]) hx hb dX8_tell_79 hl (k := 2) rfl (by rw [ex6]; rfl) (by decide) rfl (fun ls hl => ?_)
        refine lv_goto (tgt := 61) hx hb dX8_tell_82 (by decide) ?_
        exact ih (vp_updL t_said v2.toNatClampNeg (t_fresh v2.toNatClampNeg)) x6 hf _ _ hP hD hS _ (lv_sub hl [1, 2, 0] rfl)
  have hw_31 : ∀ (t_typed : Int32) (t_quarrel : Int32) (t_said : Nat → Int64) (t_many : Nat → Int32) (t_grades : Nat → Int32) (t_doubts : Nat → Int32) (n : Nat) (t_at : Int32) (t_token : Int32) (t_start : Int32) (t_valMany : Int32) (t_waitMany : Int32) (t_open : Int32) (t_saying : Int64) (t_vals : Nat → Int64) (t_waits : Nat → Int32) (t_fresh : Nat → Int64) (t_freshMany : Nat → Int32) (v1 : Int32), lp_X8_tell_31 t_text t_typed t_quarrel t_said t_many t_grades t_doubts n t_at t_token t_start t_valMany t_waitMany t_open t_saying t_vals t_waits t_fresh t_freshMany v1 = some o → ∀ (H : Heap) (locs : List Loc), va_P G.1 vwCl [(h_t, .inr (8, [.long t_trace, .ref h_t_text, .int t_typed, .ref h_t_said, .ref h_t_many, .long t_when, .long t_then, .ref h_t_grades, .ref h_t_doubts, .int t_at, .int t_token, .int t_start, .ref h_t_vals, .ref h_t_waits, .int t_valMany, .int t_waitMany, .int t_open, .long t_saying, .ref h_t_fresh, .ref h_t_freshMany, .int t_quarrel])), (h_t_text, .inl (G.2.1.2.1, 400, .inl t_text)), (h_t_said, .inl (G.2.1.2.2, 45, .inr (.inl t_said))), (h_t_many, .inl (G.2.1.2.1, 5, .inl t_many)), (h_t_grades, .inl (G.2.1.2.1, 9, .inl t_grades)), (h_t_doubts, .inl (G.2.1.2.1, 64, .inl t_doubts)), (h_t_vals, .inl (G.2.1.2.2, 410, .inr (.inl t_vals))), (h_t_waits, .inl (G.2.1.2.1, 410, .inl t_waits)), (h_t_fresh, .inl (G.2.1.2.2, 45, .inr (.inl t_fresh))), (h_t_freshMany, .inl (G.2.1.2.1, 5, .inl t_freshMany))] H → va_D A [(h_t, .inr (8, [.long t_trace, .ref h_t_text, .int t_typed, .ref h_t_said, .ref h_t_many, .long t_when, .long t_then, .ref h_t_grades, .ref h_t_doubts, .int t_at, .int t_token, .int t_start, .ref h_t_vals, .ref h_t_waits, .int t_valMany, .int t_waitMany, .int t_open, .long t_saying, .ref h_t_fresh, .ref h_t_freshMany, .int t_quarrel])), (h_t_text, .inl (G.2.1.2.1, 400, .inl t_text)), (h_t_said, .inl (G.2.1.2.2, 45, .inr (.inl t_said))), (h_t_many, .inl (G.2.1.2.1, 5, .inl t_many)), (h_t_grades, .inl (G.2.1.2.1, 9, .inl t_grades)), (h_t_doubts, .inl (G.2.1.2.1, 64, .inl t_doubts)), (h_t_vals, .inl (G.2.1.2.2, 410, .inr (.inl t_vals))), (h_t_waits, .inl (G.2.1.2.1, 410, .inl t_waits)), (h_t_fresh, .inl (G.2.1.2.2, 45, .inr (.inl t_fresh))), (h_t_freshMany, .inl (G.2.1.2.1, 5, .inl t_freshMany))] → va_S A s.heap H locs → ∀ (ls : Array Slot), lv_has ls 3 [(0, .ref h_t), (1, .int v1)] → W p l e (headSpec wsX8_tell ({ frames := 6, cells := 0, slots := 0, locals := 129 } : Room)).room s m ([.ref h_t] : List Value).toArray below meth c H locs 0 0 (MQ below (qcI Unit G o.1 (fun _ => True) (fun _ => [(h_t, .inr (8, [.long t_trace, .ref h_t_text, .int o.2.1, .ref h_t_said, .ref h_t_many, .long t_when, .long t_then, .ref h_t_grades, .ref h_t_doubts, .int o.2.2.1, .int o.2.2.2.1, .int o.2.2.2.2.1, .ref h_t_vals, .ref h_t_waits, .int o.2.2.2.2.2.1, .int o.2.2.2.2.2.2.1, .int o.2.2.2.2.2.2.2.1, .long o.2.2.2.2.2.2.2.2.1, .ref h_t_fresh, .ref h_t_freshMany, .int o.2.2.2.2.2.2.2.2.2.1])), (h_t_text, .inl (G.2.1.2.1, 400, .inl t_text)), (h_t_said, .inl (G.2.1.2.2, 45, .inr (.inl o.2.2.2.2.2.2.2.2.2.2.1))), (h_t_many, .inl (G.2.1.2.1, 5, .inl o.2.2.2.2.2.2.2.2.2.2.2.1)), (h_t_grades, .inl (G.2.1.2.1, 9, .inl o.2.2.2.2.2.2.2.2.2.2.2.2.1)), (h_t_doubts, .inl (G.2.1.2.1, 64, .inl o.2.2.2.2.2.2.2.2.2.2.2.2.2.1)), (h_t_vals, .inl (G.2.1.2.2, 410, .inr (.inl o.2.2.2.2.2.2.2.2.2.2.2.2.2.2.1))), (h_t_waits, .inl (G.2.1.2.1, 410, .inl o.2.2.2.2.2.2.2.2.2.2.2.2.2.2.2.1)), (h_t_fresh, .inl (G.2.1.2.2, 45, .inr (.inl o.2.2.2.2.2.2.2.2.2.2.2.2.2.2.2.2.1))), (h_t_freshMany, .inl (G.2.1.2.1, 5, .inl o.2.2.2.2.2.2.2.2.2.2.2.2.2.2.2.2.2))]) A) ([.ref h_t] : List Value).toArray s 0 0 A) (F0 m 31 ls []) := by
    intro t_typed t_quarrel t_said t_many t_grades t_doubts
    intro n
    induction n with
    | zero =>
      intro t_at t_token t_start t_valMany t_waitMany t_open t_saying t_vals t_waits t_fresh t_freshMany v1 hf
      exact absurd hf (by rw [lp_X8_tell_31]; intro h; cases h)
    | succ n ih =>
      intro t_at t_token t_start t_valMany t_waitMany t_open t_saying t_vals t_waits t_fresh t_freshMany v1 hf H locs hP hD hS ls hl
      rw [lp_X8_tell_31] at hf
      refine lv_aload_n hx hb dX8_tell_31 rfl (lv_at hl 0 rfl) ?_
      refine va_get (D := G.1) (ci := 8) (v := .int t_token) (C := RX8) (T := TX8) (N := 21) hx hb hts hiX8 hown hg.1 hP 0 rfl rfl 10 (by decide) (hts (.fieldLink RX8 89 "AsARuleModel" "token" "I") (by decide +kernel)) (fun _ h9 => h9) rfl dX8_tell_32 ?_
      refine lv_if_eq (tgt := 59) hx hb dX8_tell_35 (by decide) (fun c7 => ?_) (fun c7 => ?_)
      · have hf := it_t c7 hf
        refine lv_iconst (v := (0 : Int32)) hx hb dX8_tell_59 (by decide) ?_
        refine lv_istore_n (lv' := [(2, .int (0 : Int32)), (0, .ref h_t), (1, .int v1)]) hx hb dX8_tell_60 rfl hl (by decide) rfl (fun ls hl => ?_)
        exact hw_61 t_typed t_at t_token t_start t_valMany t_waitMany t_open t_saying t_quarrel t_many t_grades t_doubts t_vals t_waits t_fresh t_freshMany v1 fu t_said (0 : Int32) hf _ _ hP hD hS _ (lv_sub hl [1, 2, 0] rfl)
      · have hf := it_f c7 hf
        refine lv_aload_n hx hb dX8_tell_38 rfl (lv_at hl 0 rfl) ?_
        obtain ⟨o8, ho8, hf⟩ := bd_e hf
        refine af_i (wr := [(h_t_said, .inl (G.2.1.2.2, 45, .inr (.inl t_said))), (h_t_many, .inl (G.2.1.2.1, 5, .inl t_many)), (h_t_grades, .inl (G.2.1.2.1, 9, .inl t_grades)), (h_t_doubts, .inl (G.2.1.2.1, 64, .inl t_doubts))]) (va_runV (As := []) (rest := []) ⟨hx, hb, hml, hown, hts⟩ (c_X8_item l G h_t h_t_text h_t_said h_t_many h_t_grades h_t_doubts h_t_vals h_t_waits h_t_fresh h_t_freshMany H.size t_trace t_typed t_when t_then t_at t_token t_start t_valMany t_waitMany t_open t_saying t_quarrel t_text t_vals t_waits t_fresh t_freshMany o8 ho8) (cwV 0 hts gX8_tell_X8_item rfl rfl rfl (by decide +kernel) ⟨Nat.le_of_ble_eq_true rfl, Nat.le_of_ble_eq_true rfl⟩) (pcA_preV hg hc hP hD hS hA [0, 1, 6, 7, 8, 9] rfl (by decide) (q0 := 0) (ci := 8) rfl rfl rfl) rfl rfl hl.1 rfl (lv_room (Nat.le_of_ble_eq_true rfl)) dX8_tell_39 ⟨Nat.zero_le _, Nat.zero_le _⟩) hP hD hS hA [0, 1, 6, 7, 8, 9] [2, 3, 4, 5] rfl rfl (by decide) (by decide) (fun _ H locs _ hP hD hS => ?_)
        have hP : va_P G.1 vwCl [(h_t, .inr (8, [.long t_trace, .ref h_t_text, .int t_typed, .ref h_t_said, .ref h_t_many, .long t_when, .long t_then, .ref h_t_grades, .ref h_t_doubts, .int o8.2.1, .int o8.2.2.1, .int o8.2.2.2.1, .ref h_t_vals, .ref h_t_waits, .int o8.2.2.2.2.1, .int o8.2.2.2.2.2.1, .int o8.2.2.2.2.2.2.1, .long o8.2.2.2.2.2.2.2.1, .ref h_t_fresh, .ref h_t_freshMany, .int t_quarrel])), (h_t_text, .inl (G.2.1.2.1, 400, .inl t_text)), (h_t_said, .inl (G.2.1.2.2, 45, .inr (.inl t_said))), (h_t_many, .inl (G.2.1.2.1, 5, .inl t_many)), (h_t_grades, .inl (G.2.1.2.1, 9, .inl t_grades)), (h_t_doubts, .inl (G.2.1.2.1, 64, .inl t_doubts)), (h_t_vals, .inl (G.2.1.2.2, 410, .inr (.inl o8.2.2.2.2.2.2.2.2.1))), (h_t_waits, .inl (G.2.1.2.1, 410, .inl o8.2.2.2.2.2.2.2.2.2.1)), (h_t_fresh, .inl (G.2.1.2.2, 45, .inr (.inl o8.2.2.2.2.2.2.2.2.2.2.1))), (h_t_freshMany, .inl (G.2.1.2.1, 5, .inl o8.2.2.2.2.2.2.2.2.2.2.2))] H := hP.sub [4, 5, 0, 1, 2, 3, 6, 7, 8, 9] rfl
        have hD : va_D A [(h_t, .inr (8, [.long t_trace, .ref h_t_text, .int t_typed, .ref h_t_said, .ref h_t_many, .long t_when, .long t_then, .ref h_t_grades, .ref h_t_doubts, .int o8.2.1, .int o8.2.2.1, .int o8.2.2.2.1, .ref h_t_vals, .ref h_t_waits, .int o8.2.2.2.2.1, .int o8.2.2.2.2.2.1, .int o8.2.2.2.2.2.2.1, .long o8.2.2.2.2.2.2.2.1, .ref h_t_fresh, .ref h_t_freshMany, .int t_quarrel])), (h_t_text, .inl (G.2.1.2.1, 400, .inl t_text)), (h_t_said, .inl (G.2.1.2.2, 45, .inr (.inl t_said))), (h_t_many, .inl (G.2.1.2.1, 5, .inl t_many)), (h_t_grades, .inl (G.2.1.2.1, 9, .inl t_grades)), (h_t_doubts, .inl (G.2.1.2.1, 64, .inl t_doubts)), (h_t_vals, .inl (G.2.1.2.2, 410, .inr (.inl o8.2.2.2.2.2.2.2.2.1))), (h_t_waits, .inl (G.2.1.2.1, 410, .inl o8.2.2.2.2.2.2.2.2.2.1)), (h_t_fresh, .inl (G.2.1.2.2, 45, .inr (.inl o8.2.2.2.2.2.2.2.2.2.2.1))), (h_t_freshMany, .inl (G.2.1.2.1, 5, .inl o8.2.2.2.2.2.2.2.2.2.2.2))] := hD.sub [4, 5, 0, 1, 2, 3, 6, 7, 8, 9] (by decide) rfl
        refine lv_if_ne (tgt := 53) hx hb dX8_tell_42 (by decide) (fun c9 => ?_) (fun c9 => ?_)
        · have hf := it_f c9 hf
          obtain ⟨x10, ex10⟩ : ∃ y : Int32, y = (v1 + (1 : Int32)) := ⟨_, rfl⟩
          have hf := lt_n hf x10 ex10
          refine lv_iinc (v := x10) (lv' := [(1, .int x10), (0, .ref h_t)]) hx hb dX8_tell_53 hl (k := 1) rfl (by rw [ex10]; rfl) (by decide) rfl (fun ls hl => ?_)
          refine lv_goto (tgt := 31) hx hb dX8_tell_56 (by decide) ?_
          exact ih o8.2.1 o8.2.2.1 o8.2.2.2.1 o8.2.2.2.2.1 o8.2.2.2.2.2.1 o8.2.2.2.2.2.2.1 o8.2.2.2.2.2.2.2.1 o8.2.2.2.2.2.2.2.2.1 o8.2.2.2.2.2.2.2.2.2.1 o8.2.2.2.2.2.2.2.2.2.2.1 o8.2.2.2.2.2.2.2.2.2.2.2 x10 hf _ _ hP hD hS _ (lv_sub hl [1, 0] rfl)
        · have hf := it_t c9 hf
          refine lv_bipush (v := (-10 : Int32)) hx hb dX8_tell_45 (by decide) ?_
          refine lv_aload_n hx hb dX8_tell_47 rfl (lv_at hl 0 rfl) ?_
          refine va_get (D := G.1) (ci := 8) (v := .int o8.2.2.2.1) (C := RX8) (T := TX8) (N := 21) hx hb hts hiX8 hown hg.1 hP 0 rfl rfl 11 (by decide) (hts (.fieldLink RX8 71 "AsARuleModel" "start" "I") (by decide +kernel)) (fun _ h9 => h9) rfl dX8_tell_48 ?_
          refine lv_isub hx hb dX8_tell_51 ?_
          rw [← Option.some.inj hf]
          exact rt_i (u := ()) hx hb hr hlocks hP hD trivial hS dX8_tell_52
  have hw_7 : ∀ (t_typed : Int32) (t_at : Int32) (t_token : Int32) (t_start : Int32) (t_valMany : Int32) (t_waitMany : Int32) (t_open : Int32) (t_saying : Int64) (t_quarrel : Int32) (t_said : Nat → Int64) (t_many : Nat → Int32) (t_grades : Nat → Int32) (t_doubts : Nat → Int32) (t_vals : Nat → Int64) (t_waits : Nat → Int32) (t_fresh : Nat → Int64) (n : Nat) (t_freshMany : Nat → Int32) (v1 : Int32), lp_X8_tell_7 t_text t_typed t_at t_token t_start t_valMany t_waitMany t_open t_saying t_quarrel t_said t_many t_grades t_doubts t_vals t_waits t_fresh n t_freshMany v1 = some o → ∀ (H : Heap) (locs : List Loc), va_P G.1 vwCl [(h_t, .inr (8, [.long t_trace, .ref h_t_text, .int t_typed, .ref h_t_said, .ref h_t_many, .long t_when, .long t_then, .ref h_t_grades, .ref h_t_doubts, .int t_at, .int t_token, .int t_start, .ref h_t_vals, .ref h_t_waits, .int t_valMany, .int t_waitMany, .int t_open, .long t_saying, .ref h_t_fresh, .ref h_t_freshMany, .int t_quarrel])), (h_t_text, .inl (G.2.1.2.1, 400, .inl t_text)), (h_t_said, .inl (G.2.1.2.2, 45, .inr (.inl t_said))), (h_t_many, .inl (G.2.1.2.1, 5, .inl t_many)), (h_t_grades, .inl (G.2.1.2.1, 9, .inl t_grades)), (h_t_doubts, .inl (G.2.1.2.1, 64, .inl t_doubts)), (h_t_vals, .inl (G.2.1.2.2, 410, .inr (.inl t_vals))), (h_t_waits, .inl (G.2.1.2.1, 410, .inl t_waits)), (h_t_fresh, .inl (G.2.1.2.2, 45, .inr (.inl t_fresh))), (h_t_freshMany, .inl (G.2.1.2.1, 5, .inl t_freshMany))] H → va_D A [(h_t, .inr (8, [.long t_trace, .ref h_t_text, .int t_typed, .ref h_t_said, .ref h_t_many, .long t_when, .long t_then, .ref h_t_grades, .ref h_t_doubts, .int t_at, .int t_token, .int t_start, .ref h_t_vals, .ref h_t_waits, .int t_valMany, .int t_waitMany, .int t_open, .long t_saying, .ref h_t_fresh, .ref h_t_freshMany, .int t_quarrel])), (h_t_text, .inl (G.2.1.2.1, 400, .inl t_text)), (h_t_said, .inl (G.2.1.2.2, 45, .inr (.inl t_said))), (h_t_many, .inl (G.2.1.2.1, 5, .inl t_many)), (h_t_grades, .inl (G.2.1.2.1, 9, .inl t_grades)), (h_t_doubts, .inl (G.2.1.2.1, 64, .inl t_doubts)), (h_t_vals, .inl (G.2.1.2.2, 410, .inr (.inl t_vals))), (h_t_waits, .inl (G.2.1.2.1, 410, .inl t_waits)), (h_t_fresh, .inl (G.2.1.2.2, 45, .inr (.inl t_fresh))), (h_t_freshMany, .inl (G.2.1.2.1, 5, .inl t_freshMany))] → va_S A s.heap H locs → ∀ (ls : Array Slot), lv_has ls 3 [(0, .ref h_t), (1, .int v1)] → W p l e (headSpec wsX8_tell ({ frames := 6, cells := 0, slots := 0, locals := 129 } : Room)).room s m ([.ref h_t] : List Value).toArray below meth c H locs 0 0 (MQ below (qcI Unit G o.1 (fun _ => True) (fun _ => [(h_t, .inr (8, [.long t_trace, .ref h_t_text, .int o.2.1, .ref h_t_said, .ref h_t_many, .long t_when, .long t_then, .ref h_t_grades, .ref h_t_doubts, .int o.2.2.1, .int o.2.2.2.1, .int o.2.2.2.2.1, .ref h_t_vals, .ref h_t_waits, .int o.2.2.2.2.2.1, .int o.2.2.2.2.2.2.1, .int o.2.2.2.2.2.2.2.1, .long o.2.2.2.2.2.2.2.2.1, .ref h_t_fresh, .ref h_t_freshMany, .int o.2.2.2.2.2.2.2.2.2.1])), (h_t_text, .inl (G.2.1.2.1, 400, .inl t_text)), (h_t_said, .inl (G.2.1.2.2, 45, .inr (.inl o.2.2.2.2.2.2.2.2.2.2.1))), (h_t_many, .inl (G.2.1.2.1, 5, .inl o.2.2.2.2.2.2.2.2.2.2.2.1)), (h_t_grades, .inl (G.2.1.2.1, 9, .inl o.2.2.2.2.2.2.2.2.2.2.2.2.1)), (h_t_doubts, .inl (G.2.1.2.1, 64, .inl o.2.2.2.2.2.2.2.2.2.2.2.2.2.1)), (h_t_vals, .inl (G.2.1.2.2, 410, .inr (.inl o.2.2.2.2.2.2.2.2.2.2.2.2.2.2.1))), (h_t_waits, .inl (G.2.1.2.1, 410, .inl o.2.2.2.2.2.2.2.2.2.2.2.2.2.2.2.1)), (h_t_fresh, .inl (G.2.1.2.2, 45, .inr (.inl o.2.2.2.2.2.2.2.2.2.2.2.2.2.2.2.2.1))), (h_t_freshMany, .inl (G.2.1.2.1, 5, .inl o.2.2.2.2.2.2.2.2.2.2.2.2.2.2.2.2.2))]) A) ([.ref h_t] : List Value).toArray s 0 0 A) (F0 m 7 ls []) := by
    intro t_typed t_at t_token t_start t_valMany t_waitMany t_open t_saying t_quarrel t_said t_many t_grades t_doubts t_vals t_waits t_fresh
    intro n
    induction n with
    | zero =>
      intro t_freshMany v1 hf
      exact absurd hf (by rw [lp_X8_tell_7]; intro h; cases h)
    | succ n ih =>
      intro t_freshMany v1 hf H locs hP hD hS ls hl
      rw [lp_X8_tell_7] at hf
      refine lv_iload_n hx hb dX8_tell_7 rfl (lv_at hl 1 rfl) ?_
      refine lv_iconst (v := (5 : Int32)) hx hb dX8_tell_8 (by decide) ?_
      refine lv_icmp_ge (tgt := 25) hx hb dX8_tell_9 (by decide) (fun c11 => ?_) (fun c11 => ?_)
      · have hf := it_t c11 hf
        refine lv_aload_n hx hb dX8_tell_25 rfl (lv_at hl 0 rfl) ?_
        obtain ⟨o12, ho12, hf⟩ := bd_e hf
        refine af_v (wr := [(h_t_said, .inl (G.2.1.2.2, 45, .inr (.inl t_said))), (h_t_many, .inl (G.2.1.2.1, 5, .inl t_many)), (h_t_grades, .inl (G.2.1.2.1, 9, .inl t_grades)), (h_t_doubts, .inl (G.2.1.2.1, 64, .inl t_doubts)), (h_t_vals, .inl (G.2.1.2.2, 410, .inr (.inl t_vals))), (h_t_waits, .inl (G.2.1.2.1, 410, .inl t_waits)), (h_t_fresh, .inl (G.2.1.2.2, 45, .inr (.inl t_fresh))), (h_t_freshMany, .inl (G.2.1.2.1, 5, .inl t_freshMany))]) (va_runV (As := []) (rest := []) ⟨hx, hb, hml, hown, hts⟩ (c_X8_scans l G h_t h_t_text h_t_said h_t_many h_t_grades h_t_doubts h_t_vals h_t_waits h_t_fresh h_t_freshMany H.size t_trace t_typed t_when t_then t_at t_token t_start t_valMany t_waitMany t_open t_saying t_quarrel t_text o12 ho12) (cwV 0 hts gX8_tell_X8_scans rfl rfl rfl (by decide +kernel) ⟨Nat.le_of_ble_eq_true rfl, Nat.le_of_ble_eq_true rfl⟩) (pcA_preV hg hc hP hD hS hA [0, 1] rfl (by decide) (q0 := 0) (ci := 8) rfl rfl rfl) rfl rfl hl.1 rfl (lv_room (Nat.le_of_ble_eq_true rfl)) dX8_tell_26 ⟨Nat.zero_le _, Nat.zero_le _⟩) hP hD hS hA [0, 1] [2, 3, 4, 5, 6, 7, 8, 9] rfl rfl (by decide) (by decide) (fun _ H locs _ hP hD hS => ?_)
        have hP : va_P G.1 vwCl [(h_t, .inr (8, [.long t_trace, .ref h_t_text, .int t_typed, .ref h_t_said, .ref h_t_many, .long t_when, .long t_then, .ref h_t_grades, .ref h_t_doubts, .int o12.1, .int o12.2.1, .int o12.2.2, .ref h_t_vals, .ref h_t_waits, .int t_valMany, .int t_waitMany, .int t_open, .long t_saying, .ref h_t_fresh, .ref h_t_freshMany, .int t_quarrel])), (h_t_text, .inl (G.2.1.2.1, 400, .inl t_text)), (h_t_said, .inl (G.2.1.2.2, 45, .inr (.inl t_said))), (h_t_many, .inl (G.2.1.2.1, 5, .inl t_many)), (h_t_grades, .inl (G.2.1.2.1, 9, .inl t_grades)), (h_t_doubts, .inl (G.2.1.2.1, 64, .inl t_doubts)), (h_t_vals, .inl (G.2.1.2.2, 410, .inr (.inl t_vals))), (h_t_waits, .inl (G.2.1.2.1, 410, .inl t_waits)), (h_t_fresh, .inl (G.2.1.2.2, 45, .inr (.inl t_fresh))), (h_t_freshMany, .inl (G.2.1.2.1, 5, .inl t_freshMany))] H := hP.sub [8, 9, 0, 1, 2, 3, 4, 5, 6, 7] rfl
        have hD : va_D A [(h_t, .inr (8, [.long t_trace, .ref h_t_text, .int t_typed, .ref h_t_said, .ref h_t_many, .long t_when, .long t_then, .ref h_t_grades, .ref h_t_doubts, .int o12.1, .int o12.2.1, .int o12.2.2, .ref h_t_vals, .ref h_t_waits, .int t_valMany, .int t_waitMany, .int t_open, .long t_saying, .ref h_t_fresh, .ref h_t_freshMany, .int t_quarrel])), (h_t_text, .inl (G.2.1.2.1, 400, .inl t_text)), (h_t_said, .inl (G.2.1.2.2, 45, .inr (.inl t_said))), (h_t_many, .inl (G.2.1.2.1, 5, .inl t_many)), (h_t_grades, .inl (G.2.1.2.1, 9, .inl t_grades)), (h_t_doubts, .inl (G.2.1.2.1, 64, .inl t_doubts)), (h_t_vals, .inl (G.2.1.2.2, 410, .inr (.inl t_vals))), (h_t_waits, .inl (G.2.1.2.1, 410, .inl t_waits)), (h_t_fresh, .inl (G.2.1.2.2, 45, .inr (.inl t_fresh))), (h_t_freshMany, .inl (G.2.1.2.1, 5, .inl t_freshMany))] := hD.sub [8, 9, 0, 1, 2, 3, 4, 5, 6, 7] (by decide) rfl
        refine lv_iconst (v := (0 : Int32)) hx hb dX8_tell_29 (by decide) ?_
        refine lv_istore_n (lv' := [(1, .int (0 : Int32)), (0, .ref h_t)]) hx hb dX8_tell_30 rfl hl (by decide) rfl (fun ls hl => ?_)
        exact hw_31 t_typed t_quarrel t_said t_many t_grades t_doubts fu o12.1 o12.2.1 o12.2.2 t_valMany t_waitMany t_open t_saying t_vals t_waits t_fresh t_freshMany (0 : Int32) hf _ _ hP hD hS _ (lv_sub hl [1, 0] rfl)
      · have hf := it_f c11 hf
        refine lv_aload_n hx hb dX8_tell_12 rfl (lv_at hl 0 rfl) ?_
        refine va_get (D := G.1) (ci := 8) (v := .ref h_t_freshMany) (C := RX8) (T := TX8) (N := 21) hx hb hts hiX8 hown hg.1 hP 0 rfl rfl 19 (by decide) (hts (.fieldLink RX8 35 "AsARuleModel" "freshMany" "[I") (by decide +kernel)) (fun _ h9 => h9) rfl dX8_tell_13 ?_
        refine lv_iload_n hx hb dX8_tell_16 rfl (lv_at hl 1 rfl) ?_
        refine lv_iconst (v := (0 : Int32)) hx hb dX8_tell_17 (by decide) ?_
        refine va_iast hx hb hg.1 hP hD hS 9 1 rfl rfl (ib_in (gd_t hf)) dX8_tell_18 (fun H locs hP hD hS => ?_)
        have hf := gd_x hf
        have hP : va_P G.1 vwCl [(h_t, .inr (8, [.long t_trace, .ref h_t_text, .int t_typed, .ref h_t_said, .ref h_t_many, .long t_when, .long t_then, .ref h_t_grades, .ref h_t_doubts, .int t_at, .int t_token, .int t_start, .ref h_t_vals, .ref h_t_waits, .int t_valMany, .int t_waitMany, .int t_open, .long t_saying, .ref h_t_fresh, .ref h_t_freshMany, .int t_quarrel])), (h_t_text, .inl (G.2.1.2.1, 400, .inl t_text)), (h_t_said, .inl (G.2.1.2.2, 45, .inr (.inl t_said))), (h_t_many, .inl (G.2.1.2.1, 5, .inl t_many)), (h_t_grades, .inl (G.2.1.2.1, 9, .inl t_grades)), (h_t_doubts, .inl (G.2.1.2.1, 64, .inl t_doubts)), (h_t_vals, .inl (G.2.1.2.2, 410, .inr (.inl t_vals))), (h_t_waits, .inl (G.2.1.2.1, 410, .inl t_waits)), (h_t_fresh, .inl (G.2.1.2.2, 45, .inr (.inl t_fresh))), (h_t_freshMany, .inl (G.2.1.2.1, 5, .inl (upd t_freshMany v1.toNatClampNeg (0 : Int32))))] H := hP
        have hD : va_D A [(h_t, .inr (8, [.long t_trace, .ref h_t_text, .int t_typed, .ref h_t_said, .ref h_t_many, .long t_when, .long t_then, .ref h_t_grades, .ref h_t_doubts, .int t_at, .int t_token, .int t_start, .ref h_t_vals, .ref h_t_waits, .int t_valMany, .int t_waitMany, .int t_open, .long t_saying, .ref h_t_fresh, .ref h_t_freshMany, .int t_quarrel])), (h_t_text, .inl (G.2.1.2.1, 400, .inl t_text)), (h_t_said, .inl (G.2.1.2.2, 45, .inr (.inl t_said))), (h_t_many, .inl (G.2.1.2.1, 5, .inl t_many)), (h_t_grades, .inl (G.2.1.2.1, 9, .inl t_grades)), (h_t_doubts, .inl (G.2.1.2.1, 64, .inl t_doubts)), (h_t_vals, .inl (G.2.1.2.2, 410, .inr (.inl t_vals))), (h_t_waits, .inl (G.2.1.2.1, 410, .inl t_waits)), (h_t_fresh, .inl (G.2.1.2.2, 45, .inr (.inl t_fresh))), (h_t_freshMany, .inl (G.2.1.2.1, 5, .inl (upd t_freshMany v1.toNatClampNeg (0 : Int32))))] := hD
        obtain ⟨x13, ex13⟩ : ∃ y : Int32, y = (v1 + (1 : Int32)) := ⟨_, rfl⟩
        have hf := lt_n hf x13 ex13
        refine lv_iinc (v := x13) (lv' := [(1, .int x13), (0, .ref h_t)]) hx hb dX8_tell_19 hl (k := 1) rfl (by rw [ex13]; rfl) (by decide) rfl (fun ls hl => ?_)
        refine lv_goto (tgt := 7) hx hb dX8_tell_22 (by decide) ?_
        exact ih (upd t_freshMany v1.toNatClampNeg (0 : Int32)) x13 hf _ _ hP hD hS _ (lv_sub hl [1, 0] rfl)
  unfold f_X8_tell at hf
  refine en (fun H locs hP hD hS => ?_) hP hD
  refine lv_aload_n hx hb dX8_tell_0 rfl (lv_at hl 0 rfl) ?_
  refine lv_iconst (v := (0 : Int32)) hx hb dX8_tell_1 (by decide) ?_
  refine va_put (D := G.1) (ci := 8) (v := .int (0 : Int32)) (ty := .int) (C := RX8) (T := TX8) (N := 21) hx hb hts hiX8 tyX8 tyX8_ok nmX8 hown hg.1 hP hD hS 0 rfl rfl 9 (by decide) (hts (.fieldLink RX8 86 "AsARuleModel" "at" "I") (by decide +kernel)) (fun _ h9 => h9) rfl (by decide +kernel) rfl rfl (Nat.le_of_ble_eq_true rfl) dX8_tell_2 (fun H locs hP hD hS => ?_)
  have hP : va_P G.1 vwCl [(h_t, .inr (8, [.long t_trace, .ref h_t_text, .int t_typed, .ref h_t_said, .ref h_t_many, .long t_when, .long t_then, .ref h_t_grades, .ref h_t_doubts, .int (0 : Int32), .int t_token, .int t_start, .ref h_t_vals, .ref h_t_waits, .int t_valMany, .int t_waitMany, .int t_open, .long t_saying, .ref h_t_fresh, .ref h_t_freshMany, .int t_quarrel])), (h_t_text, .inl (G.2.1.2.1, 400, .inl t_text)), (h_t_said, .inl (G.2.1.2.2, 45, .inr (.inl t_said))), (h_t_many, .inl (G.2.1.2.1, 5, .inl t_many)), (h_t_grades, .inl (G.2.1.2.1, 9, .inl t_grades)), (h_t_doubts, .inl (G.2.1.2.1, 64, .inl t_doubts)), (h_t_vals, .inl (G.2.1.2.2, 410, .inr (.inl t_vals))), (h_t_waits, .inl (G.2.1.2.1, 410, .inl t_waits)), (h_t_fresh, .inl (G.2.1.2.2, 45, .inr (.inl t_fresh))), (h_t_freshMany, .inl (G.2.1.2.1, 5, .inl t_freshMany))] H := hP
  have hD : va_D A [(h_t, .inr (8, [.long t_trace, .ref h_t_text, .int t_typed, .ref h_t_said, .ref h_t_many, .long t_when, .long t_then, .ref h_t_grades, .ref h_t_doubts, .int (0 : Int32), .int t_token, .int t_start, .ref h_t_vals, .ref h_t_waits, .int t_valMany, .int t_waitMany, .int t_open, .long t_saying, .ref h_t_fresh, .ref h_t_freshMany, .int t_quarrel])), (h_t_text, .inl (G.2.1.2.1, 400, .inl t_text)), (h_t_said, .inl (G.2.1.2.2, 45, .inr (.inl t_said))), (h_t_many, .inl (G.2.1.2.1, 5, .inl t_many)), (h_t_grades, .inl (G.2.1.2.1, 9, .inl t_grades)), (h_t_doubts, .inl (G.2.1.2.1, 64, .inl t_doubts)), (h_t_vals, .inl (G.2.1.2.2, 410, .inr (.inl t_vals))), (h_t_waits, .inl (G.2.1.2.1, 410, .inl t_waits)), (h_t_fresh, .inl (G.2.1.2.2, 45, .inr (.inl t_fresh))), (h_t_freshMany, .inl (G.2.1.2.1, 5, .inl t_freshMany))] := hD
  refine lv_iconst (v := (0 : Int32)) hx hb dX8_tell_5 (by decide) ?_
  refine lv_istore_n (lv' := [(1, .int (0 : Int32)), (0, .ref h_t)]) hx hb dX8_tell_6 rfl hl (by decide) rfl (fun ls hl => ?_)
  exact hw_7 t_typed (0 : Int32) t_token t_start t_valMany t_waitMany t_open t_saying t_quarrel t_said t_many t_grades t_doubts t_vals t_waits t_fresh fu t_freshMany (0 : Int32) hf _ _ hP hD hS _ (lv_sub hl [1, 0] rfl)
-- method X8_question
def jn_X8_question_86 (t_text : Nat → Int32) (t_typed : Int32) (t_when : Int64) (t_then : Int64) (t_at : Int32) (t_token : Int32) (t_start : Int32) (t_valMany : Int32) (t_waitMany : Int32) (t_open : Int32) (t_saying : Int64) (t_vals : Nat → Int64) (t_waits : Nat → Int32) (t_fresh : Nat → Int64) (v1 : Int32) (s1 : Int64) : Option (Int32 × Int32 × Int64 × Int64 × Int32 × Int32 × Int32 × Int32 × Int32 × Int32 × Int64 × (Nat → Int64) × (Nat → Int32) × (Nat → Int64)) :=
  if v1 = (0 : Int32) then some ((1 : Int32), (0 : Int32), s1, t_saying, t_at, t_token, t_start, t_valMany, t_waitMany, t_open, t_saying, t_vals, t_waits, t_fresh) else gd (ib (26 : Int32) 45) (lt (t_fresh (26 : Int32).toNatClampNeg) (fun x2 => some ((1 : Int32), (0 : Int32), s1, x2, t_at, t_token, t_start, t_valMany, t_waitMany, t_open, t_saying, t_vals, t_waits, t_fresh)))
def jn_X8_question_48 (t_text : Nat → Int32) (t_typed : Int32) (t_when : Int64) (t_then : Int64) (t_at : Int32) (t_token : Int32) (t_start : Int32) (t_valMany : Int32) (t_waitMany : Int32) (t_open : Int32) (t_saying : Int64) (t_vals : Nat → Int64) (t_waits : Nat → Int32) (t_fresh : Nat → Int64) (v1 : Int32) (s0 : Int32) : Option (Int32 × Int32 × Int64 × Int64 × Int32 × Int32 × Int32 × Int32 × Int32 × Int32 × Int64 × (Nat → Int64) × (Nat → Int32) × (Nat → Int64)) :=
  if s0 = (0 : Int32) then some (((-10 : Int32) - t_start), t_typed, t_when, t_then, t_at, t_token, t_start, t_valMany, t_waitMany, t_open, t_saying, t_vals, t_waits, t_fresh) else if t_token = (0 : Int32) then if v1 = (0 : Int32) then jn_X8_question_86 t_text t_typed t_when t_then t_at t_token t_start t_valMany t_waitMany t_open t_saying t_vals t_waits t_fresh v1 (-1 : Int64) else gd (ib (17 : Int32) 45) (jn_X8_question_86 t_text t_typed t_when t_then t_at t_token t_start t_valMany t_waitMany t_open t_saying t_vals t_waits t_fresh v1 (t_fresh (17 : Int32).toNatClampNeg)) else some (((-10 : Int32) - t_start), t_typed, t_when, t_then, t_at, t_token, t_start, t_valMany, t_waitMany, t_open, t_saying, t_vals, t_waits, t_fresh)
def jn_X8_question_31 (t_text : Nat → Int32) (t_typed : Int32) (t_when : Int64) (t_then : Int64) (t_at : Int32) (t_token : Int32) (t_start : Int32) (t_valMany : Int32) (t_waitMany : Int32) (t_open : Int32) (t_saying : Int64) (t_vals : Nat → Int64) (t_waits : Nat → Int32) (t_fresh : Nat → Int64) (v1 : Int32) : Option (Int32 × Int32 × Int64 × Int64 × Int32 × Int32 × Int32 × Int32 × Int32 × Int32 × Int64 × (Nat → Int64) × (Nat → Int32) × (Nat → Int64)) :=
  if v1 = (0 : Int32) then bd (f_X8_says t_typed t_at t_token t_start t_valMany t_waitMany t_open t_saying t_text t_vals t_waits) (fun o7 => jn_X8_question_48 t_text t_typed t_when t_then o7.2.1 o7.2.2.1 o7.2.2.2.1 o7.2.2.2.2.1 o7.2.2.2.2.2.1 o7.2.2.2.2.2.2.1 o7.2.2.2.2.2.2.2.1 o7.2.2.2.2.2.2.2.2.1 o7.2.2.2.2.2.2.2.2.2 t_fresh v1 o7.1) else bd (f_X8_rules t_typed t_at t_token t_start t_valMany t_waitMany t_open t_saying t_text t_vals t_waits t_fresh (8 : Int32)) (fun o8 => jn_X8_question_48 t_text t_typed t_when t_then o8.2.1 o8.2.2.1 o8.2.2.2.1 o8.2.2.2.2.1 o8.2.2.2.2.2.1 o8.2.2.2.2.2.2.1 o8.2.2.2.2.2.2.2.1 o8.2.2.2.2.2.2.2.2.1 o8.2.2.2.2.2.2.2.2.2.1 o8.2.2.2.2.2.2.2.2.2.2 v1 o8.1)
def jn_X8_question_22 (t_text : Nat → Int32) (t_typed : Int32) (t_when : Int64) (t_then : Int64) (t_at : Int32) (t_token : Int32) (t_start : Int32) (t_valMany : Int32) (t_waitMany : Int32) (t_open : Int32) (t_saying : Int64) (t_vals : Nat → Int64) (t_waits : Nat → Int32) (t_fresh : Nat → Int64) (s0 : Int32) : Option (Int32 × Int32 × Int64 × Int64 × Int32 × Int32 × Int32 × Int32 × Int32 × Int32 × Int64 × (Nat → Int64) × (Nat → Int32) × (Nat → Int64)) :=
  if s0 = (0 : Int32) then jn_X8_question_31 t_text t_typed t_when t_then t_at t_token t_start t_valMany t_waitMany t_open t_saying t_vals t_waits t_fresh s0 else bd (f_X8_scans t_typed t_at t_token t_start t_text) (fun o10 => jn_X8_question_31 t_text t_typed t_when t_then o10.1 o10.2.1 o10.2.2 t_valMany t_waitMany t_open t_saying t_vals t_waits t_fresh s0)
def f_X8_question (t_typed : Int32) (t_when : Int64) (t_then : Int64) (t_at : Int32) (t_token : Int32) (t_start : Int32) (t_valMany : Int32) (t_waitMany : Int32) (t_open : Int32) (t_saying : Int64) (t_text : Nat → Int32) (t_vals : Nat → Int64) (t_waits : Nat → Int32) (t_fresh : Nat → Int64) : Option (Int32 × Int32 × Int64 × Int64 × Int32 × Int32 × Int32 × Int32 × Int32 × Int32 × Int64 × (Nat → Int64) × (Nat → Int32) × (Nat → Int64)) :=
  bd (f_X8_scans t_typed (0 : Int32) t_token t_start t_text) (fun o11 => if o11.2.1 = (3 : Int32) then jn_X8_question_22 t_text t_typed t_when t_then o11.1 o11.2.1 o11.2.2 t_valMany t_waitMany t_open t_saying t_vals t_waits t_fresh (1 : Int32) else jn_X8_question_22 t_text t_typed t_when t_then o11.1 o11.2.1 o11.2.2 t_valMany t_waitMany t_open t_saying t_vals t_waits t_fresh (0 : Int32))
set_option maxHeartbeats 4000000 in
set_option maxRecDepth 100000 in
theorem c_X8_question (l : Launch) (G : GG) (h_t h_t_text h_t_said h_t_many h_t_grades h_t_doubts h_t_vals h_t_waits h_t_fresh h_t_freshMany : Nat) (sz : Nat) (t_trace : Int64) (t_typed : Int32) (t_when : Int64) (t_then : Int64) (t_at : Int32) (t_token : Int32) (t_start : Int32) (t_valMany : Int32) (t_waitMany : Int32) (t_open : Int32) (t_saying : Int64) (t_quarrel : Int32) (t_text : Nat → Int32) (t_vals : Nat → Int64) (t_waits : Nat → Int32) (t_fresh : Nat → Int64)  (o : Int32 × Int32 × Int64 × Int64 × Int32 × Int32 × Int32 × Int32 × Int32 × Int32 × Int64 × (Nat → Int64) × (Nat → Int32) × (Nat → Int64)) (ho : f_X8_question t_typed t_when t_then t_at t_token t_start t_valMany t_waitMany t_open t_saying t_text t_vals t_waits t_fresh = some o)  : Met l yX8_question wsX8_question ({ frames := 5, cells := 0, slots := 0, locals := 107 } : Room) (pcA G [.ref h_t] [(h_t, .inr (8, [.long t_trace, .ref h_t_text, .int t_typed, .ref h_t_said, .ref h_t_many, .long t_when, .long t_then, .ref h_t_grades, .ref h_t_doubts, .int t_at, .int t_token, .int t_start, .ref h_t_vals, .ref h_t_waits, .int t_valMany, .int t_waitMany, .int t_open, .long t_saying, .ref h_t_fresh, .ref h_t_freshMany, .int t_quarrel])), (h_t_text, .inl (G.2.1.2.1, 400, .inl t_text)), (h_t_vals, .inl (G.2.1.2.2, 410, .inr (.inl t_vals))), (h_t_waits, .inl (G.2.1.2.1, 410, .inl t_waits)), (h_t_fresh, .inl (G.2.1.2.2, 45, .inr (.inl t_fresh)))] sz) (qcI Unit G o.1 (fun _ => True) (fun _ => [(h_t, .inr (8, [.long t_trace, .ref h_t_text, .int o.2.1, .ref h_t_said, .ref h_t_many, .long o.2.2.1, .long o.2.2.2.1, .ref h_t_grades, .ref h_t_doubts, .int o.2.2.2.2.1, .int o.2.2.2.2.2.1, .int o.2.2.2.2.2.2.1, .ref h_t_vals, .ref h_t_waits, .int o.2.2.2.2.2.2.2.1, .int o.2.2.2.2.2.2.2.2.1, .int o.2.2.2.2.2.2.2.2.2.1, .long o.2.2.2.2.2.2.2.2.2.2.1, .ref h_t_fresh, .ref h_t_freshMany, .int t_quarrel])), (h_t_text, .inl (G.2.1.2.1, 400, .inl t_text)), (h_t_vals, .inl (G.2.1.2.2, 410, .inr (.inl o.2.2.2.2.2.2.2.2.2.2.2.1))), (h_t_waits, .inl (G.2.1.2.1, 410, .inl o.2.2.2.2.2.2.2.2.2.2.2.2.1)), (h_t_fresh, .inl (G.2.1.2.2, 45, .inr (.inl o.2.2.2.2.2.2.2.2.2.2.2.2.2)))]) (va_A [(h_t, .inr (8, [.long t_trace, .ref h_t_text, .int t_typed, .ref h_t_said, .ref h_t_many, .long t_when, .long t_then, .ref h_t_grades, .ref h_t_doubts, .int t_at, .int t_token, .int t_start, .ref h_t_vals, .ref h_t_waits, .int t_valMany, .int t_waitMany, .int t_open, .long t_saying, .ref h_t_fresh, .ref h_t_freshMany, .int t_quarrel])), (h_t_text, .inl (G.2.1.2.1, 400, .inl t_text)), (h_t_vals, .inl (G.2.1.2.2, 410, .inr (.inl t_vals))), (h_t_waits, .inl (G.2.1.2.1, 410, .inl t_waits)), (h_t_fresh, .inl (G.2.1.2.2, 45, .inr (.inl t_fresh)))] sz)) 0 0 (va_A [(h_t, .inr (8, [.long t_trace, .ref h_t_text, .int t_typed, .ref h_t_said, .ref h_t_many, .long t_when, .long t_then, .ref h_t_grades, .ref h_t_doubts, .int t_at, .int t_token, .int t_start, .ref h_t_vals, .ref h_t_waits, .int t_valMany, .int t_waitMany, .int t_open, .long t_saying, .ref h_t_fresh, .ref h_t_freshMany, .int t_quarrel])), (h_t_text, .inl (G.2.1.2.1, 400, .inl t_text)), (h_t_vals, .inl (G.2.1.2.2, 410, .inr (.inl t_vals))), (h_t_waits, .inl (G.2.1.2.1, 410, .inl t_waits)), (h_t_fresh, .inl (G.2.1.2.2, 45, .inr (.inl t_fresh)))] sz) := by
  refine Met.ofW (cc := cX8_question) (maxL := 3) (ret := (some .int)) (by decide) rfl ?_
  intro p e s m args below meth c s₁ B hml hv
  obtain ⟨rfl, hsz, hP, hg, hD0, hc⟩ := hv
  have hx := B.exec
  have hb := B.bytes
  have hr := B.returns
  have hts := atoms_spec (ws := wsX8_question) B.pre
  have hown : s.vm.findClass RX8 = some m.cls := findClass_of_methodNamed B.named
  have hlocks := B.notSynchronized
  subst hsz
  have hD := hD0.self (sz := s.heap.size)
  generalize hAe : va_A [(h_t, .inr (8, [.long t_trace, .ref h_t_text, .int t_typed, .ref h_t_said, .ref h_t_many, .long t_when, .long t_then, .ref h_t_grades, .ref h_t_doubts, .int t_at, .int t_token, .int t_start, .ref h_t_vals, .ref h_t_waits, .int t_valMany, .int t_waitMany, .int t_open, .long t_saying, .ref h_t_fresh, .ref h_t_freshMany, .int t_quarrel])), (h_t_text, .inl (G.2.1.2.1, 400, .inl t_text)), (h_t_vals, .inl (G.2.1.2.2, 410, .inr (.inl t_vals))), (h_t_waits, .inl (G.2.1.2.1, 410, .inl t_waits)), (h_t_fresh, .inl (G.2.1.2.2, 45, .inr (.inl t_fresh)))] s.heap.size = A at hD hc ⊢
  have hA : ∀ q : Nat, s.heap.size ≤ q → A q := fun q h => by rw [← hAe]; exact Or.inr h
  have hiX8 : ∀ w ∈ wsX80, w ∈ wsX8_question := by decide +kernel
  have hl := lv_entry ([.ref h_t]) (n := 3) (Nat.le_of_ble_eq_true rfl)
  rw [lg_entry_eq]
  generalize (lg_sl ([.ref h_t]) ++ List.replicate (3 - (lg_sl ([.ref h_t])).length) Slot.unset).toArray = ls at hl ⊢
  have hl : lv_has ls 3 [(0, .ref h_t)] := hl
  have hf := ho
  have hw_86 : ∀ (t_typed : Int32) (t_when : Int64) (t_then : Int64) (t_at : Int32) (t_token : Int32) (t_start : Int32) (t_valMany : Int32) (t_waitMany : Int32) (t_open : Int32) (t_saying : Int64) (t_vals : Nat → Int64) (t_waits : Nat → Int32) (t_fresh : Nat → Int64) (v1 : Int32) (s1 : Int64), jn_X8_question_86 t_text t_typed t_when t_then t_at t_token t_start t_valMany t_waitMany t_open t_saying t_vals t_waits t_fresh v1 s1 = some o → ∀ (H : Heap) (locs : List Loc), va_P G.1 vwCl [(h_t, .inr (8, [.long t_trace, .ref h_t_text, .int t_typed, .ref h_t_said, .ref h_t_many, .long t_when, .long t_then, .ref h_t_grades, .ref h_t_doubts, .int t_at, .int t_token, .int t_start, .ref h_t_vals, .ref h_t_waits, .int t_valMany, .int t_waitMany, .int t_open, .long t_saying, .ref h_t_fresh, .ref h_t_freshMany, .int t_quarrel])), (h_t_text, .inl (G.2.1.2.1, 400, .inl t_text)), (h_t_vals, .inl (G.2.1.2.2, 410, .inr (.inl t_vals))), (h_t_waits, .inl (G.2.1.2.1, 410, .inl t_waits)), (h_t_fresh, .inl (G.2.1.2.2, 45, .inr (.inl t_fresh)))] H → va_D A [(h_t, .inr (8, [.long t_trace, .ref h_t_text, .int t_typed, .ref h_t_said, .ref h_t_many, .long t_when, .long t_then, .ref h_t_grades, .ref h_t_doubts, .int t_at, .int t_token, .int t_start, .ref h_t_vals, .ref h_t_waits, .int t_valMany, .int t_waitMany, .int t_open, .long t_saying, .ref h_t_fresh, .ref h_t_freshMany, .int t_quarrel])), (h_t_text, .inl (G.2.1.2.1, 400, .inl t_text)), (h_t_vals, .inl (G.2.1.2.2, 410, .inr (.inl t_vals))), (h_t_waits, .inl (G.2.1.2.1, 410, .inl t_waits)), (h_t_fresh, .inl (G.2.1.2.2, 45, .inr (.inl t_fresh)))] → va_S A s.heap H locs → ∀ (ls : Array Slot), lv_has ls 3 [(0, .ref h_t), (1, .int v1)] → W p l e (headSpec wsX8_question ({ frames := 5, cells := 0, slots := 0, locals := 107 } : Room)).room s m ([.ref h_t] : List Value).toArray below meth c H locs 0 0 (MQ below (qcI Unit G o.1 (fun _ => True) (fun _ => [(h_t, .inr (8, [.long t_trace, .ref h_t_text, .int o.2.1, .ref h_t_said, .ref h_t_many, .long o.2.2.1, .long o.2.2.2.1, .ref h_t_grades, .ref h_t_doubts, .int o.2.2.2.2.1, .int o.2.2.2.2.2.1, .int o.2.2.2.2.2.2.1, .ref h_t_vals, .ref h_t_waits, .int o.2.2.2.2.2.2.2.1, .int o.2.2.2.2.2.2.2.2.1, .int o.2.2.2.2.2.2.2.2.2.1, .long o.2.2.2.2.2.2.2.2.2.2.1, .ref h_t_fresh, .ref h_t_freshMany, .int t_quarrel])), (h_t_text, .inl (G.2.1.2.1, 400, .inl t_text)), (h_t_vals, .inl (G.2.1.2.2, 410, .inr (.inl o.2.2.2.2.2.2.2.2.2.2.2.1))), (h_t_waits, .inl (G.2.1.2.1, 410, .inl o.2.2.2.2.2.2.2.2.2.2.2.2.1)), (h_t_fresh, .inl (G.2.1.2.2, 45, .inr (.inl o.2.2.2.2.2.2.2.2.2.2.2.2.2)))]) A) ([.ref h_t] : List Value).toArray s 0 0 A) (F0 m 86 ls [.long s1, .ref h_t]) := by
    intro t_typed t_when t_then t_at t_token t_start t_valMany t_waitMany t_open t_saying t_vals t_waits t_fresh v1 s1 hf H locs hP hD hS ls hl
    unfold jn_X8_question_86 at hf
    refine va_put (D := G.1) (ci := 8) (v := .long s1) (ty := .long) (C := RX8) (T := TX8) (N := 21) hx hb hts hiX8 tyX8 tyX8_ok nmX8 hown hg.1 hP hD hS 0 rfl rfl 5 (by decide) (hts (.fieldLink RX8 40 "AsARuleModel" "when" "J") (by decide +kernel)) (fun _ h9 => h9) rfl (by decide +kernel) rfl rfl (Nat.le_of_ble_eq_true rfl) dX8_question_86 (fun H locs hP hD hS => ?_)
    have hP : va_P G.1 vwCl [(h_t, .inr (8, [.long t_trace, .ref h_t_text, .int t_typed, .ref h_t_said, .ref h_t_many, .long s1, .long t_then, .ref h_t_grades, .ref h_t_doubts, .int t_at, .int t_token, .int t_start, .ref h_t_vals, .ref h_t_waits, .int t_valMany, .int t_waitMany, .int t_open, .long t_saying, .ref h_t_fresh, .ref h_t_freshMany, .int t_quarrel])), (h_t_text, .inl (G.2.1.2.1, 400, .inl t_text)), (h_t_vals, .inl (G.2.1.2.2, 410, .inr (.inl t_vals))), (h_t_waits, .inl (G.2.1.2.1, 410, .inl t_waits)), (h_t_fresh, .inl (G.2.1.2.2, 45, .inr (.inl t_fresh)))] H := hP
    have hD : va_D A [(h_t, .inr (8, [.long t_trace, .ref h_t_text, .int t_typed, .ref h_t_said, .ref h_t_many, .long s1, .long t_then, .ref h_t_grades, .ref h_t_doubts, .int t_at, .int t_token, .int t_start, .ref h_t_vals, .ref h_t_waits, .int t_valMany, .int t_waitMany, .int t_open, .long t_saying, .ref h_t_fresh, .ref h_t_freshMany, .int t_quarrel])), (h_t_text, .inl (G.2.1.2.1, 400, .inl t_text)), (h_t_vals, .inl (G.2.1.2.2, 410, .inr (.inl t_vals))), (h_t_waits, .inl (G.2.1.2.1, 410, .inl t_waits)), (h_t_fresh, .inl (G.2.1.2.2, 45, .inr (.inl t_fresh)))] := hD
    refine lv_aload_n hx hb dX8_question_89 rfl (lv_at hl 0 rfl) ?_
    refine lv_iload_n hx hb dX8_question_90 rfl (lv_at hl 1 rfl) ?_
    refine lv_if_eq (tgt := 104) hx hb dX8_question_91 (by decide) (fun c1 => ?_) (fun c1 => ?_)
    · have hf := it_t c1 hf
      refine lv_aload_n hx hb dX8_question_104 rfl (lv_at hl 0 rfl) ?_
      refine va_get (D := G.1) (ci := 8) (v := .long t_saying) (C := RX8) (T := TX8) (N := 21) hx hb hts hiX8 hown hg.1 hP 0 rfl rfl 17 (by decide) (hts (.fieldLink RX8 134 "AsARuleModel" "saying" "J") (by decide +kernel)) (fun _ h9 => h9) rfl dX8_question_105 ?_
      refine va_put (D := G.1) (ci := 8) (v := .long t_saying) (ty := .long) (C := RX8) (T := TX8) (N := 21) hx hb hts hiX8 tyX8 tyX8_ok nmX8 hown hg.1 hP hD hS 0 rfl rfl 6 (by decide) (hts (.fieldLink RX8 44 "AsARuleModel" "then" "J") (by decide +kernel)) (fun _ h9 => h9) rfl (by decide +kernel) rfl rfl (Nat.le_of_ble_eq_true rfl) dX8_question_108 (fun H locs hP hD hS => ?_)
      have hP : va_P G.1 vwCl [(h_t, .inr (8, [.long t_trace, .ref h_t_text, .int t_typed, .ref h_t_said, .ref h_t_many, .long s1, .long t_saying, .ref h_t_grades, .ref h_t_doubts, .int t_at, .int t_token, .int t_start, .ref h_t_vals, .ref h_t_waits, .int t_valMany, .int t_waitMany, .int t_open, .long t_saying, .ref h_t_fresh, .ref h_t_freshMany, .int t_quarrel])), (h_t_text, .inl (G.2.1.2.1, 400, .inl t_text)), (h_t_vals, .inl (G.2.1.2.2, 410, .inr (.inl t_vals))), (h_t_waits, .inl (G.2.1.2.1, 410, .inl t_waits)), (h_t_fresh, .inl (G.2.1.2.2, 45, .inr (.inl t_fresh)))] H := hP
      have hD : va_D A [(h_t, .inr (8, [.long t_trace, .ref h_t_text, .int t_typed, .ref h_t_said, .ref h_t_many, .long s1, .long t_saying, .ref h_t_grades, .ref h_t_doubts, .int t_at, .int t_token, .int t_start, .ref h_t_vals, .ref h_t_waits, .int t_valMany, .int t_waitMany, .int t_open, .long t_saying, .ref h_t_fresh, .ref h_t_freshMany, .int t_quarrel])), (h_t_text, .inl (G.2.1.2.1, 400, .inl t_text)), (h_t_vals, .inl (G.2.1.2.2, 410, .inr (.inl t_vals))), (h_t_waits, .inl (G.2.1.2.1, 410, .inl t_waits)), (h_t_fresh, .inl (G.2.1.2.2, 45, .inr (.inl t_fresh)))] := hD
      refine lv_aload_n hx hb dX8_question_111 rfl (lv_at hl 0 rfl) ?_
      refine lv_iconst (v := (0 : Int32)) hx hb dX8_question_112 (by decide) ?_
      refine va_put (D := G.1) (ci := 8) (v := .int (0 : Int32)) (ty := .int) (C := RX8) (T := TX8) (N := 21) hx hb hts hiX8 tyX8 tyX8_ok nmX8 hown hg.1 hP hD hS 0 rfl rfl 2 (by decide) (hts (.fieldLink RX8 59 "AsARuleModel" "typed" "I") (by decide +kernel)) (fun _ h9 => h9) rfl (by decide +kernel) rfl rfl (Nat.le_of_ble_eq_true rfl) dX8_question_113 (fun H locs hP hD hS => ?_)
      have hP : va_P G.1 vwCl [(h_t, .inr (8, [.long t_trace, .ref h_t_text, .int (0 : Int32), .ref h_t_said, .ref h_t_many, .long s1, .long t_saying, .ref h_t_grades, .ref h_t_doubts, .int t_at, .int t_token, .int t_start, .ref h_t_vals, .ref h_t_waits, .int t_valMany, .int t_waitMany, .int t_open, .long t_saying, .ref h_t_fresh, .ref h_t_freshMany, .int t_quarrel])), (h_t_text, .inl (G.2.1.2.1, 400, .inl t_text)), (h_t_vals, .inl (G.2.1.2.2, 410, .inr (.inl t_vals))), (h_t_waits, .inl (G.2.1.2.1, 410, .inl t_waits)), (h_t_fresh, .inl (G.2.1.2.2, 45, .inr (.inl t_fresh)))] H := hP
      have hD : va_D A [(h_t, .inr (8, [.long t_trace, .ref h_t_text, .int (0 : Int32), .ref h_t_said, .ref h_t_many, .long s1, .long t_saying, .ref h_t_grades, .ref h_t_doubts, .int t_at, .int t_token, .int t_start, .ref h_t_vals, .ref h_t_waits, .int t_valMany, .int t_waitMany, .int t_open, .long t_saying, .ref h_t_fresh, .ref h_t_freshMany, .int t_quarrel])), (h_t_text, .inl (G.2.1.2.1, 400, .inl t_text)), (h_t_vals, .inl (G.2.1.2.2, 410, .inr (.inl t_vals))), (h_t_waits, .inl (G.2.1.2.1, 410, .inl t_waits)), (h_t_fresh, .inl (G.2.1.2.2, 45, .inr (.inl t_fresh)))] := hD
      refine lv_iconst (v := (1 : Int32)) hx hb dX8_question_116 (by decide) ?_
      rw [← Option.some.inj hf]
      exact rt_i (u := ()) hx hb hr hlocks hP hD trivial hS dX8_question_117
    · have hf := it_f c1 hf
      refine lv_aload_n hx hb dX8_question_94 rfl (lv_at hl 0 rfl) ?_
      refine va_get (D := G.1) (ci := 8) (v := .ref h_t_fresh) (C := RX8) (T := TX8) (N := 21) hx hb hts hiX8 hown hg.1 hP 0 rfl rfl 18 (by decide) (hts (.fieldLink RX8 32 "AsARuleModel" "fresh" "[J") (by decide +kernel)) (fun _ h9 => h9) rfl dX8_question_95 ?_
      refine lv_bipush (v := (26 : Int32)) hx hb dX8_question_98 (by decide) ?_
      refine va_lald hx hb hg.1 hP 4 2 rfl rfl (ib_in (gd_t hf)) dX8_question_100 ?_
      have hf := gd_x hf
      refine lv_goto (tgt := 108) hx hb dX8_question_101 (by decide) ?_
      refine lv_topl (fun x2 ex2 => ?_)
      have hf := lt_n hf x2 ex2
      refine va_put (D := G.1) (ci := 8) (v := .long x2) (ty := .long) (C := RX8) (T := TX8) (N := 21) hx hb hts hiX8 tyX8 tyX8_ok nmX8 hown hg.1 hP hD hS 0 rfl rfl 6 (by decide) (hts (.fieldLink RX8 44 "AsARuleModel" "then" "J") (by decide +kernel)) (fun _ h9 => h9) rfl (by decide +kernel) rfl rfl (Nat.le_of_ble_eq_true rfl) dX8_question_108 (fun H locs hP hD hS => ?_)
      have hP : va_P G.1 vwCl [(h_t, .inr (8, [.long t_trace, .ref h_t_text, .int t_typed, .ref h_t_said, .ref h_t_many, .long s1, .long x2, .ref h_t_grades, .ref h_t_doubts, .int t_at, .int t_token, .int t_start, .ref h_t_vals, .ref h_t_waits, .int t_valMany, .int t_waitMany, .int t_open, .long t_saying, .ref h_t_fresh, .ref h_t_freshMany, .int t_quarrel])), (h_t_text, .inl (G.2.1.2.1, 400, .inl t_text)), (h_t_vals, .inl (G.2.1.2.2, 410, .inr (.inl t_vals))), (h_t_waits, .inl (G.2.1.2.1, 410, .inl t_waits)), (h_t_fresh, .inl (G.2.1.2.2, 45, .inr (.inl t_fresh)))] H := hP
      have hD : va_D A [(h_t, .inr (8, [.long t_trace, .ref h_t_text, .int t_typed, .ref h_t_said, .ref h_t_many, .long s1, .long x2, .ref h_t_grades, .ref h_t_doubts, .int t_at, .int t_token, .int t_start, .ref h_t_vals, .ref h_t_waits, .int t_valMany, .int t_waitMany, .int t_open, .long t_saying, .ref h_t_fresh, .ref h_t_freshMany, .int t_quarrel])), (h_t_text, .inl (G.2.1.2.1, 400, .inl t_text)), (h_t_vals, .inl (G.2.1.2.2, 410, .inr (.inl t_vals))), (h_t_waits, .inl (G.2.1.2.1, 410, .inl t_waits)), (h_t_fresh, .inl (G.2.1.2.2, 45, .inr (.inl t_fresh)))] := hD
      refine lv_aload_n hx hb dX8_question_111 rfl (lv_at hl 0 rfl) ?_
      refine lv_iconst (v := (0 : Int32)) hx hb dX8_question_112 (by decide) ?_
      refine va_put (D := G.1) (ci := 8) (v := .int (0 : Int32)) (ty := .int) (C := RX8) (T := TX8) (N := 21) hx hb hts hiX8 tyX8 tyX8_ok nmX8 hown hg.1 hP hD hS 0 rfl rfl 2 (by decide) (hts (.fieldLink RX8 59 "AsARuleModel" "typed" "I") (by decide +kernel)) (fun _ h9 => h9) rfl (by decide +kernel) rfl rfl (Nat.le_of_ble_eq_true rfl) dX8_question_113 (fun H locs hP hD hS => ?_)
      have hP : va_P G.1 vwCl [(h_t, .inr (8, [.long t_trace, .ref h_t_text, .int (0 : Int32), .ref h_t_said, .ref h_t_many, .long s1, .long x2, .ref h_t_grades, .ref h_t_doubts, .int t_at, .int t_token, .int t_start, .ref h_t_vals, .ref h_t_waits, .int t_valMany, .int t_waitMany, .int t_open, .long t_saying, .ref h_t_fresh, .ref h_t_freshMany, .int t_quarrel])), (h_t_text, .inl (G.2.1.2.1, 400, .inl t_text)), (h_t_vals, .inl (G.2.1.2.2, 410, .inr (.inl t_vals))), (h_t_waits, .inl (G.2.1.2.1, 410, .inl t_waits)), (h_t_fresh, .inl (G.2.1.2.2, 45, .inr (.inl t_fresh)))] H := hP
      have hD : va_D A [(h_t, .inr (8, [.long t_trace, .ref h_t_text, .int (0 : Int32), .ref h_t_said, .ref h_t_many, .long s1, .long x2, .ref h_t_grades, .ref h_t_doubts, .int t_at, .int t_token, .int t_start, .ref h_t_vals, .ref h_t_waits, .int t_valMany, .int t_waitMany, .int t_open, .long t_saying, .ref h_t_fresh, .ref h_t_freshMany, .int t_quarrel])), (h_t_text, .inl (G.2.1.2.1, 400, .inl t_text)), (h_t_vals, .inl (G.2.1.2.2, 410, .inr (.inl t_vals))), (h_t_waits, .inl (G.2.1.2.1, 410, .inl t_waits)), (h_t_fresh, .inl (G.2.1.2.2, 45, .inr (.inl t_fresh)))] := hD
      refine lv_iconst (v := (1 : Int32)) hx hb dX8_question_116 (by decide) ?_
      rw [← Option.some.inj hf]
      exact rt_i (u := ()) hx hb hr hlocks hP hD trivial hS dX8_question_117
  have hw_48 : ∀ (t_typed : Int32) (t_when : Int64) (t_then : Int64) (t_at : Int32) (t_token : Int32) (t_start : Int32) (t_valMany : Int32) (t_waitMany : Int32) (t_open : Int32) (t_saying : Int64) (t_vals : Nat → Int64) (t_waits : Nat → Int32) (t_fresh : Nat → Int64) (v1 : Int32) (s0 : Int32), jn_X8_question_48 t_text t_typed t_when t_then t_at t_token t_start t_valMany t_waitMany t_open t_saying t_vals t_waits t_fresh v1 s0 = some o → ∀ (H : Heap) (locs : List Loc), va_P G.1 vwCl [(h_t, .inr (8, [.long t_trace, .ref h_t_text, .int t_typed, .ref h_t_said, .ref h_t_many, .long t_when, .long t_then, .ref h_t_grades, .ref h_t_doubts, .int t_at, .int t_token, .int t_start, .ref h_t_vals, .ref h_t_waits, .int t_valMany, .int t_waitMany, .int t_open, .long t_saying, .ref h_t_fresh, .ref h_t_freshMany, .int t_quarrel])), (h_t_text, .inl (G.2.1.2.1, 400, .inl t_text)), (h_t_vals, .inl (G.2.1.2.2, 410, .inr (.inl t_vals))), (h_t_waits, .inl (G.2.1.2.1, 410, .inl t_waits)), (h_t_fresh, .inl (G.2.1.2.2, 45, .inr (.inl t_fresh)))] H → va_D A [(h_t, .inr (8, [.long t_trace, .ref h_t_text, .int t_typed, .ref h_t_said, .ref h_t_many, .long t_when, .long t_then, .ref h_t_grades, .ref h_t_doubts, .int t_at, .int t_token, .int t_start, .ref h_t_vals, .ref h_t_waits, .int t_valMany, .int t_waitMany, .int t_open, .long t_saying, .ref h_t_fresh, .ref h_t_freshMany, .int t_quarrel])), (h_t_text, .inl (G.2.1.2.1, 400, .inl t_text)), (h_t_vals, .inl (G.2.1.2.2, 410, .inr (.inl t_vals))), (h_t_waits, .inl (G.2.1.2.1, 410, .inl t_waits)), (h_t_fresh, .inl (G.2.1.2.2, 45, .inr (.inl t_fresh)))] → va_S A s.heap H locs → ∀ (ls : Array Slot), lv_has ls 3 [(0, .ref h_t), (1, .int v1)] → W p l e (headSpec wsX8_question ({ frames := 5, cells := 0, slots := 0, locals := 107 } : Room)).room s m ([.ref h_t] : List Value).toArray below meth c H locs 0 0 (MQ below (qcI Unit G o.1 (fun _ => True) (fun _ => [(h_t, .inr (8, [.long t_trace, .ref h_t_text, .int o.2.1, .ref h_t_said, .ref h_t_many, .long o.2.2.1, .long o.2.2.2.1, .ref h_t_grades, .ref h_t_doubts, .int o.2.2.2.2.1, .int o.2.2.2.2.2.1, .int o.2.2.2.2.2.2.1, .ref h_t_vals, .ref h_t_waits, .int o.2.2.2.2.2.2.2.1, .int o.2.2.2.2.2.2.2.2.1, .int o.2.2.2.2.2.2.2.2.2.1, .long o.2.2.2.2.2.2.2.2.2.2.1, .ref h_t_fresh, .ref h_t_freshMany, .int t_quarrel])), (h_t_text, .inl (G.2.1.2.1, 400, .inl t_text)), (h_t_vals, .inl (G.2.1.2.2, 410, .inr (.inl o.2.2.2.2.2.2.2.2.2.2.2.1))), (h_t_waits, .inl (G.2.1.2.1, 410, .inl o.2.2.2.2.2.2.2.2.2.2.2.2.1)), (h_t_fresh, .inl (G.2.1.2.2, 45, .inr (.inl o.2.2.2.2.2.2.2.2.2.2.2.2.2)))]) A) ([.ref h_t] : List Value).toArray s 0 0 A) (F0 m 48 ls [.int s0]) := by
    intro t_typed t_when t_then t_at t_token t_start t_valMany t_waitMany t_open t_saying t_vals t_waits t_fresh v1 s0 hf H locs hP hD hS ls hl
    unfold jn_X8_question_48 at hf
    refine lv_istore_n (lv' := [(2, .int s0), (0, .ref h_t), (1, .int v1)]) hx hb dX8_question_48 rfl hl (by decide) rfl (fun ls hl => ?_)
    refine lv_iload_n hx hb dX8_question_49 rfl (lv_at hl 0 rfl) ?_
    refine lv_if_eq (tgt := 60) hx hb dX8_question_50 (by decide) (fun c3 => ?_) (fun c3 => ?_)
    · have hf := it_t c3 hf
      refine lv_bipush (v := (-10 : Int32)) hx hb dX8_question_60 (by decide) ?_
      refine lv_aload_n hx hb dX8_question_62 rfl (lv_at hl 1 rfl) ?_
      refine va_get (D := G.1) (ci := 8) (v := .int t_start) (C := RX8) (T := TX8) (N := 21) hx hb hts hiX8 hown hg.1 hP 0 rfl rfl 11 (by decide) (hts (.fieldLink RX8 71 "AsARuleModel" "start" "I") (by decide +kernel)) (fun _ h9 => h9) rfl dX8_question_63 ?_
      refine lv_isub hx hb dX8_question_66 ?_
      rw [← Option.some.inj hf]
      exact rt_i (u := ()) hx hb hr hlocks hP hD trivial hS dX8_question_67
    · have hf := it_f c3 hf
      refine lv_aload_n hx hb dX8_question_53 rfl (lv_at hl 1 rfl) ?_
      refine va_get (D := G.1) (ci := 8) (v := .int t_token) (C := RX8) (T := TX8) (N := 21) hx hb hts hiX8 hown hg.1 hP 0 rfl rfl 10 (by decide) (hts (.fieldLink RX8 89 "AsARuleModel" "token" "I") (by decide +kernel)) (fun _ h9 => h9) rfl dX8_question_54 ?_
      refine lv_if_eq (tgt := 68) hx hb dX8_question_57 (by decide) (fun c4 => ?_) (fun c4 => ?_)
      · have hf := it_t c4 hf
        refine lv_aload_n hx hb dX8_question_68 rfl (lv_at hl 1 rfl) ?_
        refine lv_iload_n hx hb dX8_question_69 rfl (lv_at hl 2 rfl) ?_
        refine lv_if_eq (tgt := 83) hx hb dX8_question_70 (by decide) (fun c5 => ?_) (fun c5 => ?_)
        · have hf := it_t c5 hf
          refine lv_ldc2 (v := (-1 : Int64)) hx hb hown (hts (.constantLong RX8 38 (-1 : Int64)) (by decide +kernel)) dX8_question_83 ?_
          exact hw_86 t_typed t_when t_then t_at t_token t_start t_valMany t_waitMany t_open t_saying t_vals t_waits t_fresh v1 (-1 : Int64) hf _ _ hP hD hS _ (lv_sub hl [1, 2] rfl)
        · have hf := it_f c5 hf
          refine lv_aload_n hx hb dX8_question_73 rfl (lv_at hl 1 rfl) ?_
          refine va_get (D := G.1) (ci := 8) (v := .ref h_t_fresh) (C := RX8) (T := TX8) (N := 21) hx hb hts hiX8 hown hg.1 hP 0 rfl rfl 18 (by decide) (hts (.fieldLink RX8 32 "AsARuleModel" "fresh" "[J") (by decide +kernel)) (fun _ h9 => h9) rfl dX8_question_74 ?_
          refine lv_bipush (v := (17 : Int32)) hx hb dX8_question_77 (by decide) ?_
          refine va_lald hx hb hg.1 hP 4 2 rfl rfl (ib_in (gd_t hf)) dX8_question_79 ?_
          have hf := gd_x hf
          refine lv_goto (tgt := 86) hx hb dX8_question_80 (by decide) ?_
          exact hw_86 t_typed t_when t_then t_at t_token t_start t_valMany t_waitMany t_open t_saying t_vals t_waits t_fresh v1 (t_fresh (17 : Int32).toNatClampNeg) hf _ _ hP hD hS _ (lv_sub hl [1, 2] rfl)
      · have hf := it_f c4 hf
        refine lv_bipush (v := (-10 : Int32)) hx hb dX8_question_60 (by decide) ?_
        refine lv_aload_n hx hb dX8_question_62 rfl (lv_at hl 1 rfl) ?_
        refine va_get (D := G.1) (ci := 8) (v := .int t_start) (C := RX8) (T := TX8) (N := 21) hx hb hts hiX8 hown hg.1 hP 0 rfl rfl 11 (by decide) (hts (.fieldLink RX8 71 "AsARuleModel" "start" "I") (by decide +kernel)) (fun _ h9 => h9) rfl dX8_question_63 ?_
        refine lv_isub hx hb dX8_question_66 ?_
        rw [← Option.some.inj hf]
        exact rt_i (u := ()) hx hb hr hlocks hP hD trivial hS dX8_question_67
  have hw_31 : ∀ (t_typed : Int32) (t_when : Int64) (t_then : Int64) (t_at : Int32) (t_token : Int32) (t_start : Int32) (t_valMany : Int32) (t_waitMany : Int32) (t_open : Int32) (t_saying : Int64) (t_vals : Nat → Int64) (t_waits : Nat → Int32) (t_fresh : Nat → Int64) (v1 : Int32), jn_X8_question_31 t_text t_typed t_when t_then t_at t_token t_start t_valMany t_waitMany t_open t_saying t_vals t_waits t_fresh v1 = some o → ∀ (H : Heap) (locs : List Loc), va_P G.1 vwCl [(h_t, .inr (8, [.long t_trace, .ref h_t_text, .int t_typed, .ref h_t_said, .ref h_t_many, .long t_when, .long t_then, .ref h_t_grades, .ref h_t_doubts, .int t_at, .int t_token, .int t_start, .ref h_t_vals, .ref h_t_waits, .int t_valMany, .int t_waitMany, .int t_open, .long t_saying, .ref h_t_fresh, .ref h_t_freshMany, .int t_quarrel])), (h_t_text, .inl (G.2.1.2.1, 400, .inl t_text)), (h_t_vals, .inl (G.2.1.2.2, 410, .inr (.inl t_vals))), (h_t_waits, .inl (G.2.1.2.1, 410, .inl t_waits)), (h_t_fresh, .inl (G.2.1.2.2, 45, .inr (.inl t_fresh)))] H → va_D A [(h_t, .inr (8, [.long t_trace, .ref h_t_text, .int t_typed, .ref h_t_said, .ref h_t_many, .long t_when, .long t_then, .ref h_t_grades, .ref h_t_doubts, .int t_at, .int t_token, .int t_start, .ref h_t_vals, .ref h_t_waits, .int t_valMany, .int t_waitMany, .int t_open, .long t_saying, .ref h_t_fresh, .ref h_t_freshMany, .int t_quarrel])), (h_t_text, .inl (G.2.1.2.1, 400, .inl t_text)), (h_t_vals, .inl (G.2.1.2.2, 410, .inr (.inl t_vals))), (h_t_waits, .inl (G.2.1.2.1, 410, .inl t_waits)), (h_t_fresh, .inl (G.2.1.2.2, 45, .inr (.inl t_fresh)))] → va_S A s.heap H locs → ∀ (ls : Array Slot), lv_has ls 3 [(0, .ref h_t), (1, .int v1)] → W p l e (headSpec wsX8_question ({ frames := 5, cells := 0, slots := 0, locals := 107 } : Room)).room s m ([.ref h_t] : List Value).toArray below meth c H locs 0 0 (MQ below (qcI Unit G o.1 (fun _ => True) (fun _ => [(h_t, .inr (8, [.long t_trace, .ref h_t_text, .int o.2.1, .ref h_t_said, .ref h_t_many, .long o.2.2.1, .long o.2.2.2.1, .ref h_t_grades, .ref h_t_doubts, .int o.2.2.2.2.1, .int o.2.2.2.2.2.1, .int o.2.2.2.2.2.2.1, .ref h_t_vals, .ref h_t_waits, .int o.2.2.2.2.2.2.2.1, .int o.2.2.2.2.2.2.2.2.1, .int o.2.2.2.2.2.2.2.2.2.1, .long o.2.2.2.2.2.2.2.2.2.2.1, .ref h_t_fresh, .ref h_t_freshMany, .int t_quarrel])), (h_t_text, .inl (G.2.1.2.1, 400, .inl t_text)), (h_t_vals, .inl (G.2.1.2.2, 410, .inr (.inl o.2.2.2.2.2.2.2.2.2.2.2.1))), (h_t_waits, .inl (G.2.1.2.1, 410, .inl o.2.2.2.2.2.2.2.2.2.2.2.2.1)), (h_t_fresh, .inl (G.2.1.2.2, 45, .inr (.inl o.2.2.2.2.2.2.2.2.2.2.2.2.2)))]) A) ([.ref h_t] : List Value).toArray s 0 0 A) (F0 m 31 ls []) := by
    intro t_typed t_when t_then t_at t_token t_start t_valMany t_waitMany t_open t_saying t_vals t_waits t_fresh v1 hf H locs hP hD hS ls hl
    unfold jn_X8_question_31 at hf
    refine lv_iload_n hx hb dX8_question_31 rfl (lv_at hl 1 rfl) ?_
    refine lv_if_eq (tgt := 44) hx hb dX8_question_32 (by decide) (fun c6 => ?_) (fun c6 => ?_)
    · have hf := it_t c6 hf
      refine lv_aload_n hx hb dX8_question_44 rfl (lv_at hl 0 rfl) ?_
      obtain ⟨o7, ho7, hf⟩ := bd_e hf
      refine af_i (wr := [(h_t_fresh, .inl (G.2.1.2.2, 45, .inr (.inl t_fresh)))]) (va_runV (As := []) (rest := []) ⟨hx, hb, hml, hown, hts⟩ (c_X8_says l G h_t h_t_text h_t_said h_t_many h_t_grades h_t_doubts h_t_vals h_t_waits h_t_fresh h_t_freshMany H.size t_trace t_typed t_when t_then t_at t_token t_start t_valMany t_waitMany t_open t_saying t_quarrel t_text t_vals t_waits o7 ho7) (cwV 0 hts gX8_question_X8_says rfl rfl rfl (by decide +kernel) ⟨Nat.le_of_ble_eq_true rfl, Nat.le_of_ble_eq_true rfl⟩) (pcA_preV hg hc hP hD hS hA [0, 1, 2, 3] rfl (by decide) (q0 := 0) (ci := 8) rfl rfl rfl) rfl rfl hl.1 rfl (lv_room (Nat.le_of_ble_eq_true rfl)) dX8_question_45 ⟨Nat.zero_le _, Nat.zero_le _⟩) hP hD hS hA [0, 1, 2, 3] [4] rfl rfl (by decide) (by decide) (fun _ H locs _ hP hD hS => ?_)
      have hP : va_P G.1 vwCl [(h_t, .inr (8, [.long t_trace, .ref h_t_text, .int t_typed, .ref h_t_said, .ref h_t_many, .long t_when, .long t_then, .ref h_t_grades, .ref h_t_doubts, .int o7.2.1, .int o7.2.2.1, .int o7.2.2.2.1, .ref h_t_vals, .ref h_t_waits, .int o7.2.2.2.2.1, .int o7.2.2.2.2.2.1, .int o7.2.2.2.2.2.2.1, .long o7.2.2.2.2.2.2.2.1, .ref h_t_fresh, .ref h_t_freshMany, .int t_quarrel])), (h_t_text, .inl (G.2.1.2.1, 400, .inl t_text)), (h_t_vals, .inl (G.2.1.2.2, 410, .inr (.inl o7.2.2.2.2.2.2.2.2.1))), (h_t_waits, .inl (G.2.1.2.1, 410, .inl o7.2.2.2.2.2.2.2.2.2)), (h_t_fresh, .inl (G.2.1.2.2, 45, .inr (.inl t_fresh)))] H := hP.sub [1, 2, 3, 4, 0] rfl
      have hD : va_D A [(h_t, .inr (8, [.long t_trace, .ref h_t_text, .int t_typed, .ref h_t_said, .ref h_t_many, .long t_when, .long t_then, .ref h_t_grades, .ref h_t_doubts, .int o7.2.1, .int o7.2.2.1, .int o7.2.2.2.1, .ref h_t_vals, .ref h_t_waits, .int o7.2.2.2.2.1, .int o7.2.2.2.2.2.1, .int o7.2.2.2.2.2.2.1, .long o7.2.2.2.2.2.2.2.1, .ref h_t_fresh, .ref h_t_freshMany, .int t_quarrel])), (h_t_text, .inl (G.2.1.2.1, 400, .inl t_text)), (h_t_vals, .inl (G.2.1.2.2, 410, .inr (.inl o7.2.2.2.2.2.2.2.2.1))), (h_t_waits, .inl (G.2.1.2.1, 410, .inl o7.2.2.2.2.2.2.2.2.2)), (h_t_fresh, .inl (G.2.1.2.2, 45, .inr (.inl t_fresh)))] := hD.sub [1, 2, 3, 4, 0] (by decide) rfl
      exact hw_48 t_typed t_when t_then o7.2.1 o7.2.2.1 o7.2.2.2.1 o7.2.2.2.2.1 o7.2.2.2.2.2.1 o7.2.2.2.2.2.2.1 o7.2.2.2.2.2.2.2.1 o7.2.2.2.2.2.2.2.2.1 o7.2.2.2.2.2.2.2.2.2 t_fresh v1 o7.1 hf _ _ hP hD hS _ hl
    · have hf := it_f c6 hf
      refine lv_aload_n hx hb dX8_question_35 rfl (lv_at hl 0 rfl) ?_
      refine lv_bipush (v := (8 : Int32)) hx hb dX8_question_36 (by decide) ?_
      obtain ⟨o8, ho8, hf⟩ := bd_e hf
      refine af_i (wr := []) (va_runV (As := [.int (8 : Int32)]) (rest := []) ⟨hx, hb, hml, hown, hts⟩ (c_X8_rules l G h_t h_t_text h_t_said h_t_many h_t_grades h_t_doubts h_t_vals h_t_waits h_t_fresh h_t_freshMany H.size t_trace t_typed t_when t_then t_at t_token t_start t_valMany t_waitMany t_open t_saying t_quarrel t_text t_vals t_waits t_fresh (8 : Int32) o8 ho8) (cwV 1 hts gX8_question_X8_rules rfl rfl rfl (by decide +kernel) ⟨Nat.le_of_ble_eq_true rfl, Nat.le_of_ble_eq_true rfl⟩) (pcA_preV hg hc hP hD hS hA [0, 1, 2, 3, 4] rfl (by decide) (q0 := 0) (ci := 8) rfl rfl rfl) rfl rfl hl.1 rfl (lv_room (Nat.le_of_ble_eq_true rfl)) dX8_question_38 ⟨Nat.zero_le _, Nat.zero_le _⟩) hP hD hS hA [0, 1, 2, 3, 4] [] rfl rfl (by decide) (by decide) (fun _ H locs _ hP hD hS => ?_)
      have hP : va_P G.1 vwCl [(h_t, .inr (8, [.long t_trace, .ref h_t_text, .int t_typed, .ref h_t_said, .ref h_t_many, .long t_when, .long t_then, .ref h_t_grades, .ref h_t_doubts, .int o8.2.1, .int o8.2.2.1, .int o8.2.2.2.1, .ref h_t_vals, .ref h_t_waits, .int o8.2.2.2.2.1, .int o8.2.2.2.2.2.1, .int o8.2.2.2.2.2.2.1, .long o8.2.2.2.2.2.2.2.1, .ref h_t_fresh, .ref h_t_freshMany, .int t_quarrel])), (h_t_text, .inl (G.2.1.2.1, 400, .inl t_text)), (h_t_vals, .inl (G.2.1.2.2, 410, .inr (.inl o8.2.2.2.2.2.2.2.2.1))), (h_t_waits, .inl (G.2.1.2.1, 410, .inl o8.2.2.2.2.2.2.2.2.2.1)), (h_t_fresh, .inl (G.2.1.2.2, 45, .inr (.inl o8.2.2.2.2.2.2.2.2.2.2)))] H := hP
      have hD : va_D A [(h_t, .inr (8, [.long t_trace, .ref h_t_text, .int t_typed, .ref h_t_said, .ref h_t_many, .long t_when, .long t_then, .ref h_t_grades, .ref h_t_doubts, .int o8.2.1, .int o8.2.2.1, .int o8.2.2.2.1, .ref h_t_vals, .ref h_t_waits, .int o8.2.2.2.2.1, .int o8.2.2.2.2.2.1, .int o8.2.2.2.2.2.2.1, .long o8.2.2.2.2.2.2.2.1, .ref h_t_fresh, .ref h_t_freshMany, .int t_quarrel])), (h_t_text, .inl (G.2.1.2.1, 400, .inl t_text)), (h_t_vals, .inl (G.2.1.2.2, 410, .inr (.inl o8.2.2.2.2.2.2.2.2.1))), (h_t_waits, .inl (G.2.1.2.1, 410, .inl o8.2.2.2.2.2.2.2.2.2.1)), (h_t_fresh, .inl (G.2.1.2.2, 45, .inr (.inl o8.2.2.2.2.2.2.2.2.2.2)))] := hD
      refine lv_goto (tgt := 48) hx hb dX8_question_41 (by decide) ?_
      exact hw_48 t_typed t_when t_then o8.2.1 o8.2.2.1 o8.2.2.2.1 o8.2.2.2.2.1 o8.2.2.2.2.2.1 o8.2.2.2.2.2.2.1 o8.2.2.2.2.2.2.2.1 o8.2.2.2.2.2.2.2.2.1 o8.2.2.2.2.2.2.2.2.2.1 o8.2.2.2.2.2.2.2.2.2.2 v1 o8.1 hf _ _ hP hD hS _ hl
  have hw_22 : ∀ (t_typed : Int32) (t_when : Int64) (t_then : Int64) (t_at : Int32) (t_token : Int32) (t_start : Int32) (t_valMany : Int32) (t_waitMany : Int32) (t_open : Int32) (t_saying : Int64) (t_vals : Nat → Int64) (t_waits : Nat → Int32) (t_fresh : Nat → Int64) (s0 : Int32), jn_X8_question_22 t_text t_typed t_when t_then t_at t_token t_start t_valMany t_waitMany t_open t_saying t_vals t_waits t_fresh s0 = some o → ∀ (H : Heap) (locs : List Loc), va_P G.1 vwCl [(h_t, .inr (8, [.long t_trace, .ref h_t_text, .int t_typed, .ref h_t_said, .ref h_t_many, .long t_when, .long t_then, .ref h_t_grades, .ref h_t_doubts, .int t_at, .int t_token, .int t_start, .ref h_t_vals, .ref h_t_waits, .int t_valMany, .int t_waitMany, .int t_open, .long t_saying, .ref h_t_fresh, .ref h_t_freshMany, .int t_quarrel])), (h_t_text, .inl (G.2.1.2.1, 400, .inl t_text)), (h_t_vals, .inl (G.2.1.2.2, 410, .inr (.inl t_vals))), (h_t_waits, .inl (G.2.1.2.1, 410, .inl t_waits)), (h_t_fresh, .inl (G.2.1.2.2, 45, .inr (.inl t_fresh)))] H → va_D A [(h_t, .inr (8, [.long t_trace, .ref h_t_text, .int t_typed, .ref h_t_said, .ref h_t_many, .long t_when, .long t_then, .ref h_t_grades, .ref h_t_doubts, .int t_at, .int t_token, .int t_start, .ref h_t_vals, .ref h_t_waits, .int t_valMany, .int t_waitMany, .int t_open, .long t_saying, .ref h_t_fresh, .ref h_t_freshMany, .int t_quarrel])), (h_t_text, .inl (G.2.1.2.1, 400, .inl t_text)), (h_t_vals, .inl (G.2.1.2.2, 410, .inr (.inl t_vals))), (h_t_waits, .inl (G.2.1.2.1, 410, .inl t_waits)), (h_t_fresh, .inl (G.2.1.2.2, 45, .inr (.inl t_fresh)))] → va_S A s.heap H locs → ∀ (ls : Array Slot), lv_has ls 3 [(0, .ref h_t)] → W p l e (headSpec wsX8_question ({ frames := 5, cells := 0, slots := 0, locals := 107 } : Room)).room s m ([.ref h_t] : List Value).toArray below meth c H locs 0 0 (MQ below (qcI Unit G o.1 (fun _ => True) (fun _ => [(h_t, .inr (8, [.long t_trace, .ref h_t_text, .int o.2.1, .ref h_t_said, .ref h_t_many, .long o.2.2.1, .long o.2.2.2.1, .ref h_t_grades, .ref h_t_doubts, .int o.2.2.2.2.1, .int o.2.2.2.2.2.1, .int o.2.2.2.2.2.2.1, .ref h_t_vals, .ref h_t_waits, .int o.2.2.2.2.2.2.2.1, .int o.2.2.2.2.2.2.2.2.1, .int o.2.2.2.2.2.2.2.2.2.1, .long o.2.2.2.2.2.2.2.2.2.2.1, .ref h_t_fresh, .ref h_t_freshMany, .int t_quarrel])), (h_t_text, .inl (G.2.1.2.1, 400, .inl t_text)), (h_t_vals, .inl (G.2.1.2.2, 410, .inr (.inl o.2.2.2.2.2.2.2.2.2.2.2.1))), (h_t_waits, .inl (G.2.1.2.1, 410, .inl o.2.2.2.2.2.2.2.2.2.2.2.2.1)), (h_t_fresh, .inl (G.2.1.2.2, 45, .inr (.inl o.2.2.2.2.2.2.2.2.2.2.2.2.2)))]) A) ([.ref h_t] : List Value).toArray s 0 0 A) (F0 m 22 ls [.int s0]) := by
    intro t_typed t_when t_then t_at t_token t_start t_valMany t_waitMany t_open t_saying t_vals t_waits t_fresh s0 hf H locs hP hD hS ls hl
    unfold jn_X8_question_22 at hf
    refine lv_istore_n (lv' := [(1, .int s0), (0, .ref h_t)]) hx hb dX8_question_22 rfl hl (by decide) rfl (fun ls hl => ?_)
    refine lv_iload_n hx hb dX8_question_23 rfl (lv_at hl 0 rfl) ?_
    refine lv_if_eq (tgt := 31) hx hb dX8_question_24 (by decide) (fun c9 => ?_) (fun c9 => ?_)
    · have hf := it_t c9 hf
      exact hw_31 t_typed t_when t_then t_at t_token t_start t_valMany t_waitMany t_open t_saying t_vals t_waits t_fresh s0 hf _ _ hP hD hS _ (lv_sub hl [1, 0] rfl)
    · have hf := it_f c9 hf
      refine lv_aload_n hx hb dX8_question_27 rfl (lv_at hl 1 rfl) ?_
      obtain ⟨o10, ho10, hf⟩ := bd_e hf
      refine af_v (wr := [(h_t_vals, .inl (G.2.1.2.2, 410, .inr (.inl t_vals))), (h_t_waits, .inl (G.2.1.2.1, 410, .inl t_waits)), (h_t_fresh, .inl (G.2.1.2.2, 45, .inr (.inl t_fresh)))]) (va_runV (As := []) (rest := []) ⟨hx, hb, hml, hown, hts⟩ (c_X8_scans l G h_t h_t_text h_t_said h_t_many h_t_grades h_t_doubts h_t_vals h_t_waits h_t_fresh h_t_freshMany H.size t_trace t_typed t_when t_then t_at t_token t_start t_valMany t_waitMany t_open t_saying t_quarrel t_text o10 ho10) (cwV 0 hts gX8_question_X8_scans rfl rfl rfl (by decide +kernel) ⟨Nat.le_of_ble_eq_true rfl, Nat.le_of_ble_eq_true rfl⟩) (pcA_preV hg hc hP hD hS hA [0, 1] rfl (by decide) (q0 := 0) (ci := 8) rfl rfl rfl) rfl rfl hl.1 rfl (lv_room (Nat.le_of_ble_eq_true rfl)) dX8_question_28 ⟨Nat.zero_le _, Nat.zero_le _⟩) hP hD hS hA [0, 1] [2, 3, 4] rfl rfl (by decide) (by decide) (fun _ H locs _ hP hD hS => ?_)
      have hP : va_P G.1 vwCl [(h_t, .inr (8, [.long t_trace, .ref h_t_text, .int t_typed, .ref h_t_said, .ref h_t_many, .long t_when, .long t_then, .ref h_t_grades, .ref h_t_doubts, .int o10.1, .int o10.2.1, .int o10.2.2, .ref h_t_vals, .ref h_t_waits, .int t_valMany, .int t_waitMany, .int t_open, .long t_saying, .ref h_t_fresh, .ref h_t_freshMany, .int t_quarrel])), (h_t_text, .inl (G.2.1.2.1, 400, .inl t_text)), (h_t_vals, .inl (G.2.1.2.2, 410, .inr (.inl t_vals))), (h_t_waits, .inl (G.2.1.2.1, 410, .inl t_waits)), (h_t_fresh, .inl (G.2.1.2.2, 45, .inr (.inl t_fresh)))] H := hP.sub [3, 4, 0, 1, 2] rfl
      have hD : va_D A [(h_t, .inr (8, [.long t_trace, .ref h_t_text, .int t_typed, .ref h_t_said, .ref h_t_many, .long t_when, .long t_then, .ref h_t_grades, .ref h_t_doubts, .int o10.1, .int o10.2.1, .int o10.2.2, .ref h_t_vals, .ref h_t_waits, .int t_valMany, .int t_waitMany, .int t_open, .long t_saying, .ref h_t_fresh, .ref h_t_freshMany, .int t_quarrel])), (h_t_text, .inl (G.2.1.2.1, 400, .inl t_text)), (h_t_vals, .inl (G.2.1.2.2, 410, .inr (.inl t_vals))), (h_t_waits, .inl (G.2.1.2.1, 410, .inl t_waits)), (h_t_fresh, .inl (G.2.1.2.2, 45, .inr (.inl t_fresh)))] := hD.sub [3, 4, 0, 1, 2] (by decide) rfl
      exact hw_31 t_typed t_when t_then o10.1 o10.2.1 o10.2.2 t_valMany t_waitMany t_open t_saying t_vals t_waits t_fresh s0 hf _ _ hP hD hS _ (lv_sub hl [1, 0] rfl)
  unfold f_X8_question at hf
  refine en (fun H locs hP hD hS => ?_) hP hD
  refine lv_aload_n hx hb dX8_question_0 rfl (lv_at hl 0 rfl) ?_
  refine lv_iconst (v := (0 : Int32)) hx hb dX8_question_1 (by decide) ?_
  refine va_put (D := G.1) (ci := 8) (v := .int (0 : Int32)) (ty := .int) (C := RX8) (T := TX8) (N := 21) hx hb hts hiX8 tyX8 tyX8_ok nmX8 hown hg.1 hP hD hS 0 rfl rfl 9 (by decide) (hts (.fieldLink RX8 86 "AsARuleModel" "at" "I") (by decide +kernel)) (fun _ h9 => h9) rfl (by decide +kernel) rfl rfl (Nat.le_of_ble_eq_true rfl) dX8_question_2 (fun H locs hP hD hS => ?_)
  have hP : va_P G.1 vwCl [(h_t, .inr (8, [.long t_trace, .ref h_t_text, .int t_typed, .ref h_t_said, .ref h_t_many, .long t_when, .long t_then, .ref h_t_grades, .ref h_t_doubts, .int (0 : Int32), .int t_token, .int t_start, .ref h_t_vals, .ref h_t_waits, .int t_valMany, .int t_waitMany, .int t_open, .long t_saying, .ref h_t_fresh, .ref h_t_freshMany, .int t_quarrel])), (h_t_text, .inl (G.2.1.2.1, 400, .inl t_text)), (h_t_vals, .inl (G.2.1.2.2, 410, .inr (.inl t_vals))), (h_t_waits, .inl (G.2.1.2.1, 410, .inl t_waits)), (h_t_fresh, .inl (G.2.1.2.2, 45, .inr (.inl t_fresh)))] H := hP
  have hD : va_D A [(h_t, .inr (8, [.long t_trace, .ref h_t_text, .int t_typed, .ref h_t_said, .ref h_t_many, .long t_when, .long t_then, .ref h_t_grades, .ref h_t_doubts, .int (0 : Int32), .int t_token, .int t_start, .ref h_t_vals, .ref h_t_waits, .int t_valMany, .int t_waitMany, .int t_open, .long t_saying, .ref h_t_fresh, .ref h_t_freshMany, .int t_quarrel])), (h_t_text, .inl (G.2.1.2.1, 400, .inl t_text)), (h_t_vals, .inl (G.2.1.2.2, 410, .inr (.inl t_vals))), (h_t_waits, .inl (G.2.1.2.1, 410, .inl t_waits)), (h_t_fresh, .inl (G.2.1.2.2, 45, .inr (.inl t_fresh)))] := hD
  refine lv_aload_n hx hb dX8_question_5 rfl (lv_at hl 0 rfl) ?_
  obtain ⟨o11, ho11, hf⟩ := bd_e hf
  refine af_v (wr := [(h_t_vals, .inl (G.2.1.2.2, 410, .inr (.inl t_vals))), (h_t_waits, .inl (G.2.1.2.1, 410, .inl t_waits)), (h_t_fresh, .inl (G.2.1.2.2, 45, .inr (.inl t_fresh)))]) (va_runV (As := []) (rest := []) ⟨hx, hb, hml, hown, hts⟩ (c_X8_scans l G h_t h_t_text h_t_said h_t_many h_t_grades h_t_doubts h_t_vals h_t_waits h_t_fresh h_t_freshMany H.size t_trace t_typed t_when t_then (0 : Int32) t_token t_start t_valMany t_waitMany t_open t_saying t_quarrel t_text o11 ho11) (cwV 0 hts gX8_question_X8_scans rfl rfl rfl (by decide +kernel) ⟨Nat.le_of_ble_eq_true rfl, Nat.le_of_ble_eq_true rfl⟩) (pcA_preV hg hc hP hD hS hA [0, 1] rfl (by decide) (q0 := 0) (ci := 8) rfl rfl rfl) rfl rfl hl.1 rfl (lv_room (Nat.le_of_ble_eq_true rfl)) dX8_question_6 ⟨Nat.zero_le _, Nat.zero_le _⟩) hP hD hS hA [0, 1] [2, 3, 4] rfl rfl (by decide) (by decide) (fun _ H locs _ hP hD hS => ?_)
  have hP : va_P G.1 vwCl [(h_t, .inr (8, [.long t_trace, .ref h_t_text, .int t_typed, .ref h_t_said, .ref h_t_many, .long t_when, .long t_then, .ref h_t_grades, .ref h_t_doubts, .int o11.1, .int o11.2.1, .int o11.2.2, .ref h_t_vals, .ref h_t_waits, .int t_valMany, .int t_waitMany, .int t_open, .long t_saying, .ref h_t_fresh, .ref h_t_freshMany, .int t_quarrel])), (h_t_text, .inl (G.2.1.2.1, 400, .inl t_text)), (h_t_vals, .inl (G.2.1.2.2, 410, .inr (.inl t_vals))), (h_t_waits, .inl (G.2.1.2.1, 410, .inl t_waits)), (h_t_fresh, .inl (G.2.1.2.2, 45, .inr (.inl t_fresh)))] H := hP.sub [3, 4, 0, 1, 2] rfl
  have hD : va_D A [(h_t, .inr (8, [.long t_trace, .ref h_t_text, .int t_typed, .ref h_t_said, .ref h_t_many, .long t_when, .long t_then, .ref h_t_grades, .ref h_t_doubts, .int o11.1, .int o11.2.1, .int o11.2.2, .ref h_t_vals, .ref h_t_waits, .int t_valMany, .int t_waitMany, .int t_open, .long t_saying, .ref h_t_fresh, .ref h_t_freshMany, .int t_quarrel])), (h_t_text, .inl (G.2.1.2.1, 400, .inl t_text)), (h_t_vals, .inl (G.2.1.2.2, 410, .inr (.inl t_vals))), (h_t_waits, .inl (G.2.1.2.1, 410, .inl t_waits)), (h_t_fresh, .inl (G.2.1.2.2, 45, .inr (.inl t_fresh)))] := hD.sub [3, 4, 0, 1, 2] (by decide) rfl
  refine lv_aload_n hx hb dX8_question_9 rfl (lv_at hl 0 rfl) ?_
  refine va_get (D := G.1) (ci := 8) (v := .int o11.2.1) (C := RX8) (T := TX8) (N := 21) hx hb hts hiX8 hown hg.1 hP 0 rfl rfl 10 (by decide) (hts (.fieldLink RX8 89 "AsARuleModel" "token" "I") (by decide +kernel)) (fun _ h9 => h9) rfl dX8_question_10 ?_
  refine lv_iconst (v := (3 : Int32)) hx hb dX8_question_13 (by decide) ?_
  refine lv_icmp_ne (tgt := 21) hx hb dX8_question_14 (by decide) (fun c12 => ?_) (fun c12 => ?_)
  · have hf := it_f c12 hf
    refine lv_iconst (v := (0 : Int32)) hx hb dX8_question_21 (by decide) ?_
    exact hw_22 t_typed t_when t_then o11.1 o11.2.1 o11.2.2 t_valMany t_waitMany t_open t_saying t_vals t_waits t_fresh (0 : Int32) hf _ _ hP hD hS _ hl
  · have hf := it_t c12 hf
    refine lv_iconst (v := (1 : Int32)) hx hb dX8_question_17 (by decide) ?_
    refine lv_goto (tgt := 22) hx hb dX8_question_18 (by decide) ?_
    exact hw_22 t_typed t_when t_then o11.1 o11.2.1 o11.2.2 t_valMany t_waitMany t_open t_saying t_vals t_waits t_fresh (1 : Int32) hf _ _ hP hD hS _ hl
-- method X8_worlds
def jn_X8_worlds_31 (t_when : Int64) (t_then : Int64) (t_said : Nat → Int64) (t_many : Nat → Int32) (a1 : Int32) (a2 : Int32) : Option (Int64) :=
  bd (f_X8_in ((a1).toInt64) (0 : Int64) (4 : Int64)) (fun o1 => if o1 = (0 : Int32) then some ((0 : Int64)) else gd (ib a1 5) (bd (f_X8_in ((a2).toInt64) (0 : Int64) ((((t_many a1.toNatClampNeg) - (1 : Int32))).toInt64)) (fun o3 => if o3 = (0 : Int32) then some ((0 : Int64)) else gd (ib (((9 : Int32) * a1) + a2) 45) (some ((t_said (((9 : Int32) * a1) + a2).toNatClampNeg))))))
def f_X8_worlds (t_when : Int64) (t_then : Int64) (t_said : Nat → Int64) (t_many : Nat → Int32) (a1 : Int32) (a2 : Int32) : Option (Int64) :=
  if a1 = (5 : Int32) then bd (f_X8_in ((a2).toInt64) (0 : Int64) (1 : Int64)) (fun o6 => if o6 = (0 : Int32) then jn_X8_worlds_31 t_when t_then t_said t_many a1 a2 else if a2 = (0 : Int32) then some (t_when) else some (t_then)) else jn_X8_worlds_31 t_when t_then t_said t_many a1 a2
set_option maxHeartbeats 4000000 in
set_option maxRecDepth 100000 in
theorem c_X8_worlds (l : Launch) (G : GG) (h_t h_t_text h_t_said h_t_many h_t_grades h_t_doubts h_t_vals h_t_waits h_t_fresh h_t_freshMany : Nat) (sz : Nat) (t_trace : Int64) (t_typed : Int32) (t_when : Int64) (t_then : Int64) (t_at : Int32) (t_token : Int32) (t_start : Int32) (t_valMany : Int32) (t_waitMany : Int32) (t_open : Int32) (t_saying : Int64) (t_quarrel : Int32) (t_said : Nat → Int64) (t_many : Nat → Int32) (a1 : Int32) (a2 : Int32) (o : Int64) (ho : f_X8_worlds t_when t_then t_said t_many a1 a2 = some o)  : Met l yX8_worlds wsX8_worlds ({ frames := 1, cells := 0, slots := 0, locals := 25 } : Room) (pcA G [.ref h_t, .int a1, .int a2] [(h_t, .inr (8, [.long t_trace, .ref h_t_text, .int t_typed, .ref h_t_said, .ref h_t_many, .long t_when, .long t_then, .ref h_t_grades, .ref h_t_doubts, .int t_at, .int t_token, .int t_start, .ref h_t_vals, .ref h_t_waits, .int t_valMany, .int t_waitMany, .int t_open, .long t_saying, .ref h_t_fresh, .ref h_t_freshMany, .int t_quarrel])), (h_t_said, .inl (G.2.1.2.2, 45, .inr (.inl t_said))), (h_t_many, .inl (G.2.1.2.1, 5, .inl t_many))] sz) (qcL Unit G o (fun _ => True) (fun _ => [(h_t, .inr (8, [.long t_trace, .ref h_t_text, .int t_typed, .ref h_t_said, .ref h_t_many, .long t_when, .long t_then, .ref h_t_grades, .ref h_t_doubts, .int t_at, .int t_token, .int t_start, .ref h_t_vals, .ref h_t_waits, .int t_valMany, .int t_waitMany, .int t_open, .long t_saying, .ref h_t_fresh, .ref h_t_freshMany, .int t_quarrel])), (h_t_said, .inl (G.2.1.2.2, 45, .inr (.inl t_said))), (h_t_many, .inl (G.2.1.2.1, 5, .inl t_many))]) (va_A [(h_t, .inr (8, [.long t_trace, .ref h_t_text, .int t_typed, .ref h_t_said, .ref h_t_many, .long t_when, .long t_then, .ref h_t_grades, .ref h_t_doubts, .int t_at, .int t_token, .int t_start, .ref h_t_vals, .ref h_t_waits, .int t_valMany, .int t_waitMany, .int t_open, .long t_saying, .ref h_t_fresh, .ref h_t_freshMany, .int t_quarrel])), (h_t_said, .inl (G.2.1.2.2, 45, .inr (.inl t_said))), (h_t_many, .inl (G.2.1.2.1, 5, .inl t_many))] sz)) 0 0 (va_A [(h_t, .inr (8, [.long t_trace, .ref h_t_text, .int t_typed, .ref h_t_said, .ref h_t_many, .long t_when, .long t_then, .ref h_t_grades, .ref h_t_doubts, .int t_at, .int t_token, .int t_start, .ref h_t_vals, .ref h_t_waits, .int t_valMany, .int t_waitMany, .int t_open, .long t_saying, .ref h_t_fresh, .ref h_t_freshMany, .int t_quarrel])), (h_t_said, .inl (G.2.1.2.2, 45, .inr (.inl t_said))), (h_t_many, .inl (G.2.1.2.1, 5, .inl t_many))] sz) := by
  refine Met.ofW (cc := cX8_worlds) (maxL := 3) (ret := (some .long)) (by decide) rfl ?_
  intro p e s m args below meth c s₁ B hml hv
  obtain ⟨rfl, hsz, hP, hg, hD0, hc⟩ := hv
  have hx := B.exec
  have hb := B.bytes
  have hr := B.returns
  have hts := atoms_spec (ws := wsX8_worlds) B.pre
  have hown : s.vm.findClass RX8 = some m.cls := findClass_of_methodNamed B.named
  have hlocks := B.notSynchronized
  subst hsz
  have hD := hD0.self (sz := s.heap.size)
  generalize hAe : va_A [(h_t, .inr (8, [.long t_trace, .ref h_t_text, .int t_typed, .ref h_t_said, .ref h_t_many, .long t_when, .long t_then, .ref h_t_grades, .ref h_t_doubts, .int t_at, .int t_token, .int t_start, .ref h_t_vals, .ref h_t_waits, .int t_valMany, .int t_waitMany, .int t_open, .long t_saying, .ref h_t_fresh, .ref h_t_freshMany, .int t_quarrel])), (h_t_said, .inl (G.2.1.2.2, 45, .inr (.inl t_said))), (h_t_many, .inl (G.2.1.2.1, 5, .inl t_many))] s.heap.size = A at hD hc ⊢
  have hA : ∀ q : Nat, s.heap.size ≤ q → A q := fun q h => by rw [← hAe]; exact Or.inr h
  have hiX8 : ∀ w ∈ wsX80, w ∈ wsX8_worlds := by decide +kernel
  have hl := lv_entry ([.ref h_t, .int a1, .int a2]) (n := 3) (Nat.le_of_ble_eq_true rfl)
  rw [lg_entry_eq]
  generalize (lg_sl ([.ref h_t, .int a1, .int a2]) ++ List.replicate (3 - (lg_sl ([.ref h_t, .int a1, .int a2])).length) Slot.unset).toArray = ls at hl ⊢
  have hl : lv_has ls 3 [(0, .ref h_t), (1, .int a1), (2, .int a2)] := hl
  have hf := ho
  have hw_31 : jn_X8_worlds_31 t_when t_then t_said t_many a1 a2 = some o → ∀ (H : Heap) (locs : List Loc), va_P G.1 vwCl [(h_t, .inr (8, [.long t_trace, .ref h_t_text, .int t_typed, .ref h_t_said, .ref h_t_many, .long t_when, .long t_then, .ref h_t_grades, .ref h_t_doubts, .int t_at, .int t_token, .int t_start, .ref h_t_vals, .ref h_t_waits, .int t_valMany, .int t_waitMany, .int t_open, .long t_saying, .ref h_t_fresh, .ref h_t_freshMany, .int t_quarrel])), (h_t_said, .inl (G.2.1.2.2, 45, .inr (.inl t_said))), (h_t_many, .inl (G.2.1.2.1, 5, .inl t_many))] H → va_D A [(h_t, .inr (8, [.long t_trace, .ref h_t_text, .int t_typed, .ref h_t_said, .ref h_t_many, .long t_when, .long t_then, .ref h_t_grades, .ref h_t_doubts, .int t_at, .int t_token, .int t_start, .ref h_t_vals, .ref h_t_waits, .int t_valMany, .int t_waitMany, .int t_open, .long t_saying, .ref h_t_fresh, .ref h_t_freshMany, .int t_quarrel])), (h_t_said, .inl (G.2.1.2.2, 45, .inr (.inl t_said))), (h_t_many, .inl (G.2.1.2.1, 5, .inl t_many))] → va_S A s.heap H locs → ∀ (ls : Array Slot), lv_has ls 3 [(0, .ref h_t), (1, .int a1), (2, .int a2)] → W p l e (headSpec wsX8_worlds ({ frames := 1, cells := 0, slots := 0, locals := 25 } : Room)).room s m ([.ref h_t, .int a1, .int a2] : List Value).toArray below meth c H locs 0 0 (MQ below (qcL Unit G o (fun _ => True) (fun _ => [(h_t, .inr (8, [.long t_trace, .ref h_t_text, .int t_typed, .ref h_t_said, .ref h_t_many, .long t_when, .long t_then, .ref h_t_grades, .ref h_t_doubts, .int t_at, .int t_token, .int t_start, .ref h_t_vals, .ref h_t_waits, .int t_valMany, .int t_waitMany, .int t_open, .long t_saying, .ref h_t_fresh, .ref h_t_freshMany, .int t_quarrel])), (h_t_said, .inl (G.2.1.2.2, 45, .inr (.inl t_said))), (h_t_many, .inl (G.2.1.2.1, 5, .inl t_many))]) A) ([.ref h_t, .int a1, .int a2] : List Value).toArray s 0 0 A) (F0 m 31 ls []) := by
    intro  hf H locs hP hD hS ls hl
    unfold jn_X8_worlds_31 at hf
    refine lv_iload_n hx hb dX8_worlds_31 rfl (lv_at hl 1 rfl) ?_
    refine lv_i2l (v := (a1).toInt64) hx hb dX8_worlds_32 rfl ?_
    refine lv_lconst (v := (0 : Int64)) hx hb dX8_worlds_33 (by decide) ?_
    refine lv_ldc2 (v := (4 : Int64)) hx hb hown (hts (.constantLong RX8 155 (4 : Int64)) (by decide +kernel)) dX8_worlds_34 ?_
    obtain ⟨o1, ho1, hf⟩ := bd_e hf
    refine af0_i (va_runS (As := [.long ((a1).toInt64), .long (0 : Int64), .long (4 : Int64)]) (rest := []) ⟨hx, hb, hml, hown, hts⟩ (c_X8_in l G H.size ((a1).toInt64) (0 : Int64) (4 : Int64) o1 ho1) (va_cwS 3 hts gX8_worlds_X8_in rfl rfl rfl (by decide +kernel) ⟨Nat.le_of_ble_eq_true rfl, Nat.le_of_ble_eq_true rfl⟩) (pcA_pre hg hc hP hD hS hA [] rfl rfl [.long ((a1).toInt64), .long (0 : Int64), .long (4 : Int64)]) rfl rfl hl.1 rfl (lv_room (Nat.le_of_ble_eq_true rfl)) dX8_worlds_37 ⟨Nat.zero_le _, Nat.zero_le _⟩) hP hD hS hA (fun H locs hP hD hS => ?_)
    refine lv_if_eq (tgt := 75) hx hb dX8_worlds_40 (by decide) (fun c2 => ?_) (fun c2 => ?_)
    · have hf := it_t c2 hf
      refine lv_lconst (v := (0 : Int64)) hx hb dX8_worlds_75 (by decide) ?_
      rw [← Option.some.inj hf]
      exact rt_l (u := ()) hx hb hr hlocks hP hD trivial hS dX8_worlds_76
    · have hf := it_f c2 hf
      refine lv_iload_n hx hb dX8_worlds_43 rfl (lv_at hl 2 rfl) ?_
      refine lv_i2l (v := (a2).toInt64) hx hb dX8_worlds_44 rfl ?_
      refine lv_lconst (v := (0 : Int64)) hx hb dX8_worlds_45 (by decide) ?_
      refine lv_aload_n hx hb dX8_worlds_46 rfl (lv_at hl 0 rfl) ?_
      refine va_get (D := G.1) (ci := 8) (v := .ref h_t_many) (C := RX8) (T := TX8) (N := 21) hx hb hts hiX8 hown hg.1 hP 0 rfl rfl 4 (by decide) (hts (.fieldLink RX8 17 "AsARuleModel" "many" "[I") (by decide +kernel)) (fun _ h9 => h9) rfl dX8_worlds_47 ?_
      refine lv_iload_n hx hb dX8_worlds_50 rfl (lv_at hl 1 rfl) ?_
      refine va_iald hx hb hg.1 hP 2 1 rfl rfl (ib_in (gd_t hf)) dX8_worlds_51 ?_
      have hf := gd_x hf
      refine lv_iconst (v := (1 : Int32)) hx hb dX8_worlds_52 (by decide) ?_
      refine lv_isub hx hb dX8_worlds_53 ?_
      refine lv_i2l (v := (((t_many a1.toNatClampNeg) - (1 : Int32))).toInt64) hx hb dX8_worlds_54 rfl ?_
      obtain ⟨o3, ho3, hf⟩ := bd_e hf
      refine af0_i (va_runS (As := [.long ((a2).toInt64), .long (0 : Int64), .long ((((t_many a1.toNatClampNeg) - (1 : Int32))).toInt64)]) (rest := []) ⟨hx, hb, hml, hown, hts⟩ (c_X8_in l G H.size ((a2).toInt64) (0 : Int64) ((((t_many a1.toNatClampNeg) - (1 : Int32))).toInt64) o3 ho3) (va_cwS 3 hts gX8_worlds_X8_in rfl rfl rfl (by decide +kernel) ⟨Nat.le_of_ble_eq_true rfl, Nat.le_of_ble_eq_true rfl⟩) (pcA_pre hg hc hP hD hS hA [] rfl rfl [.long ((a2).toInt64), .long (0 : Int64), .long ((((t_many a1.toNatClampNeg) - (1 : Int32))).toInt64)]) rfl rfl hl.1 rfl (lv_room (Nat.le_of_ble_eq_true rfl)) dX8_worlds_55 ⟨Nat.zero_le _, Nat.zero_le _⟩) hP hD hS hA (fun H locs hP hD hS => ?_)
      refine lv_if_eq (tgt := 75) hx hb dX8_worlds_58 (by decide) (fun c4 => ?_) (fun c4 => ?_)
      · have hf := it_t c4 hf
        refine lv_lconst (v := (0 : Int64)) hx hb dX8_worlds_75 (by decide) ?_
        rw [← Option.some.inj hf]
        exact rt_l (u := ()) hx hb hr hlocks hP hD trivial hS dX8_worlds_76
      · have hf := it_f c4 hf
        refine lv_aload_n hx hb dX8_worlds_61 rfl (lv_at hl 0 rfl) ?_
        refine va_get (D := G.1) (ci := 8) (v := .ref h_t_said) (C := RX8) (T := TX8) (N := 21) hx hb hts hiX8 hown hg.1 hP 0 rfl rfl 3 (by decide) (hts (.fieldLink RX8 13 "AsARuleModel" "said" "[J") (by decide +kernel)) (fun _ h9 => h9) rfl dX8_worlds_62 ?_
        refine lv_bipush (v := (9 : Int32)) hx hb dX8_worlds_65 (by decide) ?_
        refine lv_iload_n hx hb dX8_worlds_67 rfl (lv_at hl 1 rfl) ?_
        refine lv_imul hx hb dX8_worlds_68 ?_
        refine lv_iload_n hx hb dX8_worlds_69 rfl (lv_at hl 2 rfl) ?_
        refine lv_iadd hx hb dX8_worlds_70 ?_
        refine va_lald hx hb hg.1 hP 1 2 rfl rfl (ib_in (gd_t hf)) dX8_worlds_71 ?_
        have hf := gd_x hf
        refine lv_goto (tgt := 76) hx hb dX8_worlds_72 (by decide) ?_
        rw [← Option.some.inj hf]
        exact rt_l (u := ()) hx hb hr hlocks hP hD trivial hS dX8_worlds_76
  unfold f_X8_worlds at hf
  refine en (fun H locs hP hD hS => ?_) hP hD
  refine lv_iload_n hx hb dX8_worlds_0 rfl (lv_at hl 1 rfl) ?_
  refine lv_iconst (v := (5 : Int32)) hx hb dX8_worlds_1 (by decide) ?_
  refine lv_icmp_ne (tgt := 31) hx hb dX8_worlds_2 (by decide) (fun c5 => ?_) (fun c5 => ?_)
  · have hf := it_f c5 hf
    exact hw_31  hf _ _ hP hD hS _ hl
  · have hf := it_t c5 hf
    refine lv_iload_n hx hb dX8_worlds_5 rfl (lv_at hl 2 rfl) ?_
    refine lv_i2l (v := (a2).toInt64) hx hb dX8_worlds_6 rfl ?_
    refine lv_lconst (v := (0 : Int64)) hx hb dX8_worlds_7 (by decide) ?_
    refine lv_lconst (v := (1 : Int64)) hx hb dX8_worlds_8 (by decide) ?_
    obtain ⟨o6, ho6, hf⟩ := bd_e hf
    refine af0_i (va_runS (As := [.long ((a2).toInt64), .long (0 : Int64), .long (1 : Int64)]) (rest := []) ⟨hx, hb, hml, hown, hts⟩ (c_X8_in l G H.size ((a2).toInt64) (0 : Int64) (1 : Int64) o6 ho6) (va_cwS 3 hts gX8_worlds_X8_in rfl rfl rfl (by decide +kernel) ⟨Nat.le_of_ble_eq_true rfl, Nat.le_of_ble_eq_true rfl⟩) (pcA_pre hg hc hP hD hS hA [] rfl rfl [.long ((a2).toInt64), .long (0 : Int64), .long (1 : Int64)]) rfl rfl hl.1 rfl (lv_room (Nat.le_of_ble_eq_true rfl)) dX8_worlds_9 ⟨Nat.zero_le _, Nat.zero_le _⟩) hP hD hS hA (fun H locs hP hD hS => ?_)
    refine lv_if_eq (tgt := 31) hx hb dX8_worlds_12 (by decide) (fun c7 => ?_) (fun c7 => ?_)
    · have hf := it_t c7 hf
      exact hw_31  hf _ _ hP hD hS _ hl
    · have hf := it_f c7 hf
      refine lv_iload_n hx hb dX8_worlds_15 rfl (lv_at hl 2 rfl) ?_
      refine lv_if_ne (tgt := 26) hx hb dX8_worlds_16 (by decide) (fun c8 => ?_) (fun c8 => ?_)
      · have hf := it_f c8 hf
        refine lv_aload_n hx hb dX8_worlds_26 rfl (lv_at hl 0 rfl) ?_
        refine va_get (D := G.1) (ci := 8) (v := .long t_then) (C := RX8) (T := TX8) (N := 21) hx hb hts hiX8 hown hg.1 hP 0 rfl rfl 6 (by decide) (hts (.fieldLink RX8 44 "AsARuleModel" "then" "J") (by decide +kernel)) (fun _ h9 => h9) rfl dX8_worlds_27 ?_
        rw [← Option.some.inj hf]
        exact rt_l (u := ()) hx hb hr hlocks hP hD trivial hS dX8_worlds_30
      · have hf := it_t c8 hf
        refine lv_aload_n hx hb dX8_worlds_19 rfl (lv_at hl 0 rfl) ?_
        refine va_get (D := G.1) (ci := 8) (v := .long t_when) (C := RX8) (T := TX8) (N := 21) hx hb hts hiX8 hown hg.1 hP 0 rfl rfl 5 (by decide) (hts (.fieldLink RX8 40 "AsARuleModel" "when" "J") (by decide +kernel)) (fun _ h9 => h9) rfl dX8_worlds_20 ?_
        refine lv_goto (tgt := 30) hx hb dX8_worlds_23 (by decide) ?_
        rw [← Option.some.inj hf]
        exact rt_l (u := ()) hx hb hr hlocks hP hD trivial hS dX8_worlds_30
-- method X8_groundNow
def f_X8_groundNow (t_said : Nat → Int64) (t_many : Nat → Int32) : Option (Int64) :=
  bd (f_X8_thereNow t_said t_many) (fun o1 => bd (f_X8_allOf t_said t_many (3 : Int32)) (fun o2 => some ((o1 &&& o2))))
set_option maxHeartbeats 4000000 in
set_option maxRecDepth 100000 in
theorem c_X8_groundNow (l : Launch) (G : GG) (h_t h_t_text h_t_said h_t_many h_t_grades h_t_doubts h_t_vals h_t_waits h_t_fresh h_t_freshMany : Nat) (sz : Nat) (t_trace : Int64) (t_typed : Int32) (t_when : Int64) (t_then : Int64) (t_at : Int32) (t_token : Int32) (t_start : Int32) (t_valMany : Int32) (t_waitMany : Int32) (t_open : Int32) (t_saying : Int64) (t_quarrel : Int32) (t_said : Nat → Int64) (t_many : Nat → Int32)  (o : Int64) (ho : f_X8_groundNow t_said t_many = some o)  : Met l yX8_groundNow wsX8_groundNow ({ frames := 2, cells := 0, slots := 0, locals := 44 } : Room) (pcA G [.ref h_t] [(h_t, .inr (8, [.long t_trace, .ref h_t_text, .int t_typed, .ref h_t_said, .ref h_t_many, .long t_when, .long t_then, .ref h_t_grades, .ref h_t_doubts, .int t_at, .int t_token, .int t_start, .ref h_t_vals, .ref h_t_waits, .int t_valMany, .int t_waitMany, .int t_open, .long t_saying, .ref h_t_fresh, .ref h_t_freshMany, .int t_quarrel])), (h_t_said, .inl (G.2.1.2.2, 45, .inr (.inl t_said))), (h_t_many, .inl (G.2.1.2.1, 5, .inl t_many))] sz) (qcL Unit G o (fun _ => True) (fun _ => [(h_t, .inr (8, [.long t_trace, .ref h_t_text, .int t_typed, .ref h_t_said, .ref h_t_many, .long t_when, .long t_then, .ref h_t_grades, .ref h_t_doubts, .int t_at, .int t_token, .int t_start, .ref h_t_vals, .ref h_t_waits, .int t_valMany, .int t_waitMany, .int t_open, .long t_saying, .ref h_t_fresh, .ref h_t_freshMany, .int t_quarrel])), (h_t_said, .inl (G.2.1.2.2, 45, .inr (.inl t_said))), (h_t_many, .inl (G.2.1.2.1, 5, .inl t_many))]) (va_A [(h_t, .inr (8, [.long t_trace, .ref h_t_text, .int t_typed, .ref h_t_said, .ref h_t_many, .long t_when, .long t_then, .ref h_t_grades, .ref h_t_doubts, .int t_at, .int t_token, .int t_start, .ref h_t_vals, .ref h_t_waits, .int t_valMany, .int t_waitMany, .int t_open, .long t_saying, .ref h_t_fresh, .ref h_t_freshMany, .int t_quarrel])), (h_t_said, .inl (G.2.1.2.2, 45, .inr (.inl t_said))), (h_t_many, .inl (G.2.1.2.1, 5, .inl t_many))] sz)) 0 0 (va_A [(h_t, .inr (8, [.long t_trace, .ref h_t_text, .int t_typed, .ref h_t_said, .ref h_t_many, .long t_when, .long t_then, .ref h_t_grades, .ref h_t_doubts, .int t_at, .int t_token, .int t_start, .ref h_t_vals, .ref h_t_waits, .int t_valMany, .int t_waitMany, .int t_open, .long t_saying, .ref h_t_fresh, .ref h_t_freshMany, .int t_quarrel])), (h_t_said, .inl (G.2.1.2.2, 45, .inr (.inl t_said))), (h_t_many, .inl (G.2.1.2.1, 5, .inl t_many))] sz) := by
  refine Met.ofW (cc := cX8_groundNow) (maxL := 1) (ret := (some .long)) (by decide) rfl ?_
  intro p e s m args below meth c s₁ B hml hv
  obtain ⟨rfl, hsz, hP, hg, hD0, hc⟩ := hv
  have hx := B.exec
  have hb := B.bytes
  have hr := B.returns
  have hts := atoms_spec (ws := wsX8_groundNow) B.pre
  have hown : s.vm.findClass RX8 = some m.cls := findClass_of_methodNamed B.named
  have hlocks := B.notSynchronized
  subst hsz
  have hD := hD0.self (sz := s.heap.size)
  generalize hAe : va_A [(h_t, .inr (8, [.long t_trace, .ref h_t_text, .int t_typed, .ref h_t_said, .ref h_t_many, .long t_when, .long t_then, .ref h_t_grades, .ref h_t_doubts, .int t_at, .int t_token, .int t_start, .ref h_t_vals, .ref h_t_waits, .int t_valMany, .int t_waitMany, .int t_open, .long t_saying, .ref h_t_fresh, .ref h_t_freshMany, .int t_quarrel])), (h_t_said, .inl (G.2.1.2.2, 45, .inr (.inl t_said))), (h_t_many, .inl (G.2.1.2.1, 5, .inl t_many))] s.heap.size = A at hD hc ⊢
  have hA : ∀ q : Nat, s.heap.size ≤ q → A q := fun q h => by rw [← hAe]; exact Or.inr h
  have hl := lv_entry ([.ref h_t]) (n := 1) (Nat.le_of_ble_eq_true rfl)
  rw [lg_entry_eq]
  generalize (lg_sl ([.ref h_t]) ++ List.replicate (1 - (lg_sl ([.ref h_t])).length) Slot.unset).toArray = ls at hl ⊢
  have hl : lv_has ls 1 [(0, .ref h_t)] := hl
  have hf := ho
  unfold f_X8_groundNow at hf
  refine en (fun H locs hP hD hS => ?_) hP hD
  refine lv_aload_n hx hb dX8_groundNow_0 rfl (lv_at hl 0 rfl) ?_
  obtain ⟨o1, ho1, hf⟩ := bd_e hf
  refine af_l (wr := []) (va_runV (As := []) (rest := []) ⟨hx, hb, hml, hown, hts⟩ (c_X8_thereNow l G h_t h_t_text h_t_said h_t_many h_t_grades h_t_doubts h_t_vals h_t_waits h_t_fresh h_t_freshMany H.size t_trace t_typed t_when t_then t_at t_token t_start t_valMany t_waitMany t_open t_saying t_quarrel t_said t_many o1 ho1) (cwV 0 hts gX8_groundNow_X8_thereNow rfl rfl rfl (by decide +kernel) ⟨Nat.le_of_ble_eq_true rfl, Nat.le_of_ble_eq_true rfl⟩) (pcA_preV hg hc hP hD hS hA [0, 1, 2] rfl (by decide) (q0 := 0) (ci := 8) rfl rfl rfl) rfl rfl hl.1 rfl (lv_room (Nat.le_of_ble_eq_true rfl)) dX8_groundNow_1 ⟨Nat.zero_le _, Nat.zero_le _⟩) hP hD hS hA [0, 1, 2] [] rfl rfl (by decide) (by decide) (fun _ H locs _ hP hD hS => ?_)
  have hP : va_P G.1 vwCl [(h_t, .inr (8, [.long t_trace, .ref h_t_text, .int t_typed, .ref h_t_said, .ref h_t_many, .long t_when, .long t_then, .ref h_t_grades, .ref h_t_doubts, .int t_at, .int t_token, .int t_start, .ref h_t_vals, .ref h_t_waits, .int t_valMany, .int t_waitMany, .int t_open, .long t_saying, .ref h_t_fresh, .ref h_t_freshMany, .int t_quarrel])), (h_t_said, .inl (G.2.1.2.2, 45, .inr (.inl t_said))), (h_t_many, .inl (G.2.1.2.1, 5, .inl t_many))] H := hP
  have hD : va_D A [(h_t, .inr (8, [.long t_trace, .ref h_t_text, .int t_typed, .ref h_t_said, .ref h_t_many, .long t_when, .long t_then, .ref h_t_grades, .ref h_t_doubts, .int t_at, .int t_token, .int t_start, .ref h_t_vals, .ref h_t_waits, .int t_valMany, .int t_waitMany, .int t_open, .long t_saying, .ref h_t_fresh, .ref h_t_freshMany, .int t_quarrel])), (h_t_said, .inl (G.2.1.2.2, 45, .inr (.inl t_said))), (h_t_many, .inl (G.2.1.2.1, 5, .inl t_many))] := hD
  refine lv_aload_n hx hb dX8_groundNow_4 rfl (lv_at hl 0 rfl) ?_
  refine lv_iconst (v := (3 : Int32)) hx hb dX8_groundNow_5 (by decide) ?_
  obtain ⟨o2, ho2, hf⟩ := bd_e hf
  refine af_l (wr := []) (va_runV (As := [.int (3 : Int32)]) (rest := [.long o1]) ⟨hx, hb, hml, hown, hts⟩ (c_X8_allOf l G h_t h_t_text h_t_said h_t_many h_t_grades h_t_doubts h_t_vals h_t_waits h_t_fresh h_t_freshMany H.size t_trace t_typed t_when t_then t_at t_token t_start t_valMany t_waitMany t_open t_saying t_quarrel t_said t_many (3 : Int32) o2 ho2) (cwV 1 hts gX8_groundNow_X8_allOf rfl rfl rfl (by decide +kernel) ⟨Nat.le_of_ble_eq_true rfl, Nat.le_of_ble_eq_true rfl⟩) (pcA_preV hg hc hP hD hS hA [0, 1, 2] rfl (by decide) (q0 := 0) (ci := 8) rfl rfl rfl) rfl rfl hl.1 rfl (lv_room (Nat.le_of_ble_eq_true rfl)) dX8_groundNow_6 ⟨Nat.zero_le _, Nat.zero_le _⟩) hP hD hS hA [0, 1, 2] [] rfl rfl (by decide) (by decide) (fun _ H locs _ hP hD hS => ?_)
  have hP : va_P G.1 vwCl [(h_t, .inr (8, [.long t_trace, .ref h_t_text, .int t_typed, .ref h_t_said, .ref h_t_many, .long t_when, .long t_then, .ref h_t_grades, .ref h_t_doubts, .int t_at, .int t_token, .int t_start, .ref h_t_vals, .ref h_t_waits, .int t_valMany, .int t_waitMany, .int t_open, .long t_saying, .ref h_t_fresh, .ref h_t_freshMany, .int t_quarrel])), (h_t_said, .inl (G.2.1.2.2, 45, .inr (.inl t_said))), (h_t_many, .inl (G.2.1.2.1, 5, .inl t_many))] H := hP
  have hD : va_D A [(h_t, .inr (8, [.long t_trace, .ref h_t_text, .int t_typed, .ref h_t_said, .ref h_t_many, .long t_when, .long t_then, .ref h_t_grades, .ref h_t_doubts, .int t_at, .int t_token, .int t_start, .ref h_t_vals, .ref h_t_waits, .int t_valMany, .int t_waitMany, .int t_open, .long t_saying, .ref h_t_fresh, .ref h_t_freshMany, .int t_quarrel])), (h_t_said, .inl (G.2.1.2.2, 45, .inr (.inl t_said))), (h_t_many, .inl (G.2.1.2.1, 5, .inl t_many))] := hD
  refine lv_land hx hb dX8_groundNow_9 ?_
  rw [← Option.some.inj hf]
  exact rt_l (u := ()) hx hb hr hlocks hP hD trivial hS dX8_groundNow_10
-- method X8_there
def lp_X8_there_13 (t_said : Nat → Int64) (t_many : Nat → Int32) (a1 : Int32) : Nat → Int64 → Int32 → Option (Int64)
  | 0, _, _ => none
  | n + 1, v2, v4 => gd (ib (1 : Int32) 5) (if (t_many (1 : Int32).toNatClampNeg) ≤ v4 then some (v2) else bd (f_X8_broken t_said v4) (fun o2 => lt (v2 &&& (o2 ^^^ (-1 : Int64))) (fun x3 => lt (v4 + (1 : Int32)) (fun x4 => lp_X8_there_13 t_said t_many a1 n x3 x4))))
def f_X8_there (t_said : Nat → Int64) (t_many : Nat → Int32) (a1 : Int32) : Option (Int64) :=
  if a1 = (2 : Int32) then bd (f_X8_thereNow t_said t_many) (fun o10 => lp_X8_there_13 t_said t_many a1 fu o10 (0 : Int32)) else if a1 = (0 : Int32) then bd (f_X8_thereNow t_said t_many) (fun o9 => some (o9)) else if a1 = (1 : Int32) then bd (f_X8_groundNow t_said t_many) (fun o8 => some (o8)) else some ((0 : Int64))
set_option maxHeartbeats 4000000 in
set_option maxRecDepth 100000 in
theorem c_X8_there (l : Launch) (G : GG) (h_t h_t_text h_t_said h_t_many h_t_grades h_t_doubts h_t_vals h_t_waits h_t_fresh h_t_freshMany : Nat) (sz : Nat) (t_trace : Int64) (t_typed : Int32) (t_when : Int64) (t_then : Int64) (t_at : Int32) (t_token : Int32) (t_start : Int32) (t_valMany : Int32) (t_waitMany : Int32) (t_open : Int32) (t_saying : Int64) (t_quarrel : Int32) (t_said : Nat → Int64) (t_many : Nat → Int32) (a1 : Int32) (o : Int64) (ho : f_X8_there t_said t_many a1 = some o)  : Met l yX8_there wsX8_there ({ frames := 3, cells := 0, slots := 0, locals := 64 } : Room) (pcA G [.ref h_t, .int a1] [(h_t, .inr (8, [.long t_trace, .ref h_t_text, .int t_typed, .ref h_t_said, .ref h_t_many, .long t_when, .long t_then, .ref h_t_grades, .ref h_t_doubts, .int t_at, .int t_token, .int t_start, .ref h_t_vals, .ref h_t_waits, .int t_valMany, .int t_waitMany, .int t_open, .long t_saying, .ref h_t_fresh, .ref h_t_freshMany, .int t_quarrel])), (h_t_said, .inl (G.2.1.2.2, 45, .inr (.inl t_said))), (h_t_many, .inl (G.2.1.2.1, 5, .inl t_many))] sz) (qcL Unit G o (fun _ => True) (fun _ => [(h_t, .inr (8, [.long t_trace, .ref h_t_text, .int t_typed, .ref h_t_said, .ref h_t_many, .long t_when, .long t_then, .ref h_t_grades, .ref h_t_doubts, .int t_at, .int t_token, .int t_start, .ref h_t_vals, .ref h_t_waits, .int t_valMany, .int t_waitMany, .int t_open, .long t_saying, .ref h_t_fresh, .ref h_t_freshMany, .int t_quarrel])), (h_t_said, .inl (G.2.1.2.2, 45, .inr (.inl t_said))), (h_t_many, .inl (G.2.1.2.1, 5, .inl t_many))]) (va_A [(h_t, .inr (8, [.long t_trace, .ref h_t_text, .int t_typed, .ref h_t_said, .ref h_t_many, .long t_when, .long t_then, .ref h_t_grades, .ref h_t_doubts, .int t_at, .int t_token, .int t_start, .ref h_t_vals, .ref h_t_waits, .int t_valMany, .int t_waitMany, .int t_open, .long t_saying, .ref h_t_fresh, .ref h_t_freshMany, .int t_quarrel])), (h_t_said, .inl (G.2.1.2.2, 45, .inr (.inl t_said))), (h_t_many, .inl (G.2.1.2.1, 5, .inl t_many))] sz)) 0 0 (va_A [(h_t, .inr (8, [.long t_trace, .ref h_t_text, .int t_typed, .ref h_t_said, .ref h_t_many, .long t_when, .long t_then, .ref h_t_grades, .ref h_t_doubts, .int t_at, .int t_token, .int t_start, .ref h_t_vals, .ref h_t_waits, .int t_valMany, .int t_waitMany, .int t_open, .long t_saying, .ref h_t_fresh, .ref h_t_freshMany, .int t_quarrel])), (h_t_said, .inl (G.2.1.2.2, 45, .inr (.inl t_said))), (h_t_many, .inl (G.2.1.2.1, 5, .inl t_many))] sz) := by
  refine Met.ofW (cc := cX8_there) (maxL := 5) (ret := (some .long)) (by decide) rfl ?_
  intro p e s m args below meth c s₁ B hml hv
  obtain ⟨rfl, hsz, hP, hg, hD0, hc⟩ := hv
  have hx := B.exec
  have hb := B.bytes
  have hr := B.returns
  have hts := atoms_spec (ws := wsX8_there) B.pre
  have hown : s.vm.findClass RX8 = some m.cls := findClass_of_methodNamed B.named
  have hlocks := B.notSynchronized
  subst hsz
  have hD := hD0.self (sz := s.heap.size)
  generalize hAe : va_A [(h_t, .inr (8, [.long t_trace, .ref h_t_text, .int t_typed, .ref h_t_said, .ref h_t_many, .long t_when, .long t_then, .ref h_t_grades, .ref h_t_doubts, .int t_at, .int t_token, .int t_start, .ref h_t_vals, .ref h_t_waits, .int t_valMany, .int t_waitMany, .int t_open, .long t_saying, .ref h_t_fresh, .ref h_t_freshMany, .int t_quarrel])), (h_t_said, .inl (G.2.1.2.2, 45, .inr (.inl t_said))), (h_t_many, .inl (G.2.1.2.1, 5, .inl t_many))] s.heap.size = A at hD hc ⊢
  have hA : ∀ q : Nat, s.heap.size ≤ q → A q := fun q h => by rw [← hAe]; exact Or.inr h
  have hiX8 : ∀ w ∈ wsX80, w ∈ wsX8_there := by decide +kernel
  have hl := lv_entry ([.ref h_t, .int a1]) (n := 5) (Nat.le_of_ble_eq_true rfl)
  rw [lg_entry_eq]
  generalize (lg_sl ([.ref h_t, .int a1]) ++ List.replicate (5 - (lg_sl ([.ref h_t, .int a1])).length) Slot.unset).toArray = ls at hl ⊢
  have hl : lv_has ls 5 [(0, .ref h_t), (1, .int a1)] := hl
  have hf := ho
  have hw_13 : ∀  (n : Nat) (v2 : Int64) (v4 : Int32), lp_X8_there_13 t_said t_many a1 n v2 v4 = some o → ∀ (H : Heap) (locs : List Loc), va_P G.1 vwCl [(h_t, .inr (8, [.long t_trace, .ref h_t_text, .int t_typed, .ref h_t_said, .ref h_t_many, .long t_when, .long t_then, .ref h_t_grades, .ref h_t_doubts, .int t_at, .int t_token, .int t_start, .ref h_t_vals, .ref h_t_waits, .int t_valMany, .int t_waitMany, .int t_open, .long t_saying, .ref h_t_fresh, .ref h_t_freshMany, .int t_quarrel])), (h_t_said, .inl (G.2.1.2.2, 45, .inr (.inl t_said))), (h_t_many, .inl (G.2.1.2.1, 5, .inl t_many))] H → va_D A [(h_t, .inr (8, [.long t_trace, .ref h_t_text, .int t_typed, .ref h_t_said, .ref h_t_many, .long t_when, .long t_then, .ref h_t_grades, .ref h_t_doubts, .int t_at, .int t_token, .int t_start, .ref h_t_vals, .ref h_t_waits, .int t_valMany, .int t_waitMany, .int t_open, .long t_saying, .ref h_t_fresh, .ref h_t_freshMany, .int t_quarrel])), (h_t_said, .inl (G.2.1.2.2, 45, .inr (.inl t_said))), (h_t_many, .inl (G.2.1.2.1, 5, .inl t_many))] → va_S A s.heap H locs → ∀ (ls : Array Slot), lv_has ls 5 [(0, .ref h_t), (2, .long v2), (4, .int v4)] → W p l e (headSpec wsX8_there ({ frames := 3, cells := 0, slots := 0, locals := 64 } : Room)).room s m ([.ref h_t, .int a1] : List Value).toArray below meth c H locs 0 0 (MQ below (qcL Unit G o (fun _ => True) (fun _ => [(h_t, .inr (8, [.long t_trace, .ref h_t_text, .int t_typed, .ref h_t_said, .ref h_t_many, .long t_when, .long t_then, .ref h_t_grades, .ref h_t_doubts, .int t_at, .int t_token, .int t_start, .ref h_t_vals, .ref h_t_waits, .int t_valMany, .int t_waitMany, .int t_open, .long t_saying, .ref h_t_fresh, .ref h_t_freshMany, .int t_quarrel])), (h_t_said, .inl (G.2.1.2.2, 45, .inr (.inl t_said))), (h_t_many, .inl (G.2.1.2.1, 5, .inl t_many))]) A) ([.ref h_t, .int a1] : List Value).toArray s 0 0 A) (F0 m 13 ls []) := by
    intro n
    induction n with
    | zero =>
      intro v2 v4 hf
      exact absurd hf (by rw [lp_X8_there_13]; intro h; cases h)
    | succ n ih =>
      intro v2 v4 hf H locs hP hD hS ls hl
      rw [lp_X8_there_13] at hf
      refine lv_iload hx hb dX8_there_13 (lv_at hl 2 rfl) ?_
      refine lv_aload_n hx hb dX8_there_15 rfl (lv_at hl 0 rfl) ?_
      refine va_get (D := G.1) (ci := 8) (v := .ref h_t_many) (C := RX8) (T := TX8) (N := 21) hx hb hts hiX8 hown hg.1 hP 0 rfl rfl 4 (by decide) (hts (.fieldLink RX8 17 "AsARuleModel" "many" "[I") (by decide +kernel)) (fun _ h9 => h9) rfl dX8_there_16 ?_
      refine lv_iconst (v := (1 : Int32)) hx hb dX8_there_19 (by decide) ?_
      refine va_iald hx hb hg.1 hP 2 1 rfl rfl (ib_in (gd_t hf)) dX8_there_20 ?_
      have hf := gd_x hf
      refine lv_icmp_ge (tgt := 43) hx hb dX8_there_21 (by decide) (fun c1 => ?_) (fun c1 => ?_)
      · have hf := it_t c1 hf
        refine lv_lload_n hx hb dX8_there_43 rfl (lv_at hl 1 rfl) ?_
        rw [← Option.some.inj hf]
        exact rt_l (u := ()) hx hb hr hlocks hP hD trivial hS dX8_there_44
      · have hf := it_f c1 hf
        refine lv_lload_n hx hb dX8_there_24 rfl (lv_at hl 1 rfl) ?_
        refine lv_aload_n hx hb dX8_there_25 rfl (lv_at hl 0 rfl) ?_
        refine lv_iload hx hb dX8_there_26 (lv_at hl 2 rfl) ?_
        obtain ⟨o2, ho2, hf⟩ := bd_e hf
        refine af_l (wr := [(h_t_many, .inl (G.2.1.2.1, 5, .inl t_many))]) (va_runV (As := [.int v4]) (rest := [.long v2]) ⟨hx, hb, hml, hown, hts⟩ (c_X8_broken l G h_t h_t_text h_t_said h_t_many h_t_grades h_t_doubts h_t_vals h_t_waits h_t_fresh h_t_freshMany H.size t_trace t_typed t_when t_then t_at t_token t_start t_valMany t_waitMany t_open t_saying t_quarrel t_said v4 o2 ho2) (cwV 1 hts gX8_there_X8_broken rfl rfl rfl (by decide +kernel) ⟨Nat.le_of_ble_eq_true rfl, Nat.le_of_ble_eq_true rfl⟩) (pcA_preV hg hc hP hD hS hA [0, 1] rfl (by decide) (q0 := 0) (ci := 8) rfl rfl rfl) rfl rfl hl.1 rfl (lv_room (Nat.le_of_ble_eq_true rfl)) dX8_there_28 ⟨Nat.zero_le _, Nat.zero_le _⟩) hP hD hS hA [0, 1] [2] rfl rfl (by decide) (by decide) (fun _ H locs _ hP hD hS => ?_)
        have hP : va_P G.1 vwCl [(h_t, .inr (8, [.long t_trace, .ref h_t_text, .int t_typed, .ref h_t_said, .ref h_t_many, .long t_when, .long t_then, .ref h_t_grades, .ref h_t_doubts, .int t_at, .int t_token, .int t_start, .ref h_t_vals, .ref h_t_waits, .int t_valMany, .int t_waitMany, .int t_open, .long t_saying, .ref h_t_fresh, .ref h_t_freshMany, .int t_quarrel])), (h_t_said, .inl (G.2.1.2.2, 45, .inr (.inl t_said))), (h_t_many, .inl (G.2.1.2.1, 5, .inl t_many))] H := hP.sub [1, 2, 0] rfl
        have hD : va_D A [(h_t, .inr (8, [.long t_trace, .ref h_t_text, .int t_typed, .ref h_t_said, .ref h_t_many, .long t_when, .long t_then, .ref h_t_grades, .ref h_t_doubts, .int t_at, .int t_token, .int t_start, .ref h_t_vals, .ref h_t_waits, .int t_valMany, .int t_waitMany, .int t_open, .long t_saying, .ref h_t_fresh, .ref h_t_freshMany, .int t_quarrel])), (h_t_said, .inl (G.2.1.2.2, 45, .inr (.inl t_said))), (h_t_many, .inl (G.2.1.2.1, 5, .inl t_many))] := hD.sub [1, 2, 0] (by decide) rfl
        refine lv_ldc2 (v := (-1 : Int64)) hx hb hown (hts (.constantLong RX8 38 (-1 : Int64)) (by decide +kernel)) dX8_there_31 ?_
        refine lv_lxor hx hb dX8_there_34 ?_
        refine lv_land hx hb dX8_there_35 ?_
        refine lv_topl (fun x3 ex3 => ?_)
        have hf := lt_n hf x3 ex3
        refine lv_lstore_n (lv' := [(2, .long x3), (0, .ref h_t), (4, .int v4)]) hx hb dX8_there_36 rfl hl (by decide) rfl (fun ls hl => ?_)
        obtain ⟨x4, ex4⟩ : ∃ y : Int32, y = (v4 + (1 : Int32)) := ⟨_, rfl⟩
        have hf := lt_n hf x4 ex4
        refine lv_iinc (v := x4) (lv' := [(4, .int x4), (2, .long x3), (0, .ref h_t)]) hx hb dX8_there_37 hl (k := 2) rfl (by rw [ex4]; rfl) (by decide) rfl (fun ls hl => ?_)
        refine lv_goto (tgt := 13) hx hb dX8_there_40 (by decide) ?_
        exact ih x3 x4 hf _ _ hP hD hS _ (lv_sub hl [2, 1, 0] rfl)
  unfold f_X8_there at hf
  refine en (fun H locs hP hD hS => ?_) hP hD
  refine lv_iload_n hx hb dX8_there_0 rfl (lv_at hl 1 rfl) ?_
  refine lv_iconst (v := (2 : Int32)) hx hb dX8_there_1 (by decide) ?_
  refine lv_icmp_ne (tgt := 45) hx hb dX8_there_2 (by decide) (fun c5 => ?_) (fun c5 => ?_)
  · have hf := it_f c5 hf
    refine lv_iload_n hx hb dX8_there_45 rfl (lv_at hl 1 rfl) ?_
    refine lv_if_ne (tgt := 56) hx hb dX8_there_46 (by decide) (fun c6 => ?_) (fun c6 => ?_)
    · have hf := it_f c6 hf
      refine lv_iload_n hx hb dX8_there_56 rfl (lv_at hl 1 rfl) ?_
      refine lv_iconst (v := (1 : Int32)) hx hb dX8_there_57 (by decide) ?_
      refine lv_icmp_ne (tgt := 68) hx hb dX8_there_58 (by decide) (fun c7 => ?_) (fun c7 => ?_)
      · have hf := it_f c7 hf
        refine lv_lconst (v := (0 : Int64)) hx hb dX8_there_68 (by decide) ?_
        rw [← Option.some.inj hf]
        exact rt_l (u := ()) hx hb hr hlocks hP hD trivial hS dX8_there_69
      · have hf := it_t c7 hf
        refine lv_aload_n hx hb dX8_there_61 rfl (lv_at hl 0 rfl) ?_
        obtain ⟨o8, ho8, hf⟩ := bd_e hf
        refine af_l (wr := []) (va_runV (As := []) (rest := []) ⟨hx, hb, hml, hown, hts⟩ (c_X8_groundNow l G h_t h_t_text h_t_said h_t_many h_t_grades h_t_doubts h_t_vals h_t_waits h_t_fresh h_t_freshMany H.size t_trace t_typed t_when t_then t_at t_token t_start t_valMany t_waitMany t_open t_saying t_quarrel t_said t_many o8 ho8) (cwV 0 hts gX8_there_X8_groundNow rfl rfl rfl (by decide +kernel) ⟨Nat.le_of_ble_eq_true rfl, Nat.le_of_ble_eq_true rfl⟩) (pcA_preV hg hc hP hD hS hA [0, 1, 2] rfl (by decide) (q0 := 0) (ci := 8) rfl rfl rfl) rfl rfl hl.1 rfl (lv_room (Nat.le_of_ble_eq_true rfl)) dX8_there_62 ⟨Nat.zero_le _, Nat.zero_le _⟩) hP hD hS hA [0, 1, 2] [] rfl rfl (by decide) (by decide) (fun _ H locs _ hP hD hS => ?_)
        have hP : va_P G.1 vwCl [(h_t, .inr (8, [.long t_trace, .ref h_t_text, .int t_typed, .ref h_t_said, .ref h_t_many, .long t_when, .long t_then, .ref h_t_grades, .ref h_t_doubts, .int t_at, .int t_token, .int t_start, .ref h_t_vals, .ref h_t_waits, .int t_valMany, .int t_waitMany, .int t_open, .long t_saying, .ref h_t_fresh, .ref h_t_freshMany, .int t_quarrel])), (h_t_said, .inl (G.2.1.2.2, 45, .inr (.inl t_said))), (h_t_many, .inl (G.2.1.2.1, 5, .inl t_many))] H := hP
        have hD : va_D A [(h_t, .inr (8, [.long t_trace, .ref h_t_text, .int t_typed, .ref h_t_said, .ref h_t_many, .long t_when, .long t_then, .ref h_t_grades, .ref h_t_doubts, .int t_at, .int t_token, .int t_start, .ref h_t_vals, .ref h_t_waits, .int t_valMany, .int t_waitMany, .int t_open, .long t_saying, .ref h_t_fresh, .ref h_t_freshMany, .int t_quarrel])), (h_t_said, .inl (G.2.1.2.2, 45, .inr (.inl t_said))), (h_t_many, .inl (G.2.1.2.1, 5, .inl t_many))] := hD
        refine lv_goto (tgt := 69) hx hb dX8_there_65 (by decide) ?_
        rw [← Option.some.inj hf]
        exact rt_l (u := ()) hx hb hr hlocks hP hD trivial hS dX8_there_69
    · have hf := it_t c6 hf
      refine lv_aload_n hx hb dX8_there_49 rfl (lv_at hl 0 rfl) ?_
      obtain ⟨o9, ho9, hf⟩ := bd_e hf
      refine af_l (wr := []) (va_runV (As := []) (rest := []) ⟨hx, hb, hml, hown, hts⟩ (c_X8_thereNow l G h_t h_t_text h_t_said h_t_many h_t_grades h_t_doubts h_t_vals h_t_waits h_t_fresh h_t_freshMany H.size t_trace t_typed t_when t_then t_at t_token t_start t_valMany t_waitMany t_open t_saying t_quarrel t_said t_many o9 ho9) (cwV 0 hts gX8_there_X8_thereNow rfl rfl rfl (by decide +kernel) ⟨Nat.le_of_ble_eq_true rfl, Nat.le_of_ble_eq_true rfl⟩) (pcA_preV hg hc hP hD hS hA [0, 1, 2] rfl (by decide) (q0 := 0) (ci := 8) rfl rfl rfl) rfl rfl hl.1 rfl (lv_room (Nat.le_of_ble_eq_true rfl)) dX8_there_50 ⟨Nat.zero_le _, Nat.zero_le _⟩) hP hD hS hA [0, 1, 2] [] rfl rfl (by decide) (by decide) (fun _ H locs _ hP hD hS => ?_)
      have hP : va_P G.1 vwCl [(h_t, .inr (8, [.long t_trace, .ref h_t_text, .int t_typed, .ref h_t_said, .ref h_t_many, .long t_when, .long t_then, .ref h_t_grades, .ref h_t_doubts, .int t_at, .int t_token, .int t_start, .ref h_t_vals, .ref h_t_waits, .int t_valMany, .int t_waitMany, .int t_open, .long t_saying, .ref h_t_fresh, .ref h_t_freshMany, .int t_quarrel])), (h_t_said, .inl (G.2.1.2.2, 45, .inr (.inl t_said))), (h_t_many, .inl (G.2.1.2.1, 5, .inl t_many))] H := hP
      have hD : va_D A [(h_t, .inr (8, [.long t_trace, .ref h_t_text, .int t_typed, .ref h_t_said, .ref h_t_many, .long t_when, .long t_then, .ref h_t_grades, .ref h_t_doubts, .int t_at, .int t_token, .int t_start, .ref h_t_vals, .ref h_t_waits, .int t_valMany, .int t_waitMany, .int t_open, .long t_saying, .ref h_t_fresh, .ref h_t_freshMany, .int t_quarrel])), (h_t_said, .inl (G.2.1.2.2, 45, .inr (.inl t_said))), (h_t_many, .inl (G.2.1.2.1, 5, .inl t_many))] := hD
      refine lv_goto (tgt := 69) hx hb dX8_there_53 (by decide) ?_
      rw [← Option.some.inj hf]
      exact rt_l (u := ()) hx hb hr hlocks hP hD trivial hS dX8_there_69
  · have hf := it_t c5 hf
    refine lv_aload_n hx hb dX8_there_5 rfl (lv_at hl 0 rfl) ?_
    obtain ⟨o10, ho10, hf⟩ := bd_e hf
    refine af_l (wr := []) (va_runV (As := []) (rest := []) ⟨hx, hb, hml, hown, hts⟩ (c_X8_thereNow l G h_t h_t_text h_t_said h_t_many h_t_grades h_t_doubts h_t_vals h_t_waits h_t_fresh h_t_freshMany H.size t_trace t_typed t_when t_then t_at t_token t_start t_valMany t_waitMany t_open t_saying t_quarrel t_said t_many o10 ho10) (cwV 0 hts gX8_there_X8_thereNow rfl rfl rfl (by decide +kernel) ⟨Nat.le_of_ble_eq_true rfl, Nat.le_of_ble_eq_true rfl⟩) (pcA_preV hg hc hP hD hS hA [0, 1, 2] rfl (by decide) (q0 := 0) (ci := 8) rfl rfl rfl) rfl rfl hl.1 rfl (lv_room (Nat.le_of_ble_eq_true rfl)) dX8_there_6 ⟨Nat.zero_le _, Nat.zero_le _⟩) hP hD hS hA [0, 1, 2] [] rfl rfl (by decide) (by decide) (fun _ H locs _ hP hD hS => ?_)
    have hP : va_P G.1 vwCl [(h_t, .inr (8, [.long t_trace, .ref h_t_text, .int t_typed, .ref h_t_said, .ref h_t_many, .long t_when, .long t_then, .ref h_t_grades, .ref h_t_doubts, .int t_at, .int t_token, .int t_start, .ref h_t_vals, .ref h_t_waits, .int t_valMany, .int t_waitMany, .int t_open, .long t_saying, .ref h_t_fresh, .ref h_t_freshMany, .int t_quarrel])), (h_t_said, .inl (G.2.1.2.2, 45, .inr (.inl t_said))), (h_t_many, .inl (G.2.1.2.1, 5, .inl t_many))] H := hP
    have hD : va_D A [(h_t, .inr (8, [.long t_trace, .ref h_t_text, .int t_typed, .ref h_t_said, .ref h_t_many, .long t_when, .long t_then, .ref h_t_grades, .ref h_t_doubts, .int t_at, .int t_token, .int t_start, .ref h_t_vals, .ref h_t_waits, .int t_valMany, .int t_waitMany, .int t_open, .long t_saying, .ref h_t_fresh, .ref h_t_freshMany, .int t_quarrel])), (h_t_said, .inl (G.2.1.2.2, 45, .inr (.inl t_said))), (h_t_many, .inl (G.2.1.2.1, 5, .inl t_many))] := hD
    refine lv_lstore_n (lv' := [(2, .long o10), (0, .ref h_t), (1, .int a1)]) hx hb dX8_there_9 rfl hl (by decide) rfl (fun ls hl => ?_)
    refine lv_iconst (v := (0 : Int32)) hx hb dX8_there_10 (by decide) ?_
    refine lv_istore (lv' := [(4, .int (0 : Int32)), (2, .long o10), (0, .ref h_t), (1, .int a1)]) hx hb dX8_there_11 hl (by decide) rfl (fun ls hl => ?_)
    exact hw_13 fu o10 (0 : Int32) hf _ _ hP hD hS _ (lv_sub hl [2, 1, 0] rfl)
-- method X8_isRule
def f_X8_isRule (t_many : Nat → Int32) (a1 : Int32) : Option (Int32) :=
  gd (ib (1 : Int32) 5) (bd (f_X8_in ((a1).toInt64) (0 : Int64) ((((t_many (1 : Int32).toNatClampNeg) - (1 : Int32))).toInt64)) (fun o1 => gd (zb o1) (some (o1))))
set_option maxHeartbeats 4000000 in
set_option maxRecDepth 100000 in
theorem c_X8_isRule (l : Launch) (G : GG) (h_t h_t_text h_t_said h_t_many h_t_grades h_t_doubts h_t_vals h_t_waits h_t_fresh h_t_freshMany : Nat) (sz : Nat) (t_trace : Int64) (t_typed : Int32) (t_when : Int64) (t_then : Int64) (t_at : Int32) (t_token : Int32) (t_start : Int32) (t_valMany : Int32) (t_waitMany : Int32) (t_open : Int32) (t_saying : Int64) (t_quarrel : Int32) (t_many : Nat → Int32) (a1 : Int32) (o : Int32) (ho : f_X8_isRule t_many a1 = some o)  : Met l yX8_isRule wsX8_isRule ({ frames := 1, cells := 0, slots := 0, locals := 25 } : Room) (pcA G [.ref h_t, .int a1] [(h_t, .inr (8, [.long t_trace, .ref h_t_text, .int t_typed, .ref h_t_said, .ref h_t_many, .long t_when, .long t_then, .ref h_t_grades, .ref h_t_doubts, .int t_at, .int t_token, .int t_start, .ref h_t_vals, .ref h_t_waits, .int t_valMany, .int t_waitMany, .int t_open, .long t_saying, .ref h_t_fresh, .ref h_t_freshMany, .int t_quarrel])), (h_t_many, .inl (G.2.1.2.1, 5, .inl t_many))] sz) (qcI Unit G o (fun _ => True) (fun _ => [(h_t, .inr (8, [.long t_trace, .ref h_t_text, .int t_typed, .ref h_t_said, .ref h_t_many, .long t_when, .long t_then, .ref h_t_grades, .ref h_t_doubts, .int t_at, .int t_token, .int t_start, .ref h_t_vals, .ref h_t_waits, .int t_valMany, .int t_waitMany, .int t_open, .long t_saying, .ref h_t_fresh, .ref h_t_freshMany, .int t_quarrel])), (h_t_many, .inl (G.2.1.2.1, 5, .inl t_many))]) (va_A [(h_t, .inr (8, [.long t_trace, .ref h_t_text, .int t_typed, .ref h_t_said, .ref h_t_many, .long t_when, .long t_then, .ref h_t_grades, .ref h_t_doubts, .int t_at, .int t_token, .int t_start, .ref h_t_vals, .ref h_t_waits, .int t_valMany, .int t_waitMany, .int t_open, .long t_saying, .ref h_t_fresh, .ref h_t_freshMany, .int t_quarrel])), (h_t_many, .inl (G.2.1.2.1, 5, .inl t_many))] sz)) 0 0 (va_A [(h_t, .inr (8, [.long t_trace, .ref h_t_text, .int t_typed, .ref h_t_said, .ref h_t_many, .long t_when, .long t_then, .ref h_t_grades, .ref h_t_doubts, .int t_at, .int t_token, .int t_start, .ref h_t_vals, .ref h_t_waits, .int t_valMany, .int t_waitMany, .int t_open, .long t_saying, .ref h_t_fresh, .ref h_t_freshMany, .int t_quarrel])), (h_t_many, .inl (G.2.1.2.1, 5, .inl t_many))] sz) := by
  refine Met.ofW (cc := cX8_isRule) (maxL := 2) (ret := (some .boolean)) (by decide) rfl ?_
  intro p e s m args below meth c s₁ B hml hv
  obtain ⟨rfl, hsz, hP, hg, hD0, hc⟩ := hv
  have hx := B.exec
  have hb := B.bytes
  have hr := B.returns
  have hts := atoms_spec (ws := wsX8_isRule) B.pre
  have hown : s.vm.findClass RX8 = some m.cls := findClass_of_methodNamed B.named
  have hlocks := B.notSynchronized
  subst hsz
  have hD := hD0.self (sz := s.heap.size)
  generalize hAe : va_A [(h_t, .inr (8, [.long t_trace, .ref h_t_text, .int t_typed, .ref h_t_said, .ref h_t_many, .long t_when, .long t_then, .ref h_t_grades, .ref h_t_doubts, .int t_at, .int t_token, .int t_start, .ref h_t_vals, .ref h_t_waits, .int t_valMany, .int t_waitMany, .int t_open, .long t_saying, .ref h_t_fresh, .ref h_t_freshMany, .int t_quarrel])), (h_t_many, .inl (G.2.1.2.1, 5, .inl t_many))] s.heap.size = A at hD hc ⊢
  have hA : ∀ q : Nat, s.heap.size ≤ q → A q := fun q h => by rw [← hAe]; exact Or.inr h
  have hiX8 : ∀ w ∈ wsX80, w ∈ wsX8_isRule := by decide +kernel
  have hl := lv_entry ([.ref h_t, .int a1]) (n := 2) (Nat.le_of_ble_eq_true rfl)
  rw [lg_entry_eq]
  generalize (lg_sl ([.ref h_t, .int a1]) ++ List.replicate (2 - (lg_sl ([.ref h_t, .int a1])).length) Slot.unset).toArray = ls at hl ⊢
  have hl : lv_has ls 2 [(0, .ref h_t), (1, .int a1)] := hl
  have hf := ho
  unfold f_X8_isRule at hf
  refine en (fun H locs hP hD hS => ?_) hP hD
  refine lv_iload_n hx hb dX8_isRule_0 rfl (lv_at hl 1 rfl) ?_
  refine lv_i2l (v := (a1).toInt64) hx hb dX8_isRule_1 rfl ?_
  refine lv_lconst (v := (0 : Int64)) hx hb dX8_isRule_2 (by decide) ?_
  refine lv_aload_n hx hb dX8_isRule_3 rfl (lv_at hl 0 rfl) ?_
  refine va_get (D := G.1) (ci := 8) (v := .ref h_t_many) (C := RX8) (T := TX8) (N := 21) hx hb hts hiX8 hown hg.1 hP 0 rfl rfl 4 (by decide) (hts (.fieldLink RX8 17 "AsARuleModel" "many" "[I") (by decide +kernel)) (fun _ h9 => h9) rfl dX8_isRule_4 ?_
  refine lv_iconst (v := (1 : Int32)) hx hb dX8_isRule_7 (by decide) ?_
  refine va_iald hx hb hg.1 hP 1 1 rfl rfl (ib_in (gd_t hf)) dX8_isRule_8 ?_
  have hf := gd_x hf
  refine lv_iconst (v := (1 : Int32)) hx hb dX8_isRule_9 (by decide) ?_
  refine lv_isub hx hb dX8_isRule_10 ?_
  refine lv_i2l (v := (((t_many (1 : Int32).toNatClampNeg) - (1 : Int32))).toInt64) hx hb dX8_isRule_11 rfl ?_
  obtain ⟨o1, ho1, hf⟩ := bd_e hf
  refine af0_i (va_runS (As := [.long ((a1).toInt64), .long (0 : Int64), .long ((((t_many (1 : Int32).toNatClampNeg) - (1 : Int32))).toInt64)]) (rest := []) ⟨hx, hb, hml, hown, hts⟩ (c_X8_in l G H.size ((a1).toInt64) (0 : Int64) ((((t_many (1 : Int32).toNatClampNeg) - (1 : Int32))).toInt64) o1 ho1) (va_cwS 3 hts gX8_isRule_X8_in rfl rfl rfl (by decide +kernel) ⟨Nat.le_of_ble_eq_true rfl, Nat.le_of_ble_eq_true rfl⟩) (pcA_pre hg hc hP hD hS hA [] rfl rfl [.long ((a1).toInt64), .long (0 : Int64), .long ((((t_many (1 : Int32).toNatClampNeg) - (1 : Int32))).toInt64)]) rfl rfl hl.1 rfl (lv_room (Nat.le_of_ble_eq_true rfl)) dX8_isRule_12 ⟨Nat.zero_le _, Nat.zero_le _⟩) hP hD hS hA (fun H locs hP hD hS => ?_)
  have z2 := gd_t hf
  have hf := gd_x hf
  rw [← Option.some.inj hf]
  exact rt_z (u := ()) hx hb hr z2 hlocks hP hD trivial hS dX8_isRule_15
-- method X8_grade
def f_X8_grade (t_many : Nat → Int32) (t_grades : Nat → Int32) (a1 : Int32) : Option (Int32) :=
  bd (f_X8_isRule t_many a1) (fun o1 => if o1 = (0 : Int32) then some ((-1 : Int32)) else gd (ib a1 9) (some ((t_grades a1.toNatClampNeg))))
set_option maxHeartbeats 4000000 in
set_option maxRecDepth 100000 in
theorem c_X8_grade (l : Launch) (G : GG) (h_t h_t_text h_t_said h_t_many h_t_grades h_t_doubts h_t_vals h_t_waits h_t_fresh h_t_freshMany : Nat) (sz : Nat) (t_trace : Int64) (t_typed : Int32) (t_when : Int64) (t_then : Int64) (t_at : Int32) (t_token : Int32) (t_start : Int32) (t_valMany : Int32) (t_waitMany : Int32) (t_open : Int32) (t_saying : Int64) (t_quarrel : Int32) (t_many : Nat → Int32) (t_grades : Nat → Int32) (a1 : Int32) (o : Int32) (ho : f_X8_grade t_many t_grades a1 = some o)  : Met l yX8_grade wsX8_grade ({ frames := 2, cells := 0, slots := 0, locals := 46 } : Room) (pcA G [.ref h_t, .int a1] [(h_t, .inr (8, [.long t_trace, .ref h_t_text, .int t_typed, .ref h_t_said, .ref h_t_many, .long t_when, .long t_then, .ref h_t_grades, .ref h_t_doubts, .int t_at, .int t_token, .int t_start, .ref h_t_vals, .ref h_t_waits, .int t_valMany, .int t_waitMany, .int t_open, .long t_saying, .ref h_t_fresh, .ref h_t_freshMany, .int t_quarrel])), (h_t_many, .inl (G.2.1.2.1, 5, .inl t_many)), (h_t_grades, .inl (G.2.1.2.1, 9, .inl t_grades))] sz) (qcI Unit G o (fun _ => True) (fun _ => [(h_t, .inr (8, [.long t_trace, .ref h_t_text, .int t_typed, .ref h_t_said, .ref h_t_many, .long t_when, .long t_then, .ref h_t_grades, .ref h_t_doubts, .int t_at, .int t_token, .int t_start, .ref h_t_vals, .ref h_t_waits, .int t_valMany, .int t_waitMany, .int t_open, .long t_saying, .ref h_t_fresh, .ref h_t_freshMany, .int t_quarrel])), (h_t_many, .inl (G.2.1.2.1, 5, .inl t_many)), (h_t_grades, .inl (G.2.1.2.1, 9, .inl t_grades))]) (va_A [(h_t, .inr (8, [.long t_trace, .ref h_t_text, .int t_typed, .ref h_t_said, .ref h_t_many, .long t_when, .long t_then, .ref h_t_grades, .ref h_t_doubts, .int t_at, .int t_token, .int t_start, .ref h_t_vals, .ref h_t_waits, .int t_valMany, .int t_waitMany, .int t_open, .long t_saying, .ref h_t_fresh, .ref h_t_freshMany, .int t_quarrel])), (h_t_many, .inl (G.2.1.2.1, 5, .inl t_many)), (h_t_grades, .inl (G.2.1.2.1, 9, .inl t_grades))] sz)) 0 0 (va_A [(h_t, .inr (8, [.long t_trace, .ref h_t_text, .int t_typed, .ref h_t_said, .ref h_t_many, .long t_when, .long t_then, .ref h_t_grades, .ref h_t_doubts, .int t_at, .int t_token, .int t_start, .ref h_t_vals, .ref h_t_waits, .int t_valMany, .int t_waitMany, .int t_open, .long t_saying, .ref h_t_fresh, .ref h_t_freshMany, .int t_quarrel])), (h_t_many, .inl (G.2.1.2.1, 5, .inl t_many)), (h_t_grades, .inl (G.2.1.2.1, 9, .inl t_grades))] sz) := by
  refine Met.ofW (cc := cX8_grade) (maxL := 2) (ret := (some .int)) (by decide) rfl ?_
  intro p e s m args below meth c s₁ B hml hv
  obtain ⟨rfl, hsz, hP, hg, hD0, hc⟩ := hv
  have hx := B.exec
  have hb := B.bytes
  have hr := B.returns
  have hts := atoms_spec (ws := wsX8_grade) B.pre
  have hown : s.vm.findClass RX8 = some m.cls := findClass_of_methodNamed B.named
  have hlocks := B.notSynchronized
  subst hsz
  have hD := hD0.self (sz := s.heap.size)
  generalize hAe : va_A [(h_t, .inr (8, [.long t_trace, .ref h_t_text, .int t_typed, .ref h_t_said, .ref h_t_many, .long t_when, .long t_then, .ref h_t_grades, .ref h_t_doubts, .int t_at, .int t_token, .int t_start, .ref h_t_vals, .ref h_t_waits, .int t_valMany, .int t_waitMany, .int t_open, .long t_saying, .ref h_t_fresh, .ref h_t_freshMany, .int t_quarrel])), (h_t_many, .inl (G.2.1.2.1, 5, .inl t_many)), (h_t_grades, .inl (G.2.1.2.1, 9, .inl t_grades))] s.heap.size = A at hD hc ⊢
  have hA : ∀ q : Nat, s.heap.size ≤ q → A q := fun q h => by rw [← hAe]; exact Or.inr h
  have hiX8 : ∀ w ∈ wsX80, w ∈ wsX8_grade := by decide +kernel
  have hl := lv_entry ([.ref h_t, .int a1]) (n := 2) (Nat.le_of_ble_eq_true rfl)
  rw [lg_entry_eq]
  generalize (lg_sl ([.ref h_t, .int a1]) ++ List.replicate (2 - (lg_sl ([.ref h_t, .int a1])).length) Slot.unset).toArray = ls at hl ⊢
  have hl : lv_has ls 2 [(0, .ref h_t), (1, .int a1)] := hl
  have hf := ho
  unfold f_X8_grade at hf
  refine en (fun H locs hP hD hS => ?_) hP hD
  refine lv_aload_n hx hb dX8_grade_0 rfl (lv_at hl 0 rfl) ?_
  refine lv_iload_n hx hb dX8_grade_1 rfl (lv_at hl 1 rfl) ?_
  obtain ⟨o1, ho1, hf⟩ := bd_e hf
  refine af_i (wr := [(h_t_grades, .inl (G.2.1.2.1, 9, .inl t_grades))]) (va_runV (As := [.int a1]) (rest := []) ⟨hx, hb, hml, hown, hts⟩ (c_X8_isRule l G h_t h_t_text h_t_said h_t_many h_t_grades h_t_doubts h_t_vals h_t_waits h_t_fresh h_t_freshMany H.size t_trace t_typed t_when t_then t_at t_token t_start t_valMany t_waitMany t_open t_saying t_quarrel t_many a1 o1 ho1) (cwV 1 hts gX8_grade_X8_isRule rfl rfl rfl (by decide +kernel) ⟨Nat.le_of_ble_eq_true rfl, Nat.le_of_ble_eq_true rfl⟩) (pcA_preV hg hc hP hD hS hA [0, 1] rfl (by decide) (q0 := 0) (ci := 8) rfl rfl rfl) rfl rfl hl.1 rfl (lv_room (Nat.le_of_ble_eq_true rfl)) dX8_grade_2 ⟨Nat.zero_le _, Nat.zero_le _⟩) hP hD hS hA [0, 1] [2] rfl rfl (by decide) (by decide) (fun _ H locs _ hP hD hS => ?_)
  have hP : va_P G.1 vwCl [(h_t, .inr (8, [.long t_trace, .ref h_t_text, .int t_typed, .ref h_t_said, .ref h_t_many, .long t_when, .long t_then, .ref h_t_grades, .ref h_t_doubts, .int t_at, .int t_token, .int t_start, .ref h_t_vals, .ref h_t_waits, .int t_valMany, .int t_waitMany, .int t_open, .long t_saying, .ref h_t_fresh, .ref h_t_freshMany, .int t_quarrel])), (h_t_many, .inl (G.2.1.2.1, 5, .inl t_many)), (h_t_grades, .inl (G.2.1.2.1, 9, .inl t_grades))] H := hP.sub [1, 2, 0] rfl
  have hD : va_D A [(h_t, .inr (8, [.long t_trace, .ref h_t_text, .int t_typed, .ref h_t_said, .ref h_t_many, .long t_when, .long t_then, .ref h_t_grades, .ref h_t_doubts, .int t_at, .int t_token, .int t_start, .ref h_t_vals, .ref h_t_waits, .int t_valMany, .int t_waitMany, .int t_open, .long t_saying, .ref h_t_fresh, .ref h_t_freshMany, .int t_quarrel])), (h_t_many, .inl (G.2.1.2.1, 5, .inl t_many)), (h_t_grades, .inl (G.2.1.2.1, 9, .inl t_grades))] := hD.sub [1, 2, 0] (by decide) rfl
  refine lv_if_eq (tgt := 17) hx hb dX8_grade_5 (by decide) (fun c2 => ?_) (fun c2 => ?_)
  · have hf := it_t c2 hf
    refine lv_iconst (v := (-1 : Int32)) hx hb dX8_grade_17 (by decide) ?_
    rw [← Option.some.inj hf]
    exact rt_i (u := ()) hx hb hr hlocks hP hD trivial hS dX8_grade_18
  · have hf := it_f c2 hf
    refine lv_aload_n hx hb dX8_grade_8 rfl (lv_at hl 0 rfl) ?_
    refine va_get (D := G.1) (ci := 8) (v := .ref h_t_grades) (C := RX8) (T := TX8) (N := 21) hx hb hts hiX8 hown hg.1 hP 0 rfl rfl 7 (by decide) (hts (.fieldLink RX8 20 "AsARuleModel" "grades" "[I") (by decide +kernel)) (fun _ h9 => h9) rfl dX8_grade_9 ?_
    refine lv_iload_n hx hb dX8_grade_12 rfl (lv_at hl 1 rfl) ?_
    refine va_iald hx hb hg.1 hP 2 1 rfl rfl (ib_in (gd_t hf)) dX8_grade_13 ?_
    have hf := gd_x hf
    refine lv_goto (tgt := 18) hx hb dX8_grade_14 (by decide) ?_
    rw [← Option.some.inj hf]
    exact rt_i (u := ()) hx hb hr hlocks hP hD trivial hS dX8_grade_18
-- method X8_gradeOf
def f_X8_gradeOf (t_said : Nat → Int64) (t_many : Nat → Int32) (t_grades : Nat → Int32) (a1 : Int32) : Option (Int32) :=
  bd (f_X8_isWorld a1) (fun o1 => if o1 = (0 : Int32) then some ((-1 : Int32)) else bd (f_X8_worldGrade t_said t_many t_grades a1) (fun o3 => some (o3)))
set_option maxHeartbeats 4000000 in
set_option maxRecDepth 100000 in
theorem c_X8_gradeOf (l : Launch) (G : GG) (h_t h_t_text h_t_said h_t_many h_t_grades h_t_doubts h_t_vals h_t_waits h_t_fresh h_t_freshMany : Nat) (sz : Nat) (t_trace : Int64) (t_typed : Int32) (t_when : Int64) (t_then : Int64) (t_at : Int32) (t_token : Int32) (t_start : Int32) (t_valMany : Int32) (t_waitMany : Int32) (t_open : Int32) (t_saying : Int64) (t_quarrel : Int32) (t_said : Nat → Int64) (t_many : Nat → Int32) (t_grades : Nat → Int32) (a1 : Int32) (o : Int32) (ho : f_X8_gradeOf t_said t_many t_grades a1 = some o)  : Met l yX8_gradeOf wsX8_gradeOf ({ frames := 3, cells := 0, slots := 0, locals := 68 } : Room) (pcA G [.ref h_t, .int a1] [(h_t, .inr (8, [.long t_trace, .ref h_t_text, .int t_typed, .ref h_t_said, .ref h_t_many, .long t_when, .long t_then, .ref h_t_grades, .ref h_t_doubts, .int t_at, .int t_token, .int t_start, .ref h_t_vals, .ref h_t_waits, .int t_valMany, .int t_waitMany, .int t_open, .long t_saying, .ref h_t_fresh, .ref h_t_freshMany, .int t_quarrel])), (h_t_said, .inl (G.2.1.2.2, 45, .inr (.inl t_said))), (h_t_many, .inl (G.2.1.2.1, 5, .inl t_many)), (h_t_grades, .inl (G.2.1.2.1, 9, .inl t_grades))] sz) (qcI Unit G o (fun _ => True) (fun _ => [(h_t, .inr (8, [.long t_trace, .ref h_t_text, .int t_typed, .ref h_t_said, .ref h_t_many, .long t_when, .long t_then, .ref h_t_grades, .ref h_t_doubts, .int t_at, .int t_token, .int t_start, .ref h_t_vals, .ref h_t_waits, .int t_valMany, .int t_waitMany, .int t_open, .long t_saying, .ref h_t_fresh, .ref h_t_freshMany, .int t_quarrel])), (h_t_said, .inl (G.2.1.2.2, 45, .inr (.inl t_said))), (h_t_many, .inl (G.2.1.2.1, 5, .inl t_many)), (h_t_grades, .inl (G.2.1.2.1, 9, .inl t_grades))]) (va_A [(h_t, .inr (8, [.long t_trace, .ref h_t_text, .int t_typed, .ref h_t_said, .ref h_t_many, .long t_when, .long t_then, .ref h_t_grades, .ref h_t_doubts, .int t_at, .int t_token, .int t_start, .ref h_t_vals, .ref h_t_waits, .int t_valMany, .int t_waitMany, .int t_open, .long t_saying, .ref h_t_fresh, .ref h_t_freshMany, .int t_quarrel])), (h_t_said, .inl (G.2.1.2.2, 45, .inr (.inl t_said))), (h_t_many, .inl (G.2.1.2.1, 5, .inl t_many)), (h_t_grades, .inl (G.2.1.2.1, 9, .inl t_grades))] sz)) 0 0 (va_A [(h_t, .inr (8, [.long t_trace, .ref h_t_text, .int t_typed, .ref h_t_said, .ref h_t_many, .long t_when, .long t_then, .ref h_t_grades, .ref h_t_doubts, .int t_at, .int t_token, .int t_start, .ref h_t_vals, .ref h_t_waits, .int t_valMany, .int t_waitMany, .int t_open, .long t_saying, .ref h_t_fresh, .ref h_t_freshMany, .int t_quarrel])), (h_t_said, .inl (G.2.1.2.2, 45, .inr (.inl t_said))), (h_t_many, .inl (G.2.1.2.1, 5, .inl t_many)), (h_t_grades, .inl (G.2.1.2.1, 9, .inl t_grades))] sz) := by
  refine Met.ofW (cc := cX8_gradeOf) (maxL := 2) (ret := (some .int)) (by decide) rfl ?_
  intro p e s m args below meth c s₁ B hml hv
  obtain ⟨rfl, hsz, hP, hg, hD0, hc⟩ := hv
  have hx := B.exec
  have hb := B.bytes
  have hr := B.returns
  have hts := atoms_spec (ws := wsX8_gradeOf) B.pre
  have hown : s.vm.findClass RX8 = some m.cls := findClass_of_methodNamed B.named
  have hlocks := B.notSynchronized
  subst hsz
  have hD := hD0.self (sz := s.heap.size)
  generalize hAe : va_A [(h_t, .inr (8, [.long t_trace, .ref h_t_text, .int t_typed, .ref h_t_said, .ref h_t_many, .long t_when, .long t_then, .ref h_t_grades, .ref h_t_doubts, .int t_at, .int t_token, .int t_start, .ref h_t_vals, .ref h_t_waits, .int t_valMany, .int t_waitMany, .int t_open, .long t_saying, .ref h_t_fresh, .ref h_t_freshMany, .int t_quarrel])), (h_t_said, .inl (G.2.1.2.2, 45, .inr (.inl t_said))), (h_t_many, .inl (G.2.1.2.1, 5, .inl t_many)), (h_t_grades, .inl (G.2.1.2.1, 9, .inl t_grades))] s.heap.size = A at hD hc ⊢
  have hA : ∀ q : Nat, s.heap.size ≤ q → A q := fun q h => by rw [← hAe]; exact Or.inr h
  have hl := lv_entry ([.ref h_t, .int a1]) (n := 2) (Nat.le_of_ble_eq_true rfl)
  rw [lg_entry_eq]
  generalize (lg_sl ([.ref h_t, .int a1]) ++ List.replicate (2 - (lg_sl ([.ref h_t, .int a1])).length) Slot.unset).toArray = ls at hl ⊢
  have hl : lv_has ls 2 [(0, .ref h_t), (1, .int a1)] := hl
  have hf := ho
  unfold f_X8_gradeOf at hf
  refine en (fun H locs hP hD hS => ?_) hP hD
  refine lv_iload_n hx hb dX8_gradeOf_0 rfl (lv_at hl 1 rfl) ?_
  obtain ⟨o1, ho1, hf⟩ := bd_e hf
  refine af0_i (va_runS (As := [.int a1]) (rest := []) ⟨hx, hb, hml, hown, hts⟩ (c_X8_isWorld l G H.size a1 o1 ho1) (va_cwS 1 hts gX8_gradeOf_X8_isWorld rfl rfl rfl (by decide +kernel) ⟨Nat.le_of_ble_eq_true rfl, Nat.le_of_ble_eq_true rfl⟩) (pcA_pre hg hc hP hD hS hA [] rfl rfl [.int a1]) rfl rfl hl.1 rfl (lv_room (Nat.le_of_ble_eq_true rfl)) dX8_gradeOf_1 ⟨Nat.zero_le _, Nat.zero_le _⟩) hP hD hS hA (fun H locs hP hD hS => ?_)
  refine lv_if_eq (tgt := 15) hx hb dX8_gradeOf_4 (by decide) (fun c2 => ?_) (fun c2 => ?_)
  · have hf := it_t c2 hf
    refine lv_iconst (v := (-1 : Int32)) hx hb dX8_gradeOf_15 (by decide) ?_
    rw [← Option.some.inj hf]
    exact rt_i (u := ()) hx hb hr hlocks hP hD trivial hS dX8_gradeOf_16
  · have hf := it_f c2 hf
    refine lv_aload_n hx hb dX8_gradeOf_7 rfl (lv_at hl 0 rfl) ?_
    refine lv_iload_n hx hb dX8_gradeOf_8 rfl (lv_at hl 1 rfl) ?_
    obtain ⟨o3, ho3, hf⟩ := bd_e hf
    refine af_i (wr := []) (va_runV (As := [.int a1]) (rest := []) ⟨hx, hb, hml, hown, hts⟩ (c_X8_worldGrade l G h_t h_t_text h_t_said h_t_many h_t_grades h_t_doubts h_t_vals h_t_waits h_t_fresh h_t_freshMany H.size t_trace t_typed t_when t_then t_at t_token t_start t_valMany t_waitMany t_open t_saying t_quarrel t_said t_many t_grades a1 o3 ho3) (cwV 1 hts gX8_gradeOf_X8_worldGrade rfl rfl rfl (by decide +kernel) ⟨Nat.le_of_ble_eq_true rfl, Nat.le_of_ble_eq_true rfl⟩) (pcA_preV hg hc hP hD hS hA [0, 1, 2, 3] rfl (by decide) (q0 := 0) (ci := 8) rfl rfl rfl) rfl rfl hl.1 rfl (lv_room (Nat.le_of_ble_eq_true rfl)) dX8_gradeOf_9 ⟨Nat.zero_le _, Nat.zero_le _⟩) hP hD hS hA [0, 1, 2, 3] [] rfl rfl (by decide) (by decide) (fun _ H locs _ hP hD hS => ?_)
    have hP : va_P G.1 vwCl [(h_t, .inr (8, [.long t_trace, .ref h_t_text, .int t_typed, .ref h_t_said, .ref h_t_many, .long t_when, .long t_then, .ref h_t_grades, .ref h_t_doubts, .int t_at, .int t_token, .int t_start, .ref h_t_vals, .ref h_t_waits, .int t_valMany, .int t_waitMany, .int t_open, .long t_saying, .ref h_t_fresh, .ref h_t_freshMany, .int t_quarrel])), (h_t_said, .inl (G.2.1.2.2, 45, .inr (.inl t_said))), (h_t_many, .inl (G.2.1.2.1, 5, .inl t_many)), (h_t_grades, .inl (G.2.1.2.1, 9, .inl t_grades))] H := hP
    have hD : va_D A [(h_t, .inr (8, [.long t_trace, .ref h_t_text, .int t_typed, .ref h_t_said, .ref h_t_many, .long t_when, .long t_then, .ref h_t_grades, .ref h_t_doubts, .int t_at, .int t_token, .int t_start, .ref h_t_vals, .ref h_t_waits, .int t_valMany, .int t_waitMany, .int t_open, .long t_saying, .ref h_t_fresh, .ref h_t_freshMany, .int t_quarrel])), (h_t_said, .inl (G.2.1.2.2, 45, .inr (.inl t_said))), (h_t_many, .inl (G.2.1.2.1, 5, .inl t_many)), (h_t_grades, .inl (G.2.1.2.1, 9, .inl t_grades))] := hD
    refine lv_goto (tgt := 16) hx hb dX8_gradeOf_12 (by decide) ?_
    rw [← Option.some.inj hf]
    exact rt_i (u := ()) hx hb hr hlocks hP hD trivial hS dX8_gradeOf_16
-- method X8_breaks
def lp_X8_breaks_13 (t_said : Nat → Int64) (t_many : Nat → Int32) (a1 : Int32) : Nat → Int32 → Int32 → Option (Int32)
  | 0, _, _ => none
  | n + 1, v2, v3 => gd (ib (1 : Int32) 5) (if (t_many (1 : Int32).toNatClampNeg) ≤ v3 then some (v2) else bd (f_X8_broken t_said v3) (fun o2 => bd (f_X8_has o2 a1) (fun o3 => if o3 = (0 : Int32) then lt (v2 ||| (0 : Int32)) (fun x5 => lt (v3 + (1 : Int32)) (fun x6 => lp_X8_breaks_13 t_said t_many a1 n x5 x6)) else lt (v2 ||| ((1 : Int32) <<< (v3 &&& 31))) (fun x7 => lt (v3 + (1 : Int32)) (fun x8 => lp_X8_breaks_13 t_said t_many a1 n x7 x8)))))
def f_X8_breaks (t_said : Nat → Int64) (t_many : Nat → Int32) (a1 : Int32) : Option (Int32) :=
  bd (f_X8_isWorld a1) (fun o9 => if o9 = (0 : Int32) then some ((-1 : Int32)) else lp_X8_breaks_13 t_said t_many a1 fu (0 : Int32) (0 : Int32))
set_option maxHeartbeats 4000000 in
set_option maxRecDepth 100000 in
theorem c_X8_breaks (l : Launch) (G : GG) (h_t h_t_text h_t_said h_t_many h_t_grades h_t_doubts h_t_vals h_t_waits h_t_fresh h_t_freshMany : Nat) (sz : Nat) (t_trace : Int64) (t_typed : Int32) (t_when : Int64) (t_then : Int64) (t_at : Int32) (t_token : Int32) (t_start : Int32) (t_valMany : Int32) (t_waitMany : Int32) (t_open : Int32) (t_saying : Int64) (t_quarrel : Int32) (t_said : Nat → Int64) (t_many : Nat → Int32) (a1 : Int32) (o : Int32) (ho : f_X8_breaks t_said t_many a1 = some o)  : Met l yX8_breaks wsX8_breaks ({ frames := 2, cells := 0, slots := 0, locals := 45 } : Room) (pcA G [.ref h_t, .int a1] [(h_t, .inr (8, [.long t_trace, .ref h_t_text, .int t_typed, .ref h_t_said, .ref h_t_many, .long t_when, .long t_then, .ref h_t_grades, .ref h_t_doubts, .int t_at, .int t_token, .int t_start, .ref h_t_vals, .ref h_t_waits, .int t_valMany, .int t_waitMany, .int t_open, .long t_saying, .ref h_t_fresh, .ref h_t_freshMany, .int t_quarrel])), (h_t_said, .inl (G.2.1.2.2, 45, .inr (.inl t_said))), (h_t_many, .inl (G.2.1.2.1, 5, .inl t_many))] sz) (qcI Unit G o (fun _ => True) (fun _ => [(h_t, .inr (8, [.long t_trace, .ref h_t_text, .int t_typed, .ref h_t_said, .ref h_t_many, .long t_when, .long t_then, .ref h_t_grades, .ref h_t_doubts, .int t_at, .int t_token, .int t_start, .ref h_t_vals, .ref h_t_waits, .int t_valMany, .int t_waitMany, .int t_open, .long t_saying, .ref h_t_fresh, .ref h_t_freshMany, .int t_quarrel])), (h_t_said, .inl (G.2.1.2.2, 45, .inr (.inl t_said))), (h_t_many, .inl (G.2.1.2.1, 5, .inl t_many))]) (va_A [(h_t, .inr (8, [.long t_trace, .ref h_t_text, .int t_typed, .ref h_t_said, .ref h_t_many, .long t_when, .long t_then, .ref h_t_grades, .ref h_t_doubts, .int t_at, .int t_token, .int t_start, .ref h_t_vals, .ref h_t_waits, .int t_valMany, .int t_waitMany, .int t_open, .long t_saying, .ref h_t_fresh, .ref h_t_freshMany, .int t_quarrel])), (h_t_said, .inl (G.2.1.2.2, 45, .inr (.inl t_said))), (h_t_many, .inl (G.2.1.2.1, 5, .inl t_many))] sz)) 0 0 (va_A [(h_t, .inr (8, [.long t_trace, .ref h_t_text, .int t_typed, .ref h_t_said, .ref h_t_many, .long t_when, .long t_then, .ref h_t_grades, .ref h_t_doubts, .int t_at, .int t_token, .int t_start, .ref h_t_vals, .ref h_t_waits, .int t_valMany, .int t_waitMany, .int t_open, .long t_saying, .ref h_t_fresh, .ref h_t_freshMany, .int t_quarrel])), (h_t_said, .inl (G.2.1.2.2, 45, .inr (.inl t_said))), (h_t_many, .inl (G.2.1.2.1, 5, .inl t_many))] sz) := by
  refine Met.ofW (cc := cX8_breaks) (maxL := 4) (ret := (some .int)) (by decide) rfl ?_
  intro p e s m args below meth c s₁ B hml hv
  obtain ⟨rfl, hsz, hP, hg, hD0, hc⟩ := hv
  have hx := B.exec
  have hb := B.bytes
  have hr := B.returns
  have hts := atoms_spec (ws := wsX8_breaks) B.pre
  have hown : s.vm.findClass RX8 = some m.cls := findClass_of_methodNamed B.named
  have hlocks := B.notSynchronized
  subst hsz
  have hD := hD0.self (sz := s.heap.size)
  generalize hAe : va_A [(h_t, .inr (8, [.long t_trace, .ref h_t_text, .int t_typed, .ref h_t_said, .ref h_t_many, .long t_when, .long t_then, .ref h_t_grades, .ref h_t_doubts, .int t_at, .int t_token, .int t_start, .ref h_t_vals, .ref h_t_waits, .int t_valMany, .int t_waitMany, .int t_open, .long t_saying, .ref h_t_fresh, .ref h_t_freshMany, .int t_quarrel])), (h_t_said, .inl (G.2.1.2.2, 45, .inr (.inl t_said))), (h_t_many, .inl (G.2.1.2.1, 5, .inl t_many))] s.heap.size = A at hD hc ⊢
  have hA : ∀ q : Nat, s.heap.size ≤ q → A q := fun q h => by rw [← hAe]; exact Or.inr h
  have hiX8 : ∀ w ∈ wsX80, w ∈ wsX8_breaks := by decide +kernel
  have hl := lv_entry ([.ref h_t, .int a1]) (n := 4) (Nat.le_of_ble_eq_true rfl)
  rw [lg_entry_eq]
  generalize (lg_sl ([.ref h_t, .int a1]) ++ List.replicate (4 - (lg_sl ([.ref h_t, .int a1])).length) Slot.unset).toArray = ls at hl ⊢
  have hl : lv_has ls 4 [(0, .ref h_t), (1, .int a1)] := hl
  have hf := ho
  have hw_13 : ∀  (n : Nat) (v2 : Int32) (v3 : Int32), lp_X8_breaks_13 t_said t_many a1 n v2 v3 = some o → ∀ (H : Heap) (locs : List Loc), va_P G.1 vwCl [(h_t, .inr (8, [.long t_trace, .ref h_t_text, .int t_typed, .ref h_t_said, .ref h_t_many, .long t_when, .long t_then, .ref h_t_grades, .ref h_t_doubts, .int t_at, .int t_token, .int t_start, .ref h_t_vals, .ref h_t_waits, .int t_valMany, .int t_waitMany, .int t_open, .long t_saying, .ref h_t_fresh, .ref h_t_freshMany, .int t_quarrel])), (h_t_said, .inl (G.2.1.2.2, 45, .inr (.inl t_said))), (h_t_many, .inl (G.2.1.2.1, 5, .inl t_many))] H → va_D A [(h_t, .inr (8, [.long t_trace, .ref h_t_text, .int t_typed, .ref h_t_said, .ref h_t_many, .long t_when, .long t_then, .ref h_t_grades, .ref h_t_doubts, .int t_at, .int t_token, .int t_start, .ref h_t_vals, .ref h_t_waits, .int t_valMany, .int t_waitMany, .int t_open, .long t_saying, .ref h_t_fresh, .ref h_t_freshMany, .int t_quarrel])), (h_t_said, .inl (G.2.1.2.2, 45, .inr (.inl t_said))), (h_t_many, .inl (G.2.1.2.1, 5, .inl t_many))] → va_S A s.heap H locs → ∀ (ls : Array Slot), lv_has ls 4 [(0, .ref h_t), (1, .int a1), (2, .int v2), (3, .int v3)] → W p l e (headSpec wsX8_breaks ({ frames := 2, cells := 0, slots := 0, locals := 45 } : Room)).room s m ([.ref h_t, .int a1] : List Value).toArray below meth c H locs 0 0 (MQ below (qcI Unit G o (fun _ => True) (fun _ => [(h_t, .inr (8, [.long t_trace, .ref h_t_text, .int t_typed, .ref h_t_said, .ref h_t_many, .long t_when, .long t_then, .ref h_t_grades, .ref h_t_doubts, .int t_at, .int t_token, .int t_start, .ref h_t_vals, .ref h_t_waits, .int t_valMany, .int t_waitMany, .int t_open, .long t_saying, .ref h_t_fresh, .ref h_t_freshMany, .int t_quarrel])), (h_t_said, .inl (G.2.1.2.2, 45, .inr (.inl t_said))), (h_t_many, .inl (G.2.1.2.1, 5, .inl t_many))]) A) ([.ref h_t, .int a1] : List Value).toArray s 0 0 A) (F0 m 13 ls []) := by
    intro n
    induction n with
    | zero =>
      intro v2 v3 hf
      exact absurd hf (by rw [lp_X8_breaks_13]; intro h; cases h)
    | succ n ih =>
      intro v2 v3 hf H locs hP hD hS ls hl
      rw [lp_X8_breaks_13] at hf
      refine lv_iload_n hx hb dX8_breaks_13 rfl (lv_at hl 3 rfl) ?_
      refine lv_aload_n hx hb dX8_breaks_14 rfl (lv_at hl 0 rfl) ?_
      refine va_get (D := G.1) (ci := 8) (v := .ref h_t_many) (C := RX8) (T := TX8) (N := 21) hx hb hts hiX8 hown hg.1 hP 0 rfl rfl 4 (by decide) (hts (.fieldLink RX8 17 "AsARuleModel" "many" "[I") (by decide +kernel)) (fun _ h9 => h9) rfl dX8_breaks_15 ?_
      refine lv_iconst (v := (1 : Int32)) hx hb dX8_breaks_18 (by decide) ?_
      refine va_iald hx hb hg.1 hP 2 1 rfl rfl (ib_in (gd_t hf)) dX8_breaks_19 ?_
      have hf := gd_x hf
      refine lv_icmp_ge (tgt := 51) hx hb dX8_breaks_20 (by decide) (fun c1 => ?_) (fun c1 => ?_)
      · have hf := it_t c1 hf
        refine lv_iload_n hx hb dX8_breaks_51 rfl (lv_at hl 2 rfl) ?_
        rw [← Option.some.inj hf]
        exact rt_i (u := ()) hx hb hr hlocks hP hD trivial hS dX8_breaks_52
      · have hf := it_f c1 hf
        refine lv_iload_n hx hb dX8_breaks_23 rfl (lv_at hl 2 rfl) ?_
        refine lv_aload_n hx hb dX8_breaks_24 rfl (lv_at hl 0 rfl) ?_
        refine lv_iload_n hx hb dX8_breaks_25 rfl (lv_at hl 3 rfl) ?_
        obtain ⟨o2, ho2, hf⟩ := bd_e hf
        refine af_l (wr := [(h_t_many, .inl (G.2.1.2.1, 5, .inl t_many))]) (va_runV (As := [.int v3]) (rest := [.int v2]) ⟨hx, hb, hml, hown, hts⟩ (c_X8_broken l G h_t h_t_text h_t_said h_t_many h_t_grades h_t_doubts h_t_vals h_t_waits h_t_fresh h_t_freshMany H.size t_trace t_typed t_when t_then t_at t_token t_start t_valMany t_waitMany t_open t_saying t_quarrel t_said v3 o2 ho2) (cwV 1 hts gX8_breaks_X8_broken rfl rfl rfl (by decide +kernel) ⟨Nat.le_of_ble_eq_true rfl, Nat.le_of_ble_eq_true rfl⟩) (pcA_preV hg hc hP hD hS hA [0, 1] rfl (by decide) (q0 := 0) (ci := 8) rfl rfl rfl) rfl rfl hl.1 rfl (lv_room (Nat.le_of_ble_eq_true rfl)) dX8_breaks_26 ⟨Nat.zero_le _, Nat.zero_le _⟩) hP hD hS hA [0, 1] [2] rfl rfl (by decide) (by decide) (fun _ H locs _ hP hD hS => ?_)
        have hP : va_P G.1 vwCl [(h_t, .inr (8, [.long t_trace, .ref h_t_text, .int t_typed, .ref h_t_said, .ref h_t_many, .long t_when, .long t_then, .ref h_t_grades, .ref h_t_doubts, .int t_at, .int t_token, .int t_start, .ref h_t_vals, .ref h_t_waits, .int t_valMany, .int t_waitMany, .int t_open, .long t_saying, .ref h_t_fresh, .ref h_t_freshMany, .int t_quarrel])), (h_t_said, .inl (G.2.1.2.2, 45, .inr (.inl t_said))), (h_t_many, .inl (G.2.1.2.1, 5, .inl t_many))] H := hP.sub [1, 2, 0] rfl
        have hD : va_D A [(h_t, .inr (8, [.long t_trace, .ref h_t_text, .int t_typed, .ref h_t_said, .ref h_t_many, .long t_when, .long t_then, .ref h_t_grades, .ref h_t_doubts, .int t_at, .int t_token, .int t_start, .ref h_t_vals, .ref h_t_waits, .int t_valMany, .int t_waitMany, .int t_open, .long t_saying, .ref h_t_fresh, .ref h_t_freshMany, .int t_quarrel])), (h_t_said, .inl (G.2.1.2.2, 45, .inr (.inl t_said))), (h_t_many, .inl (G.2.1.2.1, 5, .inl t_many))] := hD.sub [1, 2, 0] (by decide) rfl
        refine lv_iload_n hx hb dX8_breaks_29 rfl (lv_at hl 1 rfl) ?_
        obtain ⟨o3, ho3, hf⟩ := bd_e hf
        refine af0_i (va_runS (As := [.long o2, .int a1]) (rest := [.int v2]) ⟨hx, hb, hml, hown, hts⟩ (c_X8_has l G H.size o2 a1 o3 ho3) (va_cwS 2 hts gX8_breaks_X8_has rfl rfl rfl (by decide +kernel) ⟨Nat.le_of_ble_eq_true rfl, Nat.le_of_ble_eq_true rfl⟩) (pcA_pre hg hc hP hD hS hA [] rfl rfl [.long o2, .int a1]) rfl rfl hl.1 rfl (lv_room (Nat.le_of_ble_eq_true rfl)) dX8_breaks_30 ⟨Nat.zero_le _, Nat.zero_le _⟩) hP hD hS hA (fun H locs hP hD hS => ?_)
        refine lv_if_eq (tgt := 42) hx hb dX8_breaks_33 (by decide) (fun c4 => ?_) (fun c4 => ?_)
        · have hf := it_t c4 hf
          refine lv_iconst (v := (0 : Int32)) hx hb dX8_breaks_42 (by decide) ?_
          refine lv_ior hx hb dX8_breaks_43 ?_
          refine lv_topi (fun x5 ex5 => ?_)
          have hf := lt_n hf x5 ex5
          refine lv_istore_n (lv' := [(2, .int x5), (0, .ref h_t), (1, .int a1), (3, .int v3)]) hx hb dX8_breaks_44 rfl hl (by decide) rfl (fun ls hl => ?_)
          obtain ⟨x6, ex6⟩ : ∃ y : Int32, y = (v3 + (1 : Int32)) := ⟨_, rfl⟩
          have hf := lt_n hf x6 ex6
          refine lv_iinc (v := x6) (lv' := [(3, .int x6), (2, .int x5), (0, .ref h_t), (1, .int a1)]) hx hb dX8_breaks_45 hl (k := 3) rfl (by rw [ex6]; rfl) (by decide) rfl (fun ls hl => ?_)
          refine lv_goto (tgt := 13) hx hb dX8_breaks_48 (by decide) ?_
          exact ih x5 x6 hf _ _ hP hD hS _ (lv_sub hl [2, 3, 1, 0] rfl)
        · have hf := it_f c4 hf
          refine lv_iconst (v := (1 : Int32)) hx hb dX8_breaks_36 (by decide) ?_
          refine lv_iload_n hx hb dX8_breaks_37 rfl (lv_at hl 3 rfl) ?_
          refine lv_ishl hx hb dX8_breaks_38 ?_
          refine lv_goto (tgt := 43) hx hb dX8_breaks_39 (by decide) ?_
          refine lv_ior hx hb dX8_breaks_43 ?_
          refine lv_topi (fun x7 ex7 => ?_)
          have hf := lt_n hf x7 ex7
          refine lv_istore_n (lv' := [(2, .int x7), (0, .ref h_t), (1, .int a1), (3, .int v3)]) hx hb dX8_breaks_44 rfl hl (by decide) rfl (fun ls hl => ?_)
          obtain ⟨x8, ex8⟩ : ∃ y : Int32, y = (v3 + (1 : Int32)) := ⟨_, rfl⟩
          have hf := lt_n hf x8 ex8
          refine lv_iinc (v := x8) (lv' := [(3, .int x8), (2, .int x7), (0, .ref h_t), (1, .int a1)]) hx hb dX8_breaks_45 hl (k := 3) rfl (by rw [ex8]; rfl) (by decide) rfl (fun ls hl => ?_)
          refine lv_goto (tgt := 13) hx hb dX8_breaks_48 (by decide) ?_
          exact ih x7 x8 hf _ _ hP hD hS _ (lv_sub hl [2, 3, 1, 0] rfl)
  unfold f_X8_breaks at hf
  refine en (fun H locs hP hD hS => ?_) hP hD
  refine lv_iload_n hx hb dX8_breaks_0 rfl (lv_at hl 1 rfl) ?_
  obtain ⟨o9, ho9, hf⟩ := bd_e hf
  refine af0_i (va_runS (As := [.int a1]) (rest := []) ⟨hx, hb, hml, hown, hts⟩ (c_X8_isWorld l G H.size a1 o9 ho9) (va_cwS 1 hts gX8_breaks_X8_isWorld rfl rfl rfl (by decide +kernel) ⟨Nat.le_of_ble_eq_true rfl, Nat.le_of_ble_eq_true rfl⟩) (pcA_pre hg hc hP hD hS hA [] rfl rfl [.int a1]) rfl rfl hl.1 rfl (lv_room (Nat.le_of_ble_eq_true rfl)) dX8_breaks_1 ⟨Nat.zero_le _, Nat.zero_le _⟩) hP hD hS hA (fun H locs hP hD hS => ?_)
  refine lv_if_ne (tgt := 9) hx hb dX8_breaks_4 (by decide) (fun c10 => ?_) (fun c10 => ?_)
  · have hf := it_f c10 hf
    refine lv_iconst (v := (0 : Int32)) hx hb dX8_breaks_9 (by decide) ?_
    refine lv_istore_n (lv' := [(2, .int (0 : Int32)), (0, .ref h_t), (1, .int a1)]) hx hb dX8_breaks_10 rfl hl (by decide) rfl (fun ls hl => ?_)
    refine lv_iconst (v := (0 : Int32)) hx hb dX8_breaks_11 (by decide) ?_
    refine lv_istore_n (lv' := [(3, .int (0 : Int32)), (2, .int (0 : Int32)), (0, .ref h_t), (1, .int a1)]) hx hb dX8_breaks_12 rfl hl (by decide) rfl (fun ls hl => ?_)
    exact hw_13 fu (0 : Int32) (0 : Int32) hf _ _ hP hD hS _ (lv_sub hl [2, 3, 1, 0] rfl)
  · have hf := it_t c10 hf
    refine lv_iconst (v := (-1 : Int32)) hx hb dX8_breaks_7 (by decide) ?_
    rw [← Option.some.inj hf]
    exact rt_i (u := ()) hx hb hr hlocks hP hD trivial hS dX8_breaks_8
-- method X8_counts
def jn_X8_counts_47 (t_said : Nat → Int64) (t_many : Nat → Int32) (t_grades : Nat → Int32) (a1 : Int32) (k_5 : Int64 → Int32 → Option (Int64)) (v2 : Int64) (v4 : Int32) (v5 : Int64) : Option (Int64) :=
  bd (f_X8_broken t_said v4) (fun o1 => bd (f_X8_has o1 a1) (fun o2 => if o2 = (0 : Int32) then lt (v2 + (0 : Int64)) (fun x4 => lt (v4 + (1 : Int32)) (fun x5 => k_5 x4 x5)) else lt (v2 + v5) (fun x6 => lt (v4 + (1 : Int32)) (fun x7 => k_5 x6 x7))))
def lp_X8_counts_22 (t_said : Nat → Int64) (t_many : Nat → Int32) (t_grades : Nat → Int32) (a1 : Int32) (k_5 : Int64 → Int32 → Option (Int64)) (v2 : Int64) (v4 : Int32) : Nat → Int64 → Int32 → Option (Int64)
  | 0, _, _ => none
  | n + 1, v5, v7 => bd (f_X8_gradeOfRule t_grades v4) (fun o8 => if o8 ≤ v7 then jn_X8_counts_47 t_said t_many t_grades a1 k_5 v2 v4 v5 else lt (v5 * (9 : Int64)) (fun x10 => lt (v7 + (1 : Int32)) (fun x11 => lp_X8_counts_22 t_said t_many t_grades a1 k_5 v2 v4 n x10 x11)))
def lp_X8_counts_5 (t_said : Nat → Int64) (t_many : Nat → Int32) (t_grades : Nat → Int32) (a1 : Int32) : Nat → Int64 → Int32 → Option (Int64)
  | 0, _, _ => none
  | n + 1, v2, v4 => gd (ib (1 : Int32) 5) (if (t_many (1 : Int32).toNatClampNeg) ≤ v4 then some (v2) else lp_X8_counts_22 t_said t_many t_grades a1 (fun v2 v4 => lp_X8_counts_5 t_said t_many t_grades a1 n v2 v4) v2 v4 fu (1 : Int64) (0 : Int32))
def f_X8_counts (t_said : Nat → Int64) (t_many : Nat → Int32) (t_grades : Nat → Int32) (a1 : Int32) : Option (Int64) :=
  lp_X8_counts_5 t_said t_many t_grades a1 fu (0 : Int64) (0 : Int32)
set_option maxHeartbeats 4000000 in
set_option maxRecDepth 100000 in
theorem c_X8_counts (l : Launch) (G : GG) (h_t h_t_text h_t_said h_t_many h_t_grades h_t_doubts h_t_vals h_t_waits h_t_fresh h_t_freshMany : Nat) (sz : Nat) (t_trace : Int64) (t_typed : Int32) (t_when : Int64) (t_then : Int64) (t_at : Int32) (t_token : Int32) (t_start : Int32) (t_valMany : Int32) (t_waitMany : Int32) (t_open : Int32) (t_saying : Int64) (t_quarrel : Int32) (t_said : Nat → Int64) (t_many : Nat → Int32) (t_grades : Nat → Int32) (a1 : Int32) (o : Int64) (ho : f_X8_counts t_said t_many t_grades a1 = some o)  : Met l yX8_counts wsX8_counts ({ frames := 1, cells := 0, slots := 0, locals := 22 } : Room) (pcA G [.ref h_t, .int a1] [(h_t, .inr (8, [.long t_trace, .ref h_t_text, .int t_typed, .ref h_t_said, .ref h_t_many, .long t_when, .long t_then, .ref h_t_grades, .ref h_t_doubts, .int t_at, .int t_token, .int t_start, .ref h_t_vals, .ref h_t_waits, .int t_valMany, .int t_waitMany, .int t_open, .long t_saying, .ref h_t_fresh, .ref h_t_freshMany, .int t_quarrel])), (h_t_said, .inl (G.2.1.2.2, 45, .inr (.inl t_said))), (h_t_many, .inl (G.2.1.2.1, 5, .inl t_many)), (h_t_grades, .inl (G.2.1.2.1, 9, .inl t_grades))] sz) (qcL Unit G o (fun _ => True) (fun _ => [(h_t, .inr (8, [.long t_trace, .ref h_t_text, .int t_typed, .ref h_t_said, .ref h_t_many, .long t_when, .long t_then, .ref h_t_grades, .ref h_t_doubts, .int t_at, .int t_token, .int t_start, .ref h_t_vals, .ref h_t_waits, .int t_valMany, .int t_waitMany, .int t_open, .long t_saying, .ref h_t_fresh, .ref h_t_freshMany, .int t_quarrel])), (h_t_said, .inl (G.2.1.2.2, 45, .inr (.inl t_said))), (h_t_many, .inl (G.2.1.2.1, 5, .inl t_many)), (h_t_grades, .inl (G.2.1.2.1, 9, .inl t_grades))]) (va_A [(h_t, .inr (8, [.long t_trace, .ref h_t_text, .int t_typed, .ref h_t_said, .ref h_t_many, .long t_when, .long t_then, .ref h_t_grades, .ref h_t_doubts, .int t_at, .int t_token, .int t_start, .ref h_t_vals, .ref h_t_waits, .int t_valMany, .int t_waitMany, .int t_open, .long t_saying, .ref h_t_fresh, .ref h_t_freshMany, .int t_quarrel])), (h_t_said, .inl (G.2.1.2.2, 45, .inr (.inl t_said))), (h_t_many, .inl (G.2.1.2.1, 5, .inl t_many)), (h_t_grades, .inl (G.2.1.2.1, 9, .inl t_grades))] sz)) 0 0 (va_A [(h_t, .inr (8, [.long t_trace, .ref h_t_text, .int t_typed, .ref h_t_said, .ref h_t_many, .long t_when, .long t_then, .ref h_t_grades, .ref h_t_doubts, .int t_at, .int t_token, .int t_start, .ref h_t_vals, .ref h_t_waits, .int t_valMany, .int t_waitMany, .int t_open, .long t_saying, .ref h_t_fresh, .ref h_t_freshMany, .int t_quarrel])), (h_t_said, .inl (G.2.1.2.2, 45, .inr (.inl t_said))), (h_t_many, .inl (G.2.1.2.1, 5, .inl t_many)), (h_t_grades, .inl (G.2.1.2.1, 9, .inl t_grades))] sz) := by
  refine Met.ofW (cc := cX8_counts) (maxL := 8) (ret := (some .long)) (by decide) rfl ?_
  intro p e s m args below meth c s₁ B hml hv
  obtain ⟨rfl, hsz, hP, hg, hD0, hc⟩ := hv
  have hx := B.exec
  have hb := B.bytes
  have hr := B.returns
  have hts := atoms_spec (ws := wsX8_counts) B.pre
  have hown : s.vm.findClass RX8 = some m.cls := findClass_of_methodNamed B.named
  have hlocks := B.notSynchronized
  subst hsz
  have hD := hD0.self (sz := s.heap.size)
  generalize hAe : va_A [(h_t, .inr (8, [.long t_trace, .ref h_t_text, .int t_typed, .ref h_t_said, .ref h_t_many, .long t_when, .long t_then, .ref h_t_grades, .ref h_t_doubts, .int t_at, .int t_token, .int t_start, .ref h_t_vals, .ref h_t_waits, .int t_valMany, .int t_waitMany, .int t_open, .long t_saying, .ref h_t_fresh, .ref h_t_freshMany, .int t_quarrel])), (h_t_said, .inl (G.2.1.2.2, 45, .inr (.inl t_said))), (h_t_many, .inl (G.2.1.2.1, 5, .inl t_many)), (h_t_grades, .inl (G.2.1.2.1, 9, .inl t_grades))] s.heap.size = A at hD hc ⊢
  have hA : ∀ q : Nat, s.heap.size ≤ q → A q := fun q h => by rw [← hAe]; exact Or.inr h
  have hiX8 : ∀ w ∈ wsX80, w ∈ wsX8_counts := by decide +kernel
  have hl := lv_entry ([.ref h_t, .int a1]) (n := 8) (Nat.le_of_ble_eq_true rfl)
  rw [lg_entry_eq]
  generalize (lg_sl ([.ref h_t, .int a1]) ++ List.replicate (8 - (lg_sl ([.ref h_t, .int a1])).length) Slot.unset).toArray = ls at hl ⊢
  have hl : lv_has ls 8 [(0, .ref h_t), (1, .int a1)] := hl
  have hf := ho
  have hw_47 : ∀ (k_5 : Int64 → Int32 → Option (Int64)) (hk_5 : ∀ (v2 : Int64) (v4 : Int32), k_5 v2 v4 = some o → ∀ (H : Heap) (locs : List Loc), va_P G.1 vwCl [(h_t, .inr (8, [.long t_trace, .ref h_t_text, .int t_typed, .ref h_t_said, .ref h_t_many, .long t_when, .long t_then, .ref h_t_grades, .ref h_t_doubts, .int t_at, .int t_token, .int t_start, .ref h_t_vals, .ref h_t_waits, .int t_valMany, .int t_waitMany, .int t_open, .long t_saying, .ref h_t_fresh, .ref h_t_freshMany, .int t_quarrel])), (h_t_said, .inl (G.2.1.2.2, 45, .inr (.inl t_said))), (h_t_many, .inl (G.2.1.2.1, 5, .inl t_many)), (h_t_grades, .inl (G.2.1.2.1, 9, .inl t_grades))] H → va_D A [(h_t, .inr (8, [.long t_trace, .ref h_t_text, .int t_typed, .ref h_t_said, .ref h_t_many, .long t_when, .long t_then, .ref h_t_grades, .ref h_t_doubts, .int t_at, .int t_token, .int t_start, .ref h_t_vals, .ref h_t_waits, .int t_valMany, .int t_waitMany, .int t_open, .long t_saying, .ref h_t_fresh, .ref h_t_freshMany, .int t_quarrel])), (h_t_said, .inl (G.2.1.2.2, 45, .inr (.inl t_said))), (h_t_many, .inl (G.2.1.2.1, 5, .inl t_many)), (h_t_grades, .inl (G.2.1.2.1, 9, .inl t_grades))] → va_S A s.heap H locs → ∀ (ls : Array Slot), lv_has ls 8 [(0, .ref h_t), (1, .int a1), (2, .long v2), (4, .int v4)] → W p l e (headSpec wsX8_counts ({ frames := 1, cells := 0, slots := 0, locals := 22 } : Room)).room s m ([.ref h_t, .int a1] : List Value).toArray below meth c H locs 0 0 (MQ below (qcL Unit G o (fun _ => True) (fun _ => [(h_t, .inr (8, [.long t_trace, .ref h_t_text, .int t_typed, .ref h_t_said, .ref h_t_many, .long t_when, .long t_then, .ref h_t_grades, .ref h_t_doubts, .int t_at, .int t_token, .int t_start, .ref h_t_vals, .ref h_t_waits, .int t_valMany, .int t_waitMany, .int t_open, .long t_saying, .ref h_t_fresh, .ref h_t_freshMany, .int t_quarrel])), (h_t_said, .inl (G.2.1.2.2, 45, .inr (.inl t_said))), (h_t_many, .inl (G.2.1.2.1, 5, .inl t_many)), (h_t_grades, .inl (G.2.1.2.1, 9, .inl t_grades))]) A) ([.ref h_t, .int a1] : List Value).toArray s 0 0 A) (F0 m 5 ls [])) (v2 : Int64) (v4 : Int32) (v5 : Int64), jn_X8_counts_47 t_said t_many t_grades a1 k_5 v2 v4 v5 = some o → ∀ (H : Heap) (locs : List Loc), va_P G.1 vwCl [(h_t, .inr (8, [.long t_trace, .ref h_t_text, .int t_typed, .ref h_t_said, .ref h_t_many, .long t_when, .long t_then, .ref h_t_grades, .ref h_t_doubts, .int t_at, .int t_token, .int t_start, .ref h_t_vals, .ref h_t_waits, .int t_valMany, .int t_waitMany, .int t_open, .long t_saying, .ref h_t_fresh, .ref h_t_freshMany, .int t_quarrel])), (h_t_said, .inl (G.2.1.2.2, 45, .inr (.inl t_said))), (h_t_many, .inl (G.2.1.2.1, 5, .inl t_many)), (h_t_grades, .inl (G.2.1.2.1, 9, .inl t_grades))] H → va_D A [(h_t, .inr (8, [.long t_trace, .ref h_t_text, .int t_typed, .ref h_t_said, .ref h_t_many, .long t_when, .long t_then, .ref h_t_grades, .ref h_t_doubts, .int t_at, .int t_token, .int t_start, .ref h_t_vals, .ref h_t_waits, .int t_valMany, .int t_waitMany, .int t_open, .long t_saying, .ref h_t_fresh, .ref h_t_freshMany, .int t_quarrel])), (h_t_said, .inl (G.2.1.2.2, 45, .inr (.inl t_said))), (h_t_many, .inl (G.2.1.2.1, 5, .inl t_many)), (h_t_grades, .inl (G.2.1.2.1, 9, .inl t_grades))] → va_S A s.heap H locs → ∀ (ls : Array Slot), lv_has ls 8 [(0, .ref h_t), (1, .int a1), (2, .long v2), (4, .int v4), (5, .long v5)] → W p l e (headSpec wsX8_counts ({ frames := 1, cells := 0, slots := 0, locals := 22 } : Room)).room s m ([.ref h_t, .int a1] : List Value).toArray below meth c H locs 0 0 (MQ below (qcL Unit G o (fun _ => True) (fun _ => [(h_t, .inr (8, [.long t_trace, .ref h_t_text, .int t_typed, .ref h_t_said, .ref h_t_many, .long t_when, .long t_then, .ref h_t_grades, .ref h_t_doubts, .int t_at, .int t_token, .int t_start, .ref h_t_vals, .ref h_t_waits, .int t_valMany, .int t_waitMany, .int t_open, .long t_saying, .ref h_t_fresh, .ref h_t_freshMany, .int t_quarrel])), (h_t_said, .inl (G.2.1.2.2, 45, .inr (.inl t_said))), (h_t_many, .inl (G.2.1.2.1, 5, .inl t_many)), (h_t_grades, .inl (G.2.1.2.1, 9, .inl t_grades))]) A) ([.ref h_t, .int a1] : List Value).toArray s 0 0 A) (F0 m 47 ls []) := by
    intro k_5 hk_5 v2 v4 v5 hf H locs hP hD hS ls hl
    unfold jn_X8_counts_47 at hf
    refine lv_lload_n hx hb dX8_counts_47 rfl (lv_at hl 2 rfl) ?_
    refine lv_aload_n hx hb dX8_counts_48 rfl (lv_at hl 0 rfl) ?_
    refine lv_iload hx hb dX8_counts_49 (lv_at hl 3 rfl) ?_
    obtain ⟨o1, ho1, hf⟩ := bd_e hf
    refine af_l (wr := [(h_t_many, .inl (G.2.1.2.1, 5, .inl t_many)), (h_t_grades, .inl (G.2.1.2.1, 9, .inl t_grades))]) (va_runV (As := [.int v4]) (rest := [.long v2]) ⟨hx, hb, hml, hown, hts⟩ (c_X8_broken l G h_t h_t_text h_t_said h_t_many h_t_grades h_t_doubts h_t_vals h_t_waits h_t_fresh h_t_freshMany H.size t_trace t_typed t_when t_then t_at t_token t_start t_valMany t_waitMany t_open t_saying t_quarrel t_said v4 o1 ho1) (cwV 1 hts gX8_counts_X8_broken rfl rfl rfl (by decide +kernel) ⟨Nat.le_of_ble_eq_true rfl, Nat.le_of_ble_eq_true rfl⟩) (pcA_preV hg hc hP hD hS hA [0, 1] rfl (by decide) (q0 := 0) (ci := 8) rfl rfl rfl) rfl rfl hl.1 rfl (lv_room (Nat.le_of_ble_eq_true rfl)) dX8_counts_51 ⟨Nat.zero_le _, Nat.zero_le _⟩) hP hD hS hA [0, 1] [2, 3] rfl rfl (by decide) (by decide) (fun _ H locs _ hP hD hS => ?_)
    have hP : va_P G.1 vwCl [(h_t, .inr (8, [.long t_trace, .ref h_t_text, .int t_typed, .ref h_t_said, .ref h_t_many, .long t_when, .long t_then, .ref h_t_grades, .ref h_t_doubts, .int t_at, .int t_token, .int t_start, .ref h_t_vals, .ref h_t_waits, .int t_valMany, .int t_waitMany, .int t_open, .long t_saying, .ref h_t_fresh, .ref h_t_freshMany, .int t_quarrel])), (h_t_said, .inl (G.2.1.2.2, 45, .inr (.inl t_said))), (h_t_many, .inl (G.2.1.2.1, 5, .inl t_many)), (h_t_grades, .inl (G.2.1.2.1, 9, .inl t_grades))] H := hP.sub [2, 3, 0, 1] rfl
    have hD : va_D A [(h_t, .inr (8, [.long t_trace, .ref h_t_text, .int t_typed, .ref h_t_said, .ref h_t_many, .long t_when, .long t_then, .ref h_t_grades, .ref h_t_doubts, .int t_at, .int t_token, .int t_start, .ref h_t_vals, .ref h_t_waits, .int t_valMany, .int t_waitMany, .int t_open, .long t_saying, .ref h_t_fresh, .ref h_t_freshMany, .int t_quarrel])), (h_t_said, .inl (G.2.1.2.2, 45, .inr (.inl t_said))), (h_t_many, .inl (G.2.1.2.1, 5, .inl t_many)), (h_t_grades, .inl (G.2.1.2.1, 9, .inl t_grades))] := hD.sub [2, 3, 0, 1] (by decide) rfl
    refine lv_iload_n hx hb dX8_counts_54 rfl (lv_at hl 1 rfl) ?_
    obtain ⟨o2, ho2, hf⟩ := bd_e hf
    refine af0_i (va_runS (As := [.long o1, .int a1]) (rest := [.long v2]) ⟨hx, hb, hml, hown, hts⟩ (c_X8_has l G H.size o1 a1 o2 ho2) (va_cwS 2 hts gX8_counts_X8_has rfl rfl rfl (by decide +kernel) ⟨Nat.le_of_ble_eq_true rfl, Nat.le_of_ble_eq_true rfl⟩) (pcA_pre hg hc hP hD hS hA [] rfl rfl [.long o1, .int a1]) rfl rfl hl.1 rfl (lv_room (Nat.le_of_ble_eq_true rfl)) dX8_counts_55 ⟨Nat.zero_le _, Nat.zero_le _⟩) hP hD hS hA (fun H locs hP hD hS => ?_)
    refine lv_if_eq (tgt := 66) hx hb dX8_counts_58 (by decide) (fun c3 => ?_) (fun c3 => ?_)
    · have hf := it_t c3 hf
      refine lv_lconst (v := (0 : Int64)) hx hb dX8_counts_66 (by decide) ?_
      refine lv_ladd hx hb dX8_counts_67 ?_
      refine lv_topl (fun x4 ex4 => ?_)
      have hf := lt_n hf x4 ex4
      refine lv_lstore_n (lv' := [(2, .long x4), (0, .ref h_t), (1, .int a1), (4, .int v4), (5, .long v5)]) hx hb dX8_counts_68 rfl hl (by decide) rfl (fun ls hl => ?_)
      obtain ⟨x5, ex5⟩ : ∃ y : Int32, y = (v4 + (1 : Int32)) := ⟨_, rfl⟩
      have hf := lt_n hf x5 ex5
      refine lv_iinc (v := x5) (lv' := [(4, .int x5), (2, .long x4), (0, .ref h_t), (1, .int a1), (5, .long v5)]) hx hb dX8_counts_69 hl (k := 3) rfl (by rw [ex5]; rfl) (by decide) rfl (fun ls hl => ?_)
      refine lv_goto (tgt := 5) hx hb dX8_counts_72 (by decide) ?_
      exact hk_5 x4 x5 hf _ _ hP hD hS _ (lv_sub hl [2, 3, 1, 0] rfl)
    · have hf := it_f c3 hf
      refine lv_lload hx hb dX8_counts_61 (lv_at hl 4 rfl) ?_
      refine lv_goto (tgt := 67) hx hb dX8_counts_63 (by decide) ?_
      refine lv_ladd hx hb dX8_counts_67 ?_
      refine lv_topl (fun x6 ex6 => ?_)
      have hf := lt_n hf x6 ex6
      refine lv_lstore_n (lv' := [(2, .long x6), (0, .ref h_t), (1, .int a1), (4, .int v4), (5, .long v5)]) hx hb dX8_counts_68 rfl hl (by decide) rfl (fun ls hl => ?_)
      obtain ⟨x7, ex7⟩ : ∃ y : Int32, y = (v4 + (1 : Int32)) := ⟨_, rfl⟩
      have hf := lt_n hf x7 ex7
      refine lv_iinc (v := x7) (lv' := [(4, .int x7), (2, .long x6), (0, .ref h_t), (1, .int a1), (5, .long v5)]) hx hb dX8_counts_69 hl (k := 3) rfl (by rw [ex7]; rfl) (by decide) rfl (fun ls hl => ?_)
      refine lv_goto (tgt := 5) hx hb dX8_counts_72 (by decide) ?_
      exact hk_5 x6 x7 hf _ _ hP hD hS _ (lv_sub hl [2, 3, 1, 0] rfl)
  have hw_22 : ∀ (k_5 : Int64 → Int32 → Option (Int64)) (hk_5 : ∀ (v2 : Int64) (v4 : Int32), k_5 v2 v4 = some o → ∀ (H : Heap) (locs : List Loc), va_P G.1 vwCl [(h_t, .inr (8, [.long t_trace, .ref h_t_text, .int t_typed, .ref h_t_said, .ref h_t_many, .long t_when, .long t_then, .ref h_t_grades, .ref h_t_doubts, .int t_at, .int t_token, .int t_start, .ref h_t_vals, .ref h_t_waits, .int t_valMany, .int t_waitMany, .int t_open, .long t_saying, .ref h_t_fresh, .ref h_t_freshMany, .int t_quarrel])), (h_t_said, .inl (G.2.1.2.2, 45, .inr (.inl t_said))), (h_t_many, .inl (G.2.1.2.1, 5, .inl t_many)), (h_t_grades, .inl (G.2.1.2.1, 9, .inl t_grades))] H → va_D A [(h_t, .inr (8, [.long t_trace, .ref h_t_text, .int t_typed, .ref h_t_said, .ref h_t_many, .long t_when, .long t_then, .ref h_t_grades, .ref h_t_doubts, .int t_at, .int t_token, .int t_start, .ref h_t_vals, .ref h_t_waits, .int t_valMany, .int t_waitMany, .int t_open, .long t_saying, .ref h_t_fresh, .ref h_t_freshMany, .int t_quarrel])), (h_t_said, .inl (G.2.1.2.2, 45, .inr (.inl t_said))), (h_t_many, .inl (G.2.1.2.1, 5, .inl t_many)), (h_t_grades, .inl (G.2.1.2.1, 9, .inl t_grades))] → va_S A s.heap H locs → ∀ (ls : Array Slot), lv_has ls 8 [(0, .ref h_t), (1, .int a1), (2, .long v2), (4, .int v4)] → W p l e (headSpec wsX8_counts ({ frames := 1, cells := 0, slots := 0, locals := 22 } : Room)).room s m ([.ref h_t, .int a1] : List Value).toArray below meth c H locs 0 0 (MQ below (qcL Unit G o (fun _ => True) (fun _ => [(h_t, .inr (8, [.long t_trace, .ref h_t_text, .int t_typed, .ref h_t_said, .ref h_t_many, .long t_when, .long t_then, .ref h_t_grades, .ref h_t_doubts, .int t_at, .int t_token, .int t_start, .ref h_t_vals, .ref h_t_waits, .int t_valMany, .int t_waitMany, .int t_open, .long t_saying, .ref h_t_fresh, .ref h_t_freshMany, .int t_quarrel])), (h_t_said, .inl (G.2.1.2.2, 45, .inr (.inl t_said))), (h_t_many, .inl (G.2.1.2.1, 5, .inl t_many)), (h_t_grades, .inl (G.2.1.2.1, 9, .inl t_grades))]) A) ([.ref h_t, .int a1] : List Value).toArray s 0 0 A) (F0 m 5 ls [])) (v2 : Int64) (v4 : Int32) (n : Nat) (v5 : Int64) (v7 : Int32), lp_X8_counts_22 t_said t_many t_grades a1 k_5 v2 v4 n v5 v7 = some o → ∀ (H : Heap) (locs : List Loc), va_P G.1 vwCl [(h_t, .inr (8, [.long t_trace, .ref h_t_text, .int t_typed, .ref h_t_said, .ref h_t_many, .long t_when, .long t_then, .ref h_t_grades, .ref h_t_doubts, .int t_at, .int t_token, .int t_start, .ref h_t_vals, .ref h_t_waits, .int t_valMany, .int t_waitMany, .int t_open, .long t_saying, .ref h_t_fresh, .ref h_t_freshMany, .int t_quarrel])), (h_t_said, .inl (G.2.1.2.2, 45, .inr (.inl t_said))), (h_t_many, .inl (G.2.1.2.1, 5, .inl t_many)), (h_t_grades, .inl (G.2.1.2.1, 9, .inl t_grades))] H → va_D A [(h_t, .inr (8, [.long t_trace, .ref h_t_text, .int t_typed, .ref h_t_said, .ref h_t_many, .long t_when, .long t_then, .ref h_t_grades, .ref h_t_doubts, .int t_at, .int t_token, .int t_start, .ref h_t_vals, .ref h_t_waits, .int t_valMany, .int t_waitMany, .int t_open, .long t_saying, .ref h_t_fresh, .ref h_t_freshMany, .int t_quarrel])), (h_t_said, .inl (G.2.1.2.2, 45, .inr (.inl t_said))), (h_t_many, .inl (G.2.1.2.1, 5, .inl t_many)), (h_t_grades, .inl (G.2.1.2.1, 9, .inl t_grades))] → va_S A s.heap H locs → ∀ (ls : Array Slot), lv_has ls 8 [(0, .ref h_t), (1, .int a1), (2, .long v2), (4, .int v4), (5, .long v5), (7, .int v7)] → W p l e (headSpec wsX8_counts ({ frames := 1, cells := 0, slots := 0, locals := 22 } : Room)).room s m ([.ref h_t, .int a1] : List Value).toArray below meth c H locs 0 0 (MQ below (qcL Unit G o (fun _ => True) (fun _ => [(h_t, .inr (8, [.long t_trace, .ref h_t_text, .int t_typed, .ref h_t_said, .ref h_t_many, .long t_when, .long t_then, .ref h_t_grades, .ref h_t_doubts, .int t_at, .int t_token, .int t_start, .ref h_t_vals, .ref h_t_waits, .int t_valMany, .int t_waitMany, .int t_open, .long t_saying, .ref h_t_fresh, .ref h_t_freshMany, .int t_quarrel])), (h_t_said, .inl (G.2.1.2.2, 45, .inr (.inl t_said))), (h_t_many, .inl (G.2.1.2.1, 5, .inl t_many)), (h_t_grades, .inl (G.2.1.2.1, 9, .inl t_grades))]) A) ([.ref h_t, .int a1] : List Value).toArray s 0 0 A) (F0 m 22 ls []) := by
    intro k_5 hk_5 v2 v4
    intro n
    induction n with
    | zero =>
      intro v5 v7 hf
      exact absurd hf (by rw [lp_X8_counts_22]; intro h; cases h)
    | succ n ih =>
      intro v5 v7 hf H locs hP hD hS ls hl
      rw [lp_X8_counts_22] at hf
      refine lv_iload hx hb dX8_counts_22 (lv_at hl 5 rfl) ?_
      refine lv_aload_n hx hb dX8_counts_24 rfl (lv_at hl 0 rfl) ?_
      refine lv_iload hx hb dX8_counts_25 (lv_at hl 3 rfl) ?_
      obtain ⟨o8, ho8, hf⟩ := bd_e hf
      refine af_i (wr := [(h_t_said, .inl (G.2.1.2.2, 45, .inr (.inl t_said))), (h_t_many, .inl (G.2.1.2.1, 5, .inl t_many))]) (va_runV (As := [.int v4]) (rest := [.int v7]) ⟨hx, hb, hml, hown, hts⟩ (c_X8_gradeOfRule l G h_t h_t_text h_t_said h_t_many h_t_grades h_t_doubts h_t_vals h_t_waits h_t_fresh h_t_freshMany H.size t_trace t_typed t_when t_then t_at t_token t_start t_valMany t_waitMany t_open t_saying t_quarrel t_grades v4 o8 ho8) (cwV 1 hts gX8_counts_X8_gradeOfRule rfl rfl rfl (by decide +kernel) ⟨Nat.le_of_ble_eq_true rfl, Nat.le_of_ble_eq_true rfl⟩) (pcA_preV hg hc hP hD hS hA [0, 3] rfl (by decide) (q0 := 0) (ci := 8) rfl rfl rfl) rfl rfl hl.1 rfl (lv_room (Nat.le_of_ble_eq_true rfl)) dX8_counts_27 ⟨Nat.zero_le _, Nat.zero_le _⟩) hP hD hS hA [0, 3] [1, 2] rfl rfl (by decide) (by decide) (fun _ H locs _ hP hD hS => ?_)
      have hP : va_P G.1 vwCl [(h_t, .inr (8, [.long t_trace, .ref h_t_text, .int t_typed, .ref h_t_said, .ref h_t_many, .long t_when, .long t_then, .ref h_t_grades, .ref h_t_doubts, .int t_at, .int t_token, .int t_start, .ref h_t_vals, .ref h_t_waits, .int t_valMany, .int t_waitMany, .int t_open, .long t_saying, .ref h_t_fresh, .ref h_t_freshMany, .int t_quarrel])), (h_t_said, .inl (G.2.1.2.2, 45, .inr (.inl t_said))), (h_t_many, .inl (G.2.1.2.1, 5, .inl t_many)), (h_t_grades, .inl (G.2.1.2.1, 9, .inl t_grades))] H := hP.sub [2, 0, 1, 3] rfl
      have hD : va_D A [(h_t, .inr (8, [.long t_trace, .ref h_t_text, .int t_typed, .ref h_t_said, .ref h_t_many, .long t_when, .long t_then, .ref h_t_grades, .ref h_t_doubts, .int t_at, .int t_token, .int t_start, .ref h_t_vals, .ref h_t_waits, .int t_valMany, .int t_waitMany, .int t_open, .long t_saying, .ref h_t_fresh, .ref h_t_freshMany, .int t_quarrel])), (h_t_said, .inl (G.2.1.2.2, 45, .inr (.inl t_said))), (h_t_many, .inl (G.2.1.2.1, 5, .inl t_many)), (h_t_grades, .inl (G.2.1.2.1, 9, .inl t_grades))] := hD.sub [2, 0, 1, 3] (by decide) rfl
      refine lv_icmp_ge (tgt := 47) hx hb dX8_counts_30 (by decide) (fun c9 => ?_) (fun c9 => ?_)
      · have hf := it_t c9 hf
        exact hw_47 _ hk_5 v2 v4 v5 hf _ _ hP hD hS _ (lv_sub hl [0, 1, 2, 3, 4] rfl)
      · have hf := it_f c9 hf
        refine lv_lload hx hb dX8_counts_33 (lv_at hl 4 rfl) ?_
        refine lv_ldc2 (v := (9 : Int64)) hx hb hown (hts (.constantLong RX8 194 (9 : Int64)) (by decide +kernel)) dX8_counts_35 ?_
        refine lv_lmul hx hb dX8_counts_38 ?_
        refine lv_topl (fun x10 ex10 => ?_)
        have hf := lt_n hf x10 ex10
        refine lv_lstore (lv' := [(5, .long x10), (0, .ref h_t), (1, .int a1), (2, .long v2), (4, .int v4), (7, .int v7)]) hx hb dX8_counts_39 hl (by decide) rfl (fun ls hl => ?_)
        obtain ⟨x11, ex11⟩ : ∃ y : Int32, y = (v7 + (1 : Int32)) := ⟨_, rfl⟩
        have hf := lt_n hf x11 ex11
        refine lv_iinc (v := x11) (lv' := [(7, .int x11), (5, .long x10), (0, .ref h_t), (1, .int a1), (2, .long v2), (4, .int v4)]) hx hb dX8_counts_41 hl (k := 5) rfl (by rw [ex11]; rfl) (by decide) rfl (fun ls hl => ?_)
        refine lv_goto (tgt := 22) hx hb dX8_counts_44 (by decide) ?_
        exact ih x10 x11 hf _ _ hP hD hS _ (lv_sub hl [2, 3, 4, 5, 1, 0] rfl)
  have hw_5 : ∀  (n : Nat) (v2 : Int64) (v4 : Int32), lp_X8_counts_5 t_said t_many t_grades a1 n v2 v4 = some o → ∀ (H : Heap) (locs : List Loc), va_P G.1 vwCl [(h_t, .inr (8, [.long t_trace, .ref h_t_text, .int t_typed, .ref h_t_said, .ref h_t_many, .long t_when, .long t_then, .ref h_t_grades, .ref h_t_doubts, .int t_at, .int t_token, .int t_start, .ref h_t_vals, .ref h_t_waits, .int t_valMany, .int t_waitMany, .int t_open, .long t_saying, .ref h_t_fresh, .ref h_t_freshMany, .int t_quarrel])), (h_t_said, .inl (G.2.1.2.2, 45, .inr (.inl t_said))), (h_t_many, .inl (G.2.1.2.1, 5, .inl t_many)), (h_t_grades, .inl (G.2.1.2.1, 9, .inl t_grades))] H → va_D A [(h_t, .inr (8, [.long t_trace, .ref h_t_text, .int t_typed, .ref h_t_said, .ref h_t_many, .long t_when, .long t_then, .ref h_t_grades, .ref h_t_doubts, .int t_at, .int t_token, .int t_start, .ref h_t_vals, .ref h_t_waits, .int t_valMany, .int t_waitMany, .int t_open, .long t_saying, .ref h_t_fresh, .ref h_t_freshMany, .int t_quarrel])), (h_t_said, .inl (G.2.1.2.2, 45, .inr (.inl t_said))), (h_t_many, .inl (G.2.1.2.1, 5, .inl t_many)), (h_t_grades, .inl (G.2.1.2.1, 9, .inl t_grades))] → va_S A s.heap H locs → ∀ (ls : Array Slot), lv_has ls 8 [(0, .ref h_t), (1, .int a1), (2, .long v2), (4, .int v4)] → W p l e (headSpec wsX8_counts ({ frames := 1, cells := 0, slots := 0, locals := 22 } : Room)).room s m ([.ref h_t, .int a1] : List Value).toArray below meth c H locs 0 0 (MQ below (qcL Unit G o (fun _ => True) (fun _ => [(h_t, .inr (8, [.long t_trace, .ref h_t_text, .int t_typed, .ref h_t_said, .ref h_t_many, .long t_when, .long t_then, .ref h_t_grades, .ref h_t_doubts, .int t_at, .int t_token, .int t_start, .ref h_t_vals, .ref h_t_waits, .int t_valMany, .int t_waitMany, .int t_open, .long t_saying, .ref h_t_fresh, .ref h_t_freshMany, .int t_quarrel])), (h_t_said, .inl (G.2.1.2.2, 45, .inr (.inl t_said))), (h_t_many, .inl (G.2.1.2.1, 5, .inl t_many)), (h_t_grades, .inl (G.2.1.2.1, 9, .inl t_grades))]) A) ([.ref h_t, .int a1] : List Value).toArray s 0 0 A) (F0 m 5 ls []) := by
    intro n
    induction n with
    | zero =>
      intro v2 v4 hf
      exact absurd hf (by rw [lp_X8_counts_5]; intro h; cases h)
    | succ n ih =>
      intro v2 v4 hf H locs hP hD hS ls hl
      rw [lp_X8_counts_5] at hf
      refine lv_iload hx hb dX8_counts_5 (lv_at hl 3 rfl) ?_
      refine lv_aload_n hx hb dX8_counts_7 rfl (lv_at hl 0 rfl) ?_
      refine va_get (D := G.1) (ci := 8) (v := .ref h_t_many) (C := RX8) (T := TX8) (N := 21) hx hb hts hiX8 hown hg.1 hP 0 rfl rfl 4 (by decide) (hts (.fieldLink RX8 17 "AsARuleModel" "many" "[I") (by decide +kernel)) (fun _ h9 => h9) rfl dX8_counts_8 ?_
      refine lv_iconst (v := (1 : Int32)) hx hb dX8_counts_11 (by decide) ?_
      refine va_iald hx hb hg.1 hP 2 1 rfl rfl (ib_in (gd_t hf)) dX8_counts_12 ?_
      have hf := gd_x hf
      refine lv_icmp_ge (tgt := 75) hx hb dX8_counts_13 (by decide) (fun c12 => ?_) (fun c12 => ?_)
      · have hf := it_t c12 hf
        refine lv_lload_n hx hb dX8_counts_75 rfl (lv_at hl 2 rfl) ?_
        rw [← Option.some.inj hf]
        exact rt_l (u := ()) hx hb hr hlocks hP hD trivial hS dX8_counts_76
      · have hf := it_f c12 hf
        refine lv_lconst (v := (1 : Int64)) hx hb dX8_counts_16 (by decide) ?_
        refine lv_lstore (lv' := [(5, .long (1 : Int64)), (0, .ref h_t), (1, .int a1), (2, .long v2), (4, .int v4)]) hx hb dX8_counts_17 hl (by decide) rfl (fun ls hl => ?_)
        refine lv_iconst (v := (0 : Int32)) hx hb dX8_counts_19 (by decide) ?_
        refine lv_istore (lv' := [(7, .int (0 : Int32)), (5, .long (1 : Int64)), (0, .ref h_t), (1, .int a1), (2, .long v2), (4, .int v4)]) hx hb dX8_counts_20 hl (by decide) rfl (fun ls hl => ?_)
        exact hw_22 _ ih v2 v4 fu (1 : Int64) (0 : Int32) hf _ _ hP hD hS _ (lv_sub hl [2, 3, 4, 5, 1, 0] rfl)
  unfold f_X8_counts at hf
  refine en (fun H locs hP hD hS => ?_) hP hD
  refine lv_lconst (v := (0 : Int64)) hx hb dX8_counts_0 (by decide) ?_
  refine lv_lstore_n (lv' := [(2, .long (0 : Int64)), (0, .ref h_t), (1, .int a1)]) hx hb dX8_counts_1 rfl hl (by decide) rfl (fun ls hl => ?_)
  refine lv_iconst (v := (0 : Int32)) hx hb dX8_counts_2 (by decide) ?_
  refine lv_istore (lv' := [(4, .int (0 : Int32)), (2, .long (0 : Int64)), (0, .ref h_t), (1, .int a1)]) hx hb dX8_counts_3 hl (by decide) rfl (fun ls hl => ?_)
  exact hw_5 fu (0 : Int64) (0 : Int32) hf _ _ hP hD hS _ (lv_sub hl [2, 3, 1, 0] rfl)
-- method X8_best
def jn_X8_best_93 (t_when : Int64) (t_said : Nat → Int64) (t_many : Nat → Int32) (t_grades : Nat → Int32) (a1 : Int32) (v2 : Int64) (k_33 : Int64 → Int64 → Int32 → Option (Int64)) (v4 : Int64) (v6 : Int64) (v8 : Int32) (v9 : Int64) : Option (Int64) :=
  if v9 = v4 then lt (v6 ||| (shlL (1 : Int64) v8)) (fun x4 => lt (v8 + (1 : Int32)) (fun x5 => k_33 v4 x4 x5)) else lt (v6 ||| (0 : Int64)) (fun x2 => lt (v8 + (1 : Int32)) (fun x3 => k_33 v4 x2 x3))
def jn_X8_best_86 (t_when : Int64) (t_said : Nat → Int64) (t_many : Nat → Int32) (t_grades : Nat → Int32) (a1 : Int32) (v2 : Int64) (k_33 : Int64 → Int64 → Int32 → Option (Int64)) (v8 : Int32) (v9 : Int64) : Option (Int64) :=
  jn_X8_best_93 t_when t_said t_many t_grades a1 v2 k_33 v9 (0 : Int64) v8 v9
def jn_X8_best_69 (t_when : Int64) (t_said : Nat → Int64) (t_many : Nat → Int32) (t_grades : Nat → Int32) (a1 : Int32) (v2 : Int64) (k_33 : Int64 → Int64 → Int32 → Option (Int64)) (v4 : Int64) (v6 : Int64) (v8 : Int32) (s0 : Int64) : Option (Int64) :=
  if v4 < (0 : Int64) then jn_X8_best_86 t_when t_said t_many t_grades a1 v2 k_33 v8 s0 else if v4 ≤ s0 then jn_X8_best_93 t_when t_said t_many t_grades a1 v2 k_33 v4 v6 v8 s0 else jn_X8_best_86 t_when t_said t_many t_grades a1 v2 k_33 v8 s0
def lp_X8_best_33 (t_when : Int64) (t_said : Nat → Int64) (t_many : Nat → Int32) (t_grades : Nat → Int32) (a1 : Int32) (v2 : Int64) : Nat → Int64 → Int64 → Int32 → Option (Int64)
  | 0, _, _, _ => none
  | n + 1, v4, v6, v8 => if (64 : Int32) ≤ v8 then some (v6) else bd (f_X8_has v2 v8) (fun o9 => if o9 = (0 : Int32) then lt (v8 + (1 : Int32)) (fun x11 => lp_X8_best_33 t_when t_said t_many t_grades a1 v2 n v4 v6 x11) else if a1 = (0 : Int32) then bd (f_X8_worldGrade t_said t_many t_grades v8) (fun o14 => jn_X8_best_69 t_when t_said t_many t_grades a1 v2 (fun v4 v6 v8 => lp_X8_best_33 t_when t_said t_many t_grades a1 v2 n v4 v6 v8) v4 v6 v8 ((o14).toInt64)) else bd (f_X8_counts t_said t_many t_grades v8) (fun o13 => jn_X8_best_69 t_when t_said t_many t_grades a1 v2 (fun v4 v6 v8 => lp_X8_best_33 t_when t_said t_many t_grades a1 v2 n v4 v6 v8) v4 v6 v8 o13))
def f_X8_best (t_when : Int64) (t_said : Nat → Int64) (t_many : Nat → Int32) (t_grades : Nat → Int32) (a1 : Int32) : Option (Int64) :=
  bd (f_X8_in ((a1).toInt64) (0 : Int64) (1 : Int64)) (fun o15 => if o15 = (0 : Int32) then some ((0 : Int64)) else bd (f_X8_thereNow t_said t_many) (fun o17 => lt (o17 &&& t_when) (fun x18 => lp_X8_best_33 t_when t_said t_many t_grades a1 x18 fu (-1 : Int64) (0 : Int64) (0 : Int32))))
set_option maxHeartbeats 4000000 in
set_option maxRecDepth 100000 in
theorem c_X8_best (l : Launch) (G : GG) (h_t h_t_text h_t_said h_t_many h_t_grades h_t_doubts h_t_vals h_t_waits h_t_fresh h_t_freshMany : Nat) (sz : Nat) (t_trace : Int64) (t_typed : Int32) (t_when : Int64) (t_then : Int64) (t_at : Int32) (t_token : Int32) (t_start : Int32) (t_valMany : Int32) (t_waitMany : Int32) (t_open : Int32) (t_saying : Int64) (t_quarrel : Int32) (t_said : Nat → Int64) (t_many : Nat → Int32) (t_grades : Nat → Int32) (a1 : Int32) (o : Int64) (ho : f_X8_best t_when t_said t_many t_grades a1 = some o)  : Met l yX8_best wsX8_best ({ frames := 3, cells := 0, slots := 0, locals := 68 } : Room) (pcA G [.ref h_t, .int a1] [(h_t, .inr (8, [.long t_trace, .ref h_t_text, .int t_typed, .ref h_t_said, .ref h_t_many, .long t_when, .long t_then, .ref h_t_grades, .ref h_t_doubts, .int t_at, .int t_token, .int t_start, .ref h_t_vals, .ref h_t_waits, .int t_valMany, .int t_waitMany, .int t_open, .long t_saying, .ref h_t_fresh, .ref h_t_freshMany, .int t_quarrel])), (h_t_said, .inl (G.2.1.2.2, 45, .inr (.inl t_said))), (h_t_many, .inl (G.2.1.2.1, 5, .inl t_many)), (h_t_grades, .inl (G.2.1.2.1, 9, .inl t_grades))] sz) (qcL Unit G o (fun _ => True) (fun _ => [(h_t, .inr (8, [.long t_trace, .ref h_t_text, .int t_typed, .ref h_t_said, .ref h_t_many, .long t_when, .long t_then, .ref h_t_grades, .ref h_t_doubts, .int t_at, .int t_token, .int t_start, .ref h_t_vals, .ref h_t_waits, .int t_valMany, .int t_waitMany, .int t_open, .long t_saying, .ref h_t_fresh, .ref h_t_freshMany, .int t_quarrel])), (h_t_said, .inl (G.2.1.2.2, 45, .inr (.inl t_said))), (h_t_many, .inl (G.2.1.2.1, 5, .inl t_many)), (h_t_grades, .inl (G.2.1.2.1, 9, .inl t_grades))]) (va_A [(h_t, .inr (8, [.long t_trace, .ref h_t_text, .int t_typed, .ref h_t_said, .ref h_t_many, .long t_when, .long t_then, .ref h_t_grades, .ref h_t_doubts, .int t_at, .int t_token, .int t_start, .ref h_t_vals, .ref h_t_waits, .int t_valMany, .int t_waitMany, .int t_open, .long t_saying, .ref h_t_fresh, .ref h_t_freshMany, .int t_quarrel])), (h_t_said, .inl (G.2.1.2.2, 45, .inr (.inl t_said))), (h_t_many, .inl (G.2.1.2.1, 5, .inl t_many)), (h_t_grades, .inl (G.2.1.2.1, 9, .inl t_grades))] sz)) 0 0 (va_A [(h_t, .inr (8, [.long t_trace, .ref h_t_text, .int t_typed, .ref h_t_said, .ref h_t_many, .long t_when, .long t_then, .ref h_t_grades, .ref h_t_doubts, .int t_at, .int t_token, .int t_start, .ref h_t_vals, .ref h_t_waits, .int t_valMany, .int t_waitMany, .int t_open, .long t_saying, .ref h_t_fresh, .ref h_t_freshMany, .int t_quarrel])), (h_t_said, .inl (G.2.1.2.2, 45, .inr (.inl t_said))), (h_t_many, .inl (G.2.1.2.1, 5, .inl t_many)), (h_t_grades, .inl (G.2.1.2.1, 9, .inl t_grades))] sz) := by
  refine Met.ofW (cc := cX8_best) (maxL := 11) (ret := (some .long)) (by decide) rfl ?_
  intro p e s m args below meth c s₁ B hml hv
  obtain ⟨rfl, hsz, hP, hg, hD0, hc⟩ := hv
  have hx := B.exec
  have hb := B.bytes
  have hr := B.returns
  have hts := atoms_spec (ws := wsX8_best) B.pre
  have hown : s.vm.findClass RX8 = some m.cls := findClass_of_methodNamed B.named
  have hlocks := B.notSynchronized
  subst hsz
  have hD := hD0.self (sz := s.heap.size)
  generalize hAe : va_A [(h_t, .inr (8, [.long t_trace, .ref h_t_text, .int t_typed, .ref h_t_said, .ref h_t_many, .long t_when, .long t_then, .ref h_t_grades, .ref h_t_doubts, .int t_at, .int t_token, .int t_start, .ref h_t_vals, .ref h_t_waits, .int t_valMany, .int t_waitMany, .int t_open, .long t_saying, .ref h_t_fresh, .ref h_t_freshMany, .int t_quarrel])), (h_t_said, .inl (G.2.1.2.2, 45, .inr (.inl t_said))), (h_t_many, .inl (G.2.1.2.1, 5, .inl t_many)), (h_t_grades, .inl (G.2.1.2.1, 9, .inl t_grades))] s.heap.size = A at hD hc ⊢
  have hA : ∀ q : Nat, s.heap.size ≤ q → A q := fun q h => by rw [← hAe]; exact Or.inr h
  have hiX8 : ∀ w ∈ wsX80, w ∈ wsX8_best := by decide +kernel
  have hl := lv_entry ([.ref h_t, .int a1]) (n := 11) (Nat.le_of_ble_eq_true rfl)
  rw [lg_entry_eq]
  generalize (lg_sl ([.ref h_t, .int a1]) ++ List.replicate (11 - (lg_sl ([.ref h_t, .int a1])).length) Slot.unset).toArray = ls at hl ⊢
  have hl : lv_has ls 11 [(0, .ref h_t), (1, .int a1)] := hl
  have hf := ho
  have hw_93 : ∀ (v2 : Int64) (k_33 : Int64 → Int64 → Int32 → Option (Int64)) (hk_33 : ∀ (v4 : Int64) (v6 : Int64) (v8 : Int32), k_33 v4 v6 v8 = some o → ∀ (H : Heap) (locs : List Loc), va_P G.1 vwCl [(h_t, .inr (8, [.long t_trace, .ref h_t_text, .int t_typed, .ref h_t_said, .ref h_t_many, .long t_when, .long t_then, .ref h_t_grades, .ref h_t_doubts, .int t_at, .int t_token, .int t_start, .ref h_t_vals, .ref h_t_waits, .int t_valMany, .int t_waitMany, .int t_open, .long t_saying, .ref h_t_fresh, .ref h_t_freshMany, .int t_quarrel])), (h_t_said, .inl (G.2.1.2.2, 45, .inr (.inl t_said))), (h_t_many, .inl (G.2.1.2.1, 5, .inl t_many)), (h_t_grades, .inl (G.2.1.2.1, 9, .inl t_grades))] H → va_D A [(h_t, .inr (8, [.long t_trace, .ref h_t_text, .int t_typed, .ref h_t_said, .ref h_t_many, .long t_when, .long t_then, .ref h_t_grades, .ref h_t_doubts, .int t_at, .int t_token, .int t_start, .ref h_t_vals, .ref h_t_waits, .int t_valMany, .int t_waitMany, .int t_open, .long t_saying, .ref h_t_fresh, .ref h_t_freshMany, .int t_quarrel])), (h_t_said, .inl (G.2.1.2.2, 45, .inr (.inl t_said))), (h_t_many, .inl (G.2.1.2.1, 5, .inl t_many)), (h_t_grades, .inl (G.2.1.2.1, 9, .inl t_grades))] → va_S A s.heap H locs → ∀ (ls : Array Slot), lv_has ls 11 [(0, .ref h_t), (1, .int a1), (2, .long v2), (4, .long v4), (6, .long v6), (8, .int v8)] → W p l e (headSpec wsX8_best ({ frames := 3, cells := 0, slots := 0, locals := 68 } : Room)).room s m ([.ref h_t, .int a1] : List Value).toArray below meth c H locs 0 0 (MQ below (qcL Unit G o (fun _ => True) (fun _ => [(h_t, .inr (8, [.long t_trace, .ref h_t_text, .int t_typed, .ref h_t_said, .ref h_t_many, .long t_when, .long t_then, .ref h_t_grades, .ref h_t_doubts, .int t_at, .int t_token, .int t_start, .ref h_t_vals, .ref h_t_waits, .int t_valMany, .int t_waitMany, .int t_open, .long t_saying, .ref h_t_fresh, .ref h_t_freshMany, .int t_quarrel])), (h_t_said, .inl (G.2.1.2.2, 45, .inr (.inl t_said))), (h_t_many, .inl (G.2.1.2.1, 5, .inl t_many)), (h_t_grades, .inl (G.2.1.2.1, 9, .inl t_grades))]) A) ([.ref h_t, .int a1] : List Value).toArray s 0 0 A) (F0 m 33 ls [])) (v4 : Int64) (v6 : Int64) (v8 : Int32) (v9 : Int64), jn_X8_best_93 t_when t_said t_many t_grades a1 v2 k_33 v4 v6 v8 v9 = some o → ∀ (H : Heap) (locs : List Loc), va_P G.1 vwCl [(h_t, .inr (8, [.long t_trace, .ref h_t_text, .int t_typed, .ref h_t_said, .ref h_t_many, .long t_when, .long t_then, .ref h_t_grades, .ref h_t_doubts, .int t_at, .int t_token, .int t_start, .ref h_t_vals, .ref h_t_waits, .int t_valMany, .int t_waitMany, .int t_open, .long t_saying, .ref h_t_fresh, .ref h_t_freshMany, .int t_quarrel])), (h_t_said, .inl (G.2.1.2.2, 45, .inr (.inl t_said))), (h_t_many, .inl (G.2.1.2.1, 5, .inl t_many)), (h_t_grades, .inl (G.2.1.2.1, 9, .inl t_grades))] H → va_D A [(h_t, .inr (8, [.long t_trace, .ref h_t_text, .int t_typed, .ref h_t_said, .ref h_t_many, .long t_when, .long t_then, .ref h_t_grades, .ref h_t_doubts, .int t_at, .int t_token, .int t_start, .ref h_t_vals, .ref h_t_waits, .int t_valMany, .int t_waitMany, .int t_open, .long t_saying, .ref h_t_fresh, .ref h_t_freshMany, .int t_quarrel])), (h_t_said, .inl (G.2.1.2.2, 45, .inr (.inl t_said))), (h_t_many, .inl (G.2.1.2.1, 5, .inl t_many)), (h_t_grades, .inl (G.2.1.2.1, 9, .inl t_grades))] → va_S A s.heap H locs → ∀ (ls : Array Slot), lv_has ls 11 [(0, .ref h_t), (1, .int a1), (2, .long v2), (4, .long v4), (6, .long v6), (8, .int v8), (9, .long v9)] → W p l e (headSpec wsX8_best ({ frames := 3, cells := 0, slots := 0, locals := 68 } : Room)).room s m ([.ref h_t, .int a1] : List Value).toArray below meth c H locs 0 0 (MQ below (qcL Unit G o (fun _ => True) (fun _ => [(h_t, .inr (8, [.long t_trace, .ref h_t_text, .int t_typed, .ref h_t_said, .ref h_t_many, .long t_when, .long t_then, .ref h_t_grades, .ref h_t_doubts, .int t_at, .int t_token, .int t_start, .ref h_t_vals, .ref h_t_waits, .int t_valMany, .int t_waitMany, .int t_open, .long t_saying, .ref h_t_fresh, .ref h_t_freshMany, .int t_quarrel])), (h_t_said, .inl (G.2.1.2.2, 45, .inr (.inl t_said))), (h_t_many, .inl (G.2.1.2.1, 5, .inl t_many)), (h_t_grades, .inl (G.2.1.2.1, 9, .inl t_grades))]) A) ([.ref h_t, .int a1] : List Value).toArray s 0 0 A) (F0 m 93 ls []) := by
    intro v2 k_33 hk_33 v4 v6 v8 v9 hf H locs hP hD hS ls hl
    unfold jn_X8_best_93 at hf
    refine lv_lload hx hb dX8_best_93 (lv_at hl 4 rfl) ?_
    refine lv_lload hx hb dX8_best_95 (lv_at hl 6 rfl) ?_
    refine lv_lload hx hb dX8_best_97 (lv_at hl 3 rfl) ?_
    refine W.lcmp hx hb dX8_best_99 ?_
    refine lv_if_ne (tgt := 110) hx hb dX8_best_100 (by decide) (fun c1 => ?_) (fun c1 => ?_)
    · have c1 := fun z => c1 (lgc0.mpr z)
      have hf := it_f c1 hf
      refine lv_lconst (v := (0 : Int64)) hx hb dX8_best_110 (by decide) ?_
      refine lv_lor hx hb dX8_best_111 ?_
      refine lv_topl (fun x2 ex2 => ?_)
      have hf := lt_n hf x2 ex2
      refine lv_lstore (lv' := [(6, .long x2), (0, .ref h_t), (1, .int a1), (2, .long v2), (4, .long v4), (8, .int v8), (9, .long v9)]) hx hb dX8_best_112 hl (by decide) rfl (fun ls hl => ?_)
      obtain ⟨x3, ex3⟩ : ∃ y : Int32, y = (v8 + (1 : Int32)) := ⟨_, rfl⟩
      have hf := lt_n hf x3 ex3
      refine lv_iinc (v := x3) (lv' := [(8, .int x3), (6, .long x2), (0, .ref h_t), (1, .int a1), (2, .long v2), (4, .long v4), (9, .long v9)]) hx hb dX8_best_114 hl (k := 5) rfl (by rw [ex3]; rfl) (by decide) rfl (fun ls hl => ?_)
      refine lv_goto (tgt := 33) hx hb dX8_best_117 (by decide) ?_
      exact hk_33 v4 x2 x3 hf _ _ hP hD hS _ (lv_sub hl [2, 3, 4, 5, 1, 0] rfl)
    · have c1 := lgc0.mp c1
      have hf := it_t c1 hf
      refine lv_lconst (v := (1 : Int64)) hx hb dX8_best_103 (by decide) ?_
      refine lv_iload hx hb dX8_best_104 (lv_at hl 5 rfl) ?_
      refine lv_lshl (v := (shlL (1 : Int64) v8)) hx hb dX8_best_106 rfl ?_
      refine lv_goto (tgt := 111) hx hb dX8_best_107 (by decide) ?_
      refine lv_lor hx hb dX8_best_111 ?_
      refine lv_topl (fun x4 ex4 => ?_)
      have hf := lt_n hf x4 ex4
      refine lv_lstore (lv' := [(6, .long x4), (0, .ref h_t), (1, .int a1), (2, .long v2), (4, .long v4), (8, .int v8), (9, .long v9)]) hx hb dX8_best_112 hl (by decide) rfl (fun ls hl => ?_)
      obtain ⟨x5, ex5⟩ : ∃ y : Int32, y = (v8 + (1 : Int32)) := ⟨_, rfl⟩
      have hf := lt_n hf x5 ex5
      refine lv_iinc (v := x5) (lv' := [(8, .int x5), (6, .long x4), (0, .ref h_t), (1, .int a1), (2, .long v2), (4, .long v4), (9, .long v9)]) hx hb dX8_best_114 hl (k := 5) rfl (by rw [ex5]; rfl) (by decide) rfl (fun ls hl => ?_)
      refine lv_goto (tgt := 33) hx hb dX8_best_117 (by decide) ?_
      exact hk_33 v4 x4 x5 hf _ _ hP hD hS _ (lv_sub hl [2, 3, 4, 5, 1, 0] rfl)
  have hw_86 : ∀ (v2 : Int64) (k_33 : Int64 → Int64 → Int32 → Option (Int64)) (hk_33 : ∀ (v4 : Int64) (v6 : Int64) (v8 : Int32), k_33 v4 v6 v8 = some o → ∀ (H : Heap) (locs : List Loc), va_P G.1 vwCl [(h_t, .inr (8, [.long t_trace, .ref h_t_text, .int t_typed, .ref h_t_said, .ref h_t_many, .long t_when, .long t_then, .ref h_t_grades, .ref h_t_doubts, .int t_at, .int t_token, .int t_start, .ref h_t_vals, .ref h_t_waits, .int t_valMany, .int t_waitMany, .int t_open, .long t_saying, .ref h_t_fresh, .ref h_t_freshMany, .int t_quarrel])), (h_t_said, .inl (G.2.1.2.2, 45, .inr (.inl t_said))), (h_t_many, .inl (G.2.1.2.1, 5, .inl t_many)), (h_t_grades, .inl (G.2.1.2.1, 9, .inl t_grades))] H → va_D A [(h_t, .inr (8, [.long t_trace, .ref h_t_text, .int t_typed, .ref h_t_said, .ref h_t_many, .long t_when, .long t_then, .ref h_t_grades, .ref h_t_doubts, .int t_at, .int t_token, .int t_start, .ref h_t_vals, .ref h_t_waits, .int t_valMany, .int t_waitMany, .int t_open, .long t_saying, .ref h_t_fresh, .ref h_t_freshMany, .int t_quarrel])), (h_t_said, .inl (G.2.1.2.2, 45, .inr (.inl t_said))), (h_t_many, .inl (G.2.1.2.1, 5, .inl t_many)), (h_t_grades, .inl (G.2.1.2.1, 9, .inl t_grades))] → va_S A s.heap H locs → ∀ (ls : Array Slot), lv_has ls 11 [(0, .ref h_t), (1, .int a1), (2, .long v2), (4, .long v4), (6, .long v6), (8, .int v8)] → W p l e (headSpec wsX8_best ({ frames := 3, cells := 0, slots := 0, locals := 68 } : Room)).room s m ([.ref h_t, .int a1] : List Value).toArray below meth c H locs 0 0 (MQ below (qcL Unit G o (fun _ => True) (fun _ => [(h_t, .inr (8, [.long t_trace, .ref h_t_text, .int t_typed, .ref h_t_said, .ref h_t_many, .long t_when, .long t_then, .ref h_t_grades, .ref h_t_doubts, .int t_at, .int t_token, .int t_start, .ref h_t_vals, .ref h_t_waits, .int t_valMany, .int t_waitMany, .int t_open, .long t_saying, .ref h_t_fresh, .ref h_t_freshMany, .int t_quarrel])), (h_t_said, .inl (G.2.1.2.2, 45, .inr (.inl t_said))), (h_t_many, .inl (G.2.1.2.1, 5, .inl t_many)), (h_t_grades, .inl (G.2.1.2.1, 9, .inl t_grades))]) A) ([.ref h_t, .int a1] : List Value).toArray s 0 0 A) (F0 m 33 ls [])) (v8 : Int32) (v9 : Int64), jn_X8_best_86 t_when t_said t_many t_grades a1 v2 k_33 v8 v9 = some o → ∀ (H : Heap) (locs : List Loc), va_P G.1 vwCl [(h_t, .inr (8, [.long t_trace, .ref h_t_text, .int t_typed, .ref h_t_said, .ref h_t_many, .long t_when, .long t_then, .ref h_t_grades, .ref h_t_doubts, .int t_at, .int t_token, .int t_start, .ref h_t_vals, .ref h_t_waits, .int t_valMany, .int t_waitMany, .int t_open, .long t_saying, .ref h_t_fresh, .ref h_t_freshMany, .int t_quarrel])), (h_t_said, .inl (G.2.1.2.2, 45, .inr (.inl t_said))), (h_t_many, .inl (G.2.1.2.1, 5, .inl t_many)), (h_t_grades, .inl (G.2.1.2.1, 9, .inl t_grades))] H → va_D A [(h_t, .inr (8, [.long t_trace, .ref h_t_text, .int t_typed, .ref h_t_said, .ref h_t_many, .long t_when, .long t_then, .ref h_t_grades, .ref h_t_doubts, .int t_at, .int t_token, .int t_start, .ref h_t_vals, .ref h_t_waits, .int t_valMany, .int t_waitMany, .int t_open, .long t_saying, .ref h_t_fresh, .ref h_t_freshMany, .int t_quarrel])), (h_t_said, .inl (G.2.1.2.2, 45, .inr (.inl t_said))), (h_t_many, .inl (G.2.1.2.1, 5, .inl t_many)), (h_t_grades, .inl (G.2.1.2.1, 9, .inl t_grades))] → va_S A s.heap H locs → ∀ (ls : Array Slot), lv_has ls 11 [(0, .ref h_t), (1, .int a1), (2, .long v2), (8, .int v8), (9, .long v9)] → W p l e (headSpec wsX8_best ({ frames := 3, cells := 0, slots := 0, locals := 68 } : Room)).room s m ([.ref h_t, .int a1] : List Value).toArray below meth c H locs 0 0 (MQ below (qcL Unit G o (fun _ => True) (fun _ => [(h_t, .inr (8, [.long t_trace, .ref h_t_text, .int t_typed, .ref h_t_said, .ref h_t_many, .long t_when, .long t_then, .ref h_t_grades, .ref h_t_doubts, .int t_at, .int t_token, .int t_start, .ref h_t_vals, .ref h_t_waits, .int t_valMany, .int t_waitMany, .int t_open, .long t_saying, .ref h_t_fresh, .ref h_t_freshMany, .int t_quarrel])), (h_t_said, .inl (G.2.1.2.2, 45, .inr (.inl t_said))), (h_t_many, .inl (G.2.1.2.1, 5, .inl t_many)), (h_t_grades, .inl (G.2.1.2.1, 9, .inl t_grades))]) A) ([.ref h_t, .int a1] : List Value).toArray s 0 0 A) (F0 m 86 ls []) := by
    intro v2 k_33 hk_33 v8 v9 hf H locs hP hD hS ls hl
    unfold jn_X8_best_86 at hf
    refine lv_lload hx hb dX8_best_86 (lv_at hl 4 rfl) ?_
    refine lv_lstore (lv' := [(4, .long v9), (0, .ref h_t), (1, .int a1), (2, .long v2), (8, .int v8), (9, .long v9)]) hx hb dX8_best_88 hl (by decide) rfl (fun ls hl => ?_)
    refine lv_lconst (v := (0 : Int64)) hx hb dX8_best_90 (by decide) ?_
    refine lv_lstore (lv' := [(6, .long (0 : Int64)), (4, .long v9), (0, .ref h_t), (1, .int a1), (2, .long v2), (8, .int v8), (9, .long v9)]) hx hb dX8_best_91 hl (by decide) rfl (fun ls hl => ?_)
    exact hw_93 v2 _ hk_33 v9 (0 : Int64) v8 v9 hf _ _ hP hD hS _ (lv_sub hl [2, 3, 4, 1, 0, 5, 6] rfl)
  have hw_69 : ∀ (v2 : Int64) (k_33 : Int64 → Int64 → Int32 → Option (Int64)) (hk_33 : ∀ (v4 : Int64) (v6 : Int64) (v8 : Int32), k_33 v4 v6 v8 = some o → ∀ (H : Heap) (locs : List Loc), va_P G.1 vwCl [(h_t, .inr (8, [.long t_trace, .ref h_t_text, .int t_typed, .ref h_t_said, .ref h_t_many, .long t_when, .long t_then, .ref h_t_grades, .ref h_t_doubts, .int t_at, .int t_token, .int t_start, .ref h_t_vals, .ref h_t_waits, .int t_valMany, .int t_waitMany, .int t_open, .long t_saying, .ref h_t_fresh, .ref h_t_freshMany, .int t_quarrel])), (h_t_said, .inl (G.2.1.2.2, 45, .inr (.inl t_said))), (h_t_many, .inl (G.2.1.2.1, 5, .inl t_many)), (h_t_grades, .inl (G.2.1.2.1, 9, .inl t_grades))] H → va_D A [(h_t, .inr (8, [.long t_trace, .ref h_t_text, .int t_typed, .ref h_t_said, .ref h_t_many, .long t_when, .long t_then, .ref h_t_grades, .ref h_t_doubts, .int t_at, .int t_token, .int t_start, .ref h_t_vals, .ref h_t_waits, .int t_valMany, .int t_waitMany, .int t_open, .long t_saying, .ref h_t_fresh, .ref h_t_freshMany, .int t_quarrel])), (h_t_said, .inl (G.2.1.2.2, 45, .inr (.inl t_said))), (h_t_many, .inl (G.2.1.2.1, 5, .inl t_many)), (h_t_grades, .inl (G.2.1.2.1, 9, .inl t_grades))] → va_S A s.heap H locs → ∀ (ls : Array Slot), lv_has ls 11 [(0, .ref h_t), (1, .int a1), (2, .long v2), (4, .long v4), (6, .long v6), (8, .int v8)] → W p l e (headSpec wsX8_best ({ frames := 3, cells := 0, slots := 0, locals := 68 } : Room)).room s m ([.ref h_t, .int a1] : List Value).toArray below meth c H locs 0 0 (MQ below (qcL Unit G o (fun _ => True) (fun _ => [(h_t, .inr (8, [.long t_trace, .ref h_t_text, .int t_typed, .ref h_t_said, .ref h_t_many, .long t_when, .long t_then, .ref h_t_grades, .ref h_t_doubts, .int t_at, .int t_token, .int t_start, .ref h_t_vals, .ref h_t_waits, .int t_valMany, .int t_waitMany, .int t_open, .long t_saying, .ref h_t_fresh, .ref h_t_freshMany, .int t_quarrel])), (h_t_said, .inl (G.2.1.2.2, 45, .inr (.inl t_said))), (h_t_many, .inl (G.2.1.2.1, 5, .inl t_many)), (h_t_grades, .inl (G.2.1.2.1, 9, .inl t_grades))]) A) ([.ref h_t, .int a1] : List Value).toArray s 0 0 A) (F0 m 33 ls [])) (v4 : Int64) (v6 : Int64) (v8 : Int32) (s0 : Int64), jn_X8_best_69 t_when t_said t_many t_grades a1 v2 k_33 v4 v6 v8 s0 = some o → ∀ (H : Heap) (locs : List Loc), va_P G.1 vwCl [(h_t, .inr (8, [.long t_trace, .ref h_t_text, .int t_typed, .ref h_t_said, .ref h_t_many, .long t_when, .long t_then, .ref h_t_grades, .ref h_t_doubts, .int t_at, .int t_token, .int t_start, .ref h_t_vals, .ref h_t_waits, .int t_valMany, .int t_waitMany, .int t_open, .long t_saying, .ref h_t_fresh, .ref h_t_freshMany, .int t_quarrel])), (h_t_said, .inl (G.2.1.2.2, 45, .inr (.inl t_said))), (h_t_many, .inl (G.2.1.2.1, 5, .inl t_many)), (h_t_grades, .inl (G.2.1.2.1, 9, .inl t_grades))] H → va_D A [(h_t, .inr (8, [.long t_trace, .ref h_t_text, .int t_typed, .ref h_t_said, .ref h_t_many, .long t_when, .long t_then, .ref h_t_grades, .ref h_t_doubts, .int t_at, .int t_token, .int t_start, .ref h_t_vals, .ref h_t_waits, .int t_valMany, .int t_waitMany, .int t_open, .long t_saying, .ref h_t_fresh, .ref h_t_freshMany, .int t_quarrel])), (h_t_said, .inl (G.2.1.2.2, 45, .inr (.inl t_said))), (h_t_many, .inl (G.2.1.2.1, 5, .inl t_many)), (h_t_grades, .inl (G.2.1.2.1, 9, .inl t_grades))] → va_S A s.heap H locs → ∀ (ls : Array Slot), lv_has ls 11 [(0, .ref h_t), (1, .int a1), (2, .long v2), (4, .long v4), (6, .long v6), (8, .int v8)] → W p l e (headSpec wsX8_best ({ frames := 3, cells := 0, slots := 0, locals := 68 } : Room)).room s m ([.ref h_t, .int a1] : List Value).toArray below meth c H locs 0 0 (MQ below (qcL Unit G o (fun _ => True) (fun _ => [(h_t, .inr (8, [.long t_trace, .ref h_t_text, .int t_typed, .ref h_t_said, .ref h_t_many, .long t_when, .long t_then, .ref h_t_grades, .ref h_t_doubts, .int t_at, .int t_token, .int t_start, .ref h_t_vals, .ref h_t_waits, .int t_valMany, .int t_waitMany, .int t_open, .long t_saying, .ref h_t_fresh, .ref h_t_freshMany, .int t_quarrel])), (h_t_said, .inl (G.2.1.2.2, 45, .inr (.inl t_said))), (h_t_many, .inl (G.2.1.2.1, 5, .inl t_many)), (h_t_grades, .inl (G.2.1.2.1, 9, .inl t_grades))]) A) ([.ref h_t, .int a1] : List Value).toArray s 0 0 A) (F0 m 69 ls [.long s0]) := by
    intro v2 k_33 hk_33 v4 v6 v8 s0 hf H locs hP hD hS ls hl
    unfold jn_X8_best_69 at hf
    refine lv_lstore (lv' := [(9, .long s0), (0, .ref h_t), (1, .int a1), (2, .long v2), (4, .long v4), (6, .long v6), (8, .int v8)]) hx hb dX8_best_69 hl (by decide) rfl (fun ls hl => ?_)
    refine lv_lload hx hb dX8_best_71 (lv_at hl 4 rfl) ?_
    refine lv_lconst (v := (0 : Int64)) hx hb dX8_best_73 (by decide) ?_
    refine W.lcmp hx hb dX8_best_74 ?_
    refine lv_if_lt (tgt := 86) hx hb dX8_best_75 (by decide) (fun c6 => ?_) (fun c6 => ?_)
    · have c6 := lgcL.mp c6
      have hf := it_t c6 hf
      exact hw_86 v2 _ hk_33 v8 s0 hf _ _ hP hD hS _ (lv_sub hl [1, 2, 3, 6, 0] rfl)
    · have c6 := fun z => c6 (lgcL.mpr z)
      have hf := it_f c6 hf
      refine lv_lload hx hb dX8_best_78 (lv_at hl 0 rfl) ?_
      refine lv_lload hx hb dX8_best_80 (lv_at hl 4 rfl) ?_
      refine W.lcmp hx hb dX8_best_82 ?_
      refine lv_if_ge (tgt := 93) hx hb dX8_best_83 (by decide) (fun c7 => ?_) (fun c7 => ?_)
      · have c7 := lgcGe.mp c7
        have hf := it_t c7 hf
        exact hw_93 v2 _ hk_33 v4 v6 v8 s0 hf _ _ hP hD hS _ (lv_sub hl [1, 2, 3, 4, 5, 6, 0] rfl)
      · have c7 := fun z => c7 (lgcGe.mpr z)
        have hf := it_f c7 hf
        exact hw_86 v2 _ hk_33 v8 s0 hf _ _ hP hD hS _ (lv_sub hl [1, 2, 3, 6, 0] rfl)
  have hw_33 : ∀ (v2 : Int64) (n : Nat) (v4 : Int64) (v6 : Int64) (v8 : Int32), lp_X8_best_33 t_when t_said t_many t_grades a1 v2 n v4 v6 v8 = some o → ∀ (H : Heap) (locs : List Loc), va_P G.1 vwCl [(h_t, .inr (8, [.long t_trace, .ref h_t_text, .int t_typed, .ref h_t_said, .ref h_t_many, .long t_when, .long t_then, .ref h_t_grades, .ref h_t_doubts, .int t_at, .int t_token, .int t_start, .ref h_t_vals, .ref h_t_waits, .int t_valMany, .int t_waitMany, .int t_open, .long t_saying, .ref h_t_fresh, .ref h_t_freshMany, .int t_quarrel])), (h_t_said, .inl (G.2.1.2.2, 45, .inr (.inl t_said))), (h_t_many, .inl (G.2.1.2.1, 5, .inl t_many)), (h_t_grades, .inl (G.2.1.2.1, 9, .inl t_grades))] H → va_D A [(h_t, .inr (8, [.long t_trace, .ref h_t_text, .int t_typed, .ref h_t_said, .ref h_t_many, .long t_when, .long t_then, .ref h_t_grades, .ref h_t_doubts, .int t_at, .int t_token, .int t_start, .ref h_t_vals, .ref h_t_waits, .int t_valMany, .int t_waitMany, .int t_open, .long t_saying, .ref h_t_fresh, .ref h_t_freshMany, .int t_quarrel])), (h_t_said, .inl (G.2.1.2.2, 45, .inr (.inl t_said))), (h_t_many, .inl (G.2.1.2.1, 5, .inl t_many)), (h_t_grades, .inl (G.2.1.2.1, 9, .inl t_grades))] → va_S A s.heap H locs → ∀ (ls : Array Slot), lv_has ls 11 [(0, .ref h_t), (1, .int a1), (2, .long v2), (4, .long v4), (6, .long v6), (8, .int v8)] → W p l e (headSpec wsX8_best ({ frames := 3, cells := 0, slots := 0, locals := 68 } : Room)).room s m ([.ref h_t, .int a1] : List Value).toArray below meth c H locs 0 0 (MQ below (qcL Unit G o (fun _ => True) (fun _ => [(h_t, .inr (8, [.long t_trace, .ref h_t_text, .int t_typed, .ref h_t_said, .ref h_t_many, .long t_when, .long t_then, .ref h_t_grades, .ref h_t_doubts, .int t_at, .int t_token, .int t_start, .ref h_t_vals, .ref h_t_waits, .int t_valMany, .int t_waitMany, .int t_open, .long t_saying, .ref h_t_fresh, .ref h_t_freshMany, .int t_quarrel])), (h_t_said, .inl (G.2.1.2.2, 45, .inr (.inl t_said))), (h_t_many, .inl (G.2.1.2.1, 5, .inl t_many)), (h_t_grades, .inl (G.2.1.2.1, 9, .inl t_grades))]) A) ([.ref h_t, .int a1] : List Value).toArray s 0 0 A) (F0 m 33 ls []) := by
    intro v2
    intro n
    induction n with
    | zero =>
      intro v4 v6 v8 hf
      exact absurd hf (by rw [lp_X8_best_33]; intro h; cases h)
    | succ n ih =>
      intro v4 v6 v8 hf H locs hP hD hS ls hl
      rw [lp_X8_best_33] at hf
      refine lv_iload hx hb dX8_best_33 (lv_at hl 5 rfl) ?_
      refine lv_bipush (v := (64 : Int32)) hx hb dX8_best_35 (by decide) ?_
      refine lv_icmp_ge (tgt := 120) hx hb dX8_best_37 (by decide) (fun c8 => ?_) (fun c8 => ?_)
      · have hf := it_t c8 hf
        refine lv_lload hx hb dX8_best_120 (lv_at hl 4 rfl) ?_
        rw [← Option.some.inj hf]
        exact rt_l (u := ()) hx hb hr hlocks hP hD trivial hS dX8_best_122
      · have hf := it_f c8 hf
        refine lv_lload_n hx hb dX8_best_40 rfl (lv_at hl 2 rfl) ?_
        refine lv_iload hx hb dX8_best_41 (lv_at hl 5 rfl) ?_
        obtain ⟨o9, ho9, hf⟩ := bd_e hf
        refine af0_i (va_runS (As := [.long v2, .int v8]) (rest := []) ⟨hx, hb, hml, hown, hts⟩ (c_X8_has l G H.size v2 v8 o9 ho9) (va_cwS 2 hts gX8_best_X8_has rfl rfl rfl (by decide +kernel) ⟨Nat.le_of_ble_eq_true rfl, Nat.le_of_ble_eq_true rfl⟩) (pcA_pre hg hc hP hD hS hA [] rfl rfl [.long v2, .int v8]) rfl rfl hl.1 rfl (lv_room (Nat.le_of_ble_eq_true rfl)) dX8_best_43 ⟨Nat.zero_le _, Nat.zero_le _⟩) hP hD hS hA (fun H locs hP hD hS => ?_)
        refine lv_if_eq (tgt := 114) hx hb dX8_best_46 (by decide) (fun c10 => ?_) (fun c10 => ?_)
        · have hf := it_t c10 hf
          obtain ⟨x11, ex11⟩ : ∃ y : Int32, y = (v8 + (1 : Int32)) := ⟨_, rfl⟩
          have hf := lt_n hf x11 ex11
          refine lv_iinc (v := x11) (lv' := [(8, .int x11), (0, .ref h_t), (1, .int a1), (2, .long v2), (4, .long v4), (6, .long v6)]) hx hb dX8_best_114 hl (k := 5) rfl (by rw [ex11]; rfl) (by decide) rfl (fun ls hl => ?_)
          refine lv_goto (tgt := 33) hx hb dX8_best_117 (by decide) ?_
          exact ih v4 v6 x11 hf _ _ hP hD hS _ (lv_sub hl [1, 2, 3, 4, 5, 0] rfl)
        · have hf := it_f c10 hf
          refine lv_iload_n hx hb dX8_best_49 rfl (lv_at hl 1 rfl) ?_
          refine lv_if_ne (tgt := 63) hx hb dX8_best_50 (by decide) (fun c12 => ?_) (fun c12 => ?_)
          · have hf := it_f c12 hf
            refine lv_aload_n hx hb dX8_best_63 rfl (lv_at hl 0 rfl) ?_
            refine lv_iload hx hb dX8_best_64 (lv_at hl 5 rfl) ?_
            obtain ⟨o13, ho13, hf⟩ := bd_e hf
            refine af_l (wr := []) (va_runV (As := [.int v8]) (rest := []) ⟨hx, hb, hml, hown, hts⟩ (c_X8_counts l G h_t h_t_text h_t_said h_t_many h_t_grades h_t_doubts h_t_vals h_t_waits h_t_fresh h_t_freshMany H.size t_trace t_typed t_when t_then t_at t_token t_start t_valMany t_waitMany t_open t_saying t_quarrel t_said t_many t_grades v8 o13 ho13) (cwV 1 hts gX8_best_X8_counts rfl rfl rfl (by decide +kernel) ⟨Nat.le_of_ble_eq_true rfl, Nat.le_of_ble_eq_true rfl⟩) (pcA_preV hg hc hP hD hS hA [0, 1, 2, 3] rfl (by decide) (q0 := 0) (ci := 8) rfl rfl rfl) rfl rfl hl.1 rfl (lv_room (Nat.le_of_ble_eq_true rfl)) dX8_best_66 ⟨Nat.zero_le _, Nat.zero_le _⟩) hP hD hS hA [0, 1, 2, 3] [] rfl rfl (by decide) (by decide) (fun _ H locs _ hP hD hS => ?_)
            have hP : va_P G.1 vwCl [(h_t, .inr (8, [.long t_trace, .ref h_t_text, .int t_typed, .ref h_t_said, .ref h_t_many, .long t_when, .long t_then, .ref h_t_grades, .ref h_t_doubts, .int t_at, .int t_token, .int t_start, .ref h_t_vals, .ref h_t_waits, .int t_valMany, .int t_waitMany, .int t_open, .long t_saying, .ref h_t_fresh, .ref h_t_freshMany, .int t_quarrel])), (h_t_said, .inl (G.2.1.2.2, 45, .inr (.inl t_said))), (h_t_many, .inl (G.2.1.2.1, 5, .inl t_many)), (h_t_grades, .inl (G.2.1.2.1, 9, .inl t_grades))] H := hP
            have hD : va_D A [(h_t, .inr (8, [.long t_trace, .ref h_t_text, .int t_typed, .ref h_t_said, .ref h_t_many, .long t_when, .long t_then, .ref h_t_grades, .ref h_t_doubts, .int t_at, .int t_token, .int t_start, .ref h_t_vals, .ref h_t_waits, .int t_valMany, .int t_waitMany, .int t_open, .long t_saying, .ref h_t_fresh, .ref h_t_freshMany, .int t_quarrel])), (h_t_said, .inl (G.2.1.2.2, 45, .inr (.inl t_said))), (h_t_many, .inl (G.2.1.2.1, 5, .inl t_many)), (h_t_grades, .inl (G.2.1.2.1, 9, .inl t_grades))] := hD
            exact hw_69 v2 _ ih v4 v6 v8 o13 hf _ _ hP hD hS _ hl
          · have hf := it_t c12 hf
            refine lv_aload_n hx hb dX8_best_53 rfl (lv_at hl 0 rfl) ?_
            refine lv_iload hx hb dX8_best_54 (lv_at hl 5 rfl) ?_
            obtain ⟨o14, ho14, hf⟩ := bd_e hf
            refine af_i (wr := []) (va_runV (As := [.int v8]) (rest := []) ⟨hx, hb, hml, hown, hts⟩ (c_X8_worldGrade l G h_t h_t_text h_t_said h_t_many h_t_grades h_t_doubts h_t_vals h_t_waits h_t_fresh h_t_freshMany H.size t_trace t_typed t_when t_then t_at t_token t_start t_valMany t_waitMany t_open t_saying t_quarrel t_said t_many t_grades v8 o14 ho14) (cwV 1 hts gX8_best_X8_worldGrade rfl rfl rfl (by decide +kernel) ⟨Nat.le_of_ble_eq_true rfl, Nat.le_of_ble_eq_true rfl⟩) (pcA_preV hg hc hP hD hS hA [0, 1, 2, 3] rfl (by decide) (q0 := 0) (ci := 8) rfl rfl rfl) rfl rfl hl.1 rfl (lv_room (Nat.le_of_ble_eq_true rfl)) dX8_best_56 ⟨Nat.zero_le _, Nat.zero_le _⟩) hP hD hS hA [0, 1, 2, 3] [] rfl rfl (by decide) (by decide) (fun _ H locs _ hP hD hS => ?_)
            have hP : va_P G.1 vwCl [(h_t, .inr (8, [.long t_trace, .ref h_t_text, .int t_typed, .ref h_t_said, .ref h_t_many, .long t_when, .long t_then, .ref h_t_grades, .ref h_t_doubts, .int t_at, .int t_token, .int t_start, .ref h_t_vals, .ref h_t_waits, .int t_valMany, .int t_waitMany, .int t_open, .long t_saying, .ref h_t_fresh, .ref h_t_freshMany, .int t_quarrel])), (h_t_said, .inl (G.2.1.2.2, 45, .inr (.inl t_said))), (h_t_many, .inl (G.2.1.2.1, 5, .inl t_many)), (h_t_grades, .inl (G.2.1.2.1, 9, .inl t_grades))] H := hP
            have hD : va_D A [(h_t, .inr (8, [.long t_trace, .ref h_t_text, .int t_typed, .ref h_t_said, .ref h_t_many, .long t_when, .long t_then, .ref h_t_grades, .ref h_t_doubts, .int t_at, .int t_token, .int t_start, .ref h_t_vals, .ref h_t_waits, .int t_valMany, .int t_waitMany, .int t_open, .long t_saying, .ref h_t_fresh, .ref h_t_freshMany, .int t_quarrel])), (h_t_said, .inl (G.2.1.2.2, 45, .inr (.inl t_said))), (h_t_many, .inl (G.2.1.2.1, 5, .inl t_many)), (h_t_grades, .inl (G.2.1.2.1, 9, .inl t_grades))] := hD
            refine lv_i2l (v := (o14).toInt64) hx hb dX8_best_59 rfl ?_
            refine lv_goto (tgt := 69) hx hb dX8_best_60 (by decide) ?_
            exact hw_69 v2 _ ih v4 v6 v8 ((o14).toInt64) hf _ _ hP hD hS _ hl
  unfold f_X8_best at hf
  refine en (fun H locs hP hD hS => ?_) hP hD
  refine lv_iload_n hx hb dX8_best_0 rfl (lv_at hl 1 rfl) ?_
  refine lv_i2l (v := (a1).toInt64) hx hb dX8_best_1 rfl ?_
  refine lv_lconst (v := (0 : Int64)) hx hb dX8_best_2 (by decide) ?_
  refine lv_lconst (v := (1 : Int64)) hx hb dX8_best_3 (by decide) ?_
  obtain ⟨o15, ho15, hf⟩ := bd_e hf
  refine af0_i (va_runS (As := [.long ((a1).toInt64), .long (0 : Int64), .long (1 : Int64)]) (rest := []) ⟨hx, hb, hml, hown, hts⟩ (c_X8_in l G H.size ((a1).toInt64) (0 : Int64) (1 : Int64) o15 ho15) (va_cwS 3 hts gX8_best_X8_in rfl rfl rfl (by decide +kernel) ⟨Nat.le_of_ble_eq_true rfl, Nat.le_of_ble_eq_true rfl⟩) (pcA_pre hg hc hP hD hS hA [] rfl rfl [.long ((a1).toInt64), .long (0 : Int64), .long (1 : Int64)]) rfl rfl hl.1 rfl (lv_room (Nat.le_of_ble_eq_true rfl)) dX8_best_4 ⟨Nat.zero_le _, Nat.zero_le _⟩) hP hD hS hA (fun H locs hP hD hS => ?_)
  refine lv_if_ne (tgt := 12) hx hb dX8_best_7 (by decide) (fun c16 => ?_) (fun c16 => ?_)
  · have hf := it_f c16 hf
    refine lv_aload_n hx hb dX8_best_12 rfl (lv_at hl 0 rfl) ?_
    obtain ⟨o17, ho17, hf⟩ := bd_e hf
    refine af_l (wr := [(h_t_grades, .inl (G.2.1.2.1, 9, .inl t_grades))]) (va_runV (As := []) (rest := []) ⟨hx, hb, hml, hown, hts⟩ (c_X8_thereNow l G h_t h_t_text h_t_said h_t_many h_t_grades h_t_doubts h_t_vals h_t_waits h_t_fresh h_t_freshMany H.size t_trace t_typed t_when t_then t_at t_token t_start t_valMany t_waitMany t_open t_saying t_quarrel t_said t_many o17 ho17) (cwV 0 hts gX8_best_X8_thereNow rfl rfl rfl (by decide +kernel) ⟨Nat.le_of_ble_eq_true rfl, Nat.le_of_ble_eq_true rfl⟩) (pcA_preV hg hc hP hD hS hA [0, 1, 2] rfl (by decide) (q0 := 0) (ci := 8) rfl rfl rfl) rfl rfl hl.1 rfl (lv_room (Nat.le_of_ble_eq_true rfl)) dX8_best_13 ⟨Nat.zero_le _, Nat.zero_le _⟩) hP hD hS hA [0, 1, 2] [3] rfl rfl (by decide) (by decide) (fun _ H locs _ hP hD hS => ?_)
    have hP : va_P G.1 vwCl [(h_t, .inr (8, [.long t_trace, .ref h_t_text, .int t_typed, .ref h_t_said, .ref h_t_many, .long t_when, .long t_then, .ref h_t_grades, .ref h_t_doubts, .int t_at, .int t_token, .int t_start, .ref h_t_vals, .ref h_t_waits, .int t_valMany, .int t_waitMany, .int t_open, .long t_saying, .ref h_t_fresh, .ref h_t_freshMany, .int t_quarrel])), (h_t_said, .inl (G.2.1.2.2, 45, .inr (.inl t_said))), (h_t_many, .inl (G.2.1.2.1, 5, .inl t_many)), (h_t_grades, .inl (G.2.1.2.1, 9, .inl t_grades))] H := hP.sub [1, 2, 3, 0] rfl
    have hD : va_D A [(h_t, .inr (8, [.long t_trace, .ref h_t_text, .int t_typed, .ref h_t_said, .ref h_t_many, .long t_when, .long t_then, .ref h_t_grades, .ref h_t_doubts, .int t_at, .int t_token, .int t_start, .ref h_t_vals, .ref h_t_waits, .int t_valMany, .int t_waitMany, .int t_open, .long t_saying, .ref h_t_fresh, .ref h_t_freshMany, .int t_quarrel])), (h_t_said, .inl (G.2.1.2.2, 45, .inr (.inl t_said))), (h_t_many, .inl (G.2.1.2.1, 5, .inl t_many)), (h_t_grades, .inl (G.2.1.2.1, 9, .inl t_grades))] := hD.sub [1, 2, 3, 0] (by decide) rfl
    refine lv_aload_n hx hb dX8_best_16 rfl (lv_at hl 0 rfl) ?_
    refine va_get (D := G.1) (ci := 8) (v := .long t_when) (C := RX8) (T := TX8) (N := 21) hx hb hts hiX8 hown hg.1 hP 0 rfl rfl 5 (by decide) (hts (.fieldLink RX8 40 "AsARuleModel" "when" "J") (by decide +kernel)) (fun _ h9 => h9) rfl dX8_best_17 ?_
    refine lv_land hx hb dX8_best_20 ?_
    refine lv_topl (fun x18 ex18 => ?_)
    have hf := lt_n hf x18 ex18
    refine lv_lstore_n (lv' := [(2, .long x18), (0, .ref h_t), (1, .int a1)]) hx hb dX8_best_21 rfl hl (by decide) rfl (fun ls hl => ?_)
    refine lv_ldc2 (v := (-1 : Int64)) hx hb hown (hts (.constantLong RX8 38 (-1 : Int64)) (by decide +kernel)) dX8_best_22 ?_
    refine lv_lstore (lv' := [(4, .long (-1 : Int64)), (2, .long x18), (0, .ref h_t), (1, .int a1)]) hx hb dX8_best_25 hl (by decide) rfl (fun ls hl => ?_)
    refine lv_lconst (v := (0 : Int64)) hx hb dX8_best_27 (by decide) ?_
    refine lv_lstore (lv' := [(6, .long (0 : Int64)), (4, .long (-1 : Int64)), (2, .long x18), (0, .ref h_t), (1, .int a1)]) hx hb dX8_best_28 hl (by decide) rfl (fun ls hl => ?_)
    refine lv_iconst (v := (0 : Int32)) hx hb dX8_best_30 (by decide) ?_
    refine lv_istore (lv' := [(8, .int (0 : Int32)), (6, .long (0 : Int64)), (4, .long (-1 : Int64)), (2, .long x18), (0, .ref h_t), (1, .int a1)]) hx hb dX8_best_31 hl (by decide) rfl (fun ls hl => ?_)
    exact hw_33 x18 fu (-1 : Int64) (0 : Int64) (0 : Int32) hf _ _ hP hD hS _ (lv_sub hl [4, 5, 3, 2, 1, 0] rfl)
  · have hf := it_t c16 hf
    refine lv_lconst (v := (0 : Int64)) hx hb dX8_best_10 (by decide) ?_
    rw [← Option.some.inj hf]
    exact rt_l (u := ()) hx hb hr hlocks hP hD trivial hS dX8_best_11
-- method X8_ever
def f_X8_ever (t_when : Int64) (t_then : Int64) (t_quarrel : Int32) (t_said : Nat → Int64) (t_many : Nat → Int32) (t_grades : Nat → Int32) : Option (Int32 × Int32 × (Nat → Int64) × (Nat → Int32)) :=
  gd (ib (1 : Int32) 5) (lt (t_many (1 : Int32).toNatClampNeg) (fun x1 => gd (ib ((9 : Int32) + x1) 45) (gd (ib ((18 : Int32) + x1) 45) (bd (f_X8_grades (vp_updL (vp_updL t_said ((9 : Int32) + x1).toNatClampNeg t_when) ((18 : Int32) + x1).toNatClampNeg (t_then ^^^ (-1 : Int64))) t_many t_grades (x1 + (1 : Int32))) (fun o2 => bd (f_X8_rates t_quarrel (vp_updL (vp_updL t_said ((9 : Int32) + x1).toNatClampNeg t_when) ((18 : Int32) + x1).toNatClampNeg (t_then ^^^ (-1 : Int64))) t_many o2.2) (fun o3 => gd (zb o2.1) (some (o2.1, o3.1, (vp_updL (vp_updL t_said ((9 : Int32) + x1).toNatClampNeg t_when) ((18 : Int32) + x1).toNatClampNeg (t_then ^^^ (-1 : Int64))), o3.2))))))))
set_option maxHeartbeats 4000000 in
set_option maxRecDepth 100000 in
theorem c_X8_ever (l : Launch) (G : GG) (h_t h_t_text h_t_said h_t_many h_t_grades h_t_doubts h_t_vals h_t_waits h_t_fresh h_t_freshMany : Nat) (sz : Nat) (t_trace : Int64) (t_typed : Int32) (t_when : Int64) (t_then : Int64) (t_at : Int32) (t_token : Int32) (t_start : Int32) (t_valMany : Int32) (t_waitMany : Int32) (t_open : Int32) (t_saying : Int64) (t_quarrel : Int32) (t_said : Nat → Int64) (t_many : Nat → Int32) (t_grades : Nat → Int32)  (o : Int32 × Int32 × (Nat → Int64) × (Nat → Int32)) (ho : f_X8_ever t_when t_then t_quarrel t_said t_many t_grades = some o)  : Met l yX8_ever wsX8_ever ({ frames := 4, cells := 0, slots := 0, locals := 91 } : Room) (pcA G [.ref h_t] [(h_t, .inr (8, [.long t_trace, .ref h_t_text, .int t_typed, .ref h_t_said, .ref h_t_many, .long t_when, .long t_then, .ref h_t_grades, .ref h_t_doubts, .int t_at, .int t_token, .int t_start, .ref h_t_vals, .ref h_t_waits, .int t_valMany, .int t_waitMany, .int t_open, .long t_saying, .ref h_t_fresh, .ref h_t_freshMany, .int t_quarrel])), (h_t_said, .inl (G.2.1.2.2, 45, .inr (.inl t_said))), (h_t_many, .inl (G.2.1.2.1, 5, .inl t_many)), (h_t_grades, .inl (G.2.1.2.1, 9, .inl t_grades))] sz) (qcI Unit G o.1 (fun _ => True) (fun _ => [(h_t, .inr (8, [.long t_trace, .ref h_t_text, .int t_typed, .ref h_t_said, .ref h_t_many, .long t_when, .long t_then, .ref h_t_grades, .ref h_t_doubts, .int t_at, .int t_token, .int t_start, .ref h_t_vals, .ref h_t_waits, .int t_valMany, .int t_waitMany, .int t_open, .long t_saying, .ref h_t_fresh, .ref h_t_freshMany, .int o.2.1])), (h_t_said, .inl (G.2.1.2.2, 45, .inr (.inl o.2.2.1))), (h_t_many, .inl (G.2.1.2.1, 5, .inl t_many)), (h_t_grades, .inl (G.2.1.2.1, 9, .inl o.2.2.2))]) (va_A [(h_t, .inr (8, [.long t_trace, .ref h_t_text, .int t_typed, .ref h_t_said, .ref h_t_many, .long t_when, .long t_then, .ref h_t_grades, .ref h_t_doubts, .int t_at, .int t_token, .int t_start, .ref h_t_vals, .ref h_t_waits, .int t_valMany, .int t_waitMany, .int t_open, .long t_saying, .ref h_t_fresh, .ref h_t_freshMany, .int t_quarrel])), (h_t_said, .inl (G.2.1.2.2, 45, .inr (.inl t_said))), (h_t_many, .inl (G.2.1.2.1, 5, .inl t_many)), (h_t_grades, .inl (G.2.1.2.1, 9, .inl t_grades))] sz)) 0 0 (va_A [(h_t, .inr (8, [.long t_trace, .ref h_t_text, .int t_typed, .ref h_t_said, .ref h_t_many, .long t_when, .long t_then, .ref h_t_grades, .ref h_t_doubts, .int t_at, .int t_token, .int t_start, .ref h_t_vals, .ref h_t_waits, .int t_valMany, .int t_waitMany, .int t_open, .long t_saying, .ref h_t_fresh, .ref h_t_freshMany, .int t_quarrel])), (h_t_said, .inl (G.2.1.2.2, 45, .inr (.inl t_said))), (h_t_many, .inl (G.2.1.2.1, 5, .inl t_many)), (h_t_grades, .inl (G.2.1.2.1, 9, .inl t_grades))] sz) := by
  refine Met.ofW (cc := cX8_ever) (maxL := 3) (ret := (some .boolean)) (by decide) rfl ?_
  intro p e s m args below meth c s₁ B hml hv
  obtain ⟨rfl, hsz, hP, hg, hD0, hc⟩ := hv
  have hx := B.exec
  have hb := B.bytes
  have hr := B.returns
  have hts := atoms_spec (ws := wsX8_ever) B.pre
  have hown : s.vm.findClass RX8 = some m.cls := findClass_of_methodNamed B.named
  have hlocks := B.notSynchronized
  subst hsz
  have hD := hD0.self (sz := s.heap.size)
  generalize hAe : va_A [(h_t, .inr (8, [.long t_trace, .ref h_t_text, .int t_typed, .ref h_t_said, .ref h_t_many, .long t_when, .long t_then, .ref h_t_grades, .ref h_t_doubts, .int t_at, .int t_token, .int t_start, .ref h_t_vals, .ref h_t_waits, .int t_valMany, .int t_waitMany, .int t_open, .long t_saying, .ref h_t_fresh, .ref h_t_freshMany, .int t_quarrel])), (h_t_said, .inl (G.2.1.2.2, 45, .inr (.inl t_said))), (h_t_many, .inl (G.2.1.2.1, 5, .inl t_many)), (h_t_grades, .inl (G.2.1.2.1, 9, .inl t_grades))] s.heap.size = A at hD hc ⊢
  have hA : ∀ q : Nat, s.heap.size ≤ q → A q := fun q h => by rw [← hAe]; exact Or.inr h
  have hiX8 : ∀ w ∈ wsX80, w ∈ wsX8_ever := by decide +kernel
  have hl := lv_entry ([.ref h_t]) (n := 3) (Nat.le_of_ble_eq_true rfl)
  rw [lg_entry_eq]
  generalize (lg_sl ([.ref h_t]) ++ List.replicate (3 - (lg_sl ([.ref h_t])).length) Slot.unset).toArray = ls at hl ⊢
  have hl : lv_has ls 3 [(0, .ref h_t)] := hl
  have hf := ho
  unfold f_X8_ever at hf
  refine en (fun H locs hP hD hS => ?_) hP hD
  refine lv_aload_n hx hb dX8_ever_0 rfl (lv_at hl 0 rfl) ?_
  refine va_get (D := G.1) (ci := 8) (v := .ref h_t_many) (C := RX8) (T := TX8) (N := 21) hx hb hts hiX8 hown hg.1 hP 0 rfl rfl 4 (by decide) (hts (.fieldLink RX8 17 "AsARuleModel" "many" "[I") (by decide +kernel)) (fun _ h9 => h9) rfl dX8_ever_1 ?_
  refine lv_iconst (v := (1 : Int32)) hx hb dX8_ever_4 (by decide) ?_
  refine va_iald hx hb hg.1 hP 2 1 rfl rfl (ib_in (gd_t hf)) dX8_ever_5 ?_
  have hf := gd_x hf
  refine lv_topi (fun x1 ex1 => ?_)
  have hf := lt_n hf x1 ex1
  refine lv_istore_n (lv' := [(1, .int x1), (0, .ref h_t)]) hx hb dX8_ever_6 rfl hl (by decide) rfl (fun ls hl => ?_)
  refine lv_aload_n hx hb dX8_ever_7 rfl (lv_at hl 1 rfl) ?_
  refine va_get (D := G.1) (ci := 8) (v := .ref h_t_said) (C := RX8) (T := TX8) (N := 21) hx hb hts hiX8 hown hg.1 hP 0 rfl rfl 3 (by decide) (hts (.fieldLink RX8 13 "AsARuleModel" "said" "[J") (by decide +kernel)) (fun _ h9 => h9) rfl dX8_ever_8 ?_
  refine lv_bipush (v := (9 : Int32)) hx hb dX8_ever_11 (by decide) ?_
  refine lv_iload_n hx hb dX8_ever_13 rfl (lv_at hl 0 rfl) ?_
  refine lv_iadd hx hb dX8_ever_14 ?_
  refine lv_aload_n hx hb dX8_ever_15 rfl (lv_at hl 1 rfl) ?_
  refine va_get (D := G.1) (ci := 8) (v := .long t_when) (C := RX8) (T := TX8) (N := 21) hx hb hts hiX8 hown hg.1 hP 0 rfl rfl 5 (by decide) (hts (.fieldLink RX8 40 "AsARuleModel" "when" "J") (by decide +kernel)) (fun _ h9 => h9) rfl dX8_ever_16 ?_
  refine va_last hx hb hg.1 hP hD hS 1 2 rfl rfl (ib_in (gd_t hf)) dX8_ever_19 (fun H locs hP hD hS => ?_)
  have hf := gd_x hf
  have hP : va_P G.1 vwCl [(h_t, .inr (8, [.long t_trace, .ref h_t_text, .int t_typed, .ref h_t_said, .ref h_t_many, .long t_when, .long t_then, .ref h_t_grades, .ref h_t_doubts, .int t_at, .int t_token, .int t_start, .ref h_t_vals, .ref h_t_waits, .int t_valMany, .int t_waitMany, .int t_open, .long t_saying, .ref h_t_fresh, .ref h_t_freshMany, .int t_quarrel])), (h_t_said, .inl (G.2.1.2.2, 45, .inr (.inl (vp_updL t_said ((9 : Int32) + x1).toNatClampNeg t_when)))), (h_t_many, .inl (G.2.1.2.1, 5, .inl t_many)), (h_t_grades, .inl (G.2.1.2.1, 9, .inl t_grades))] H := hP
  have hD : va_D A [(h_t, .inr (8, [.long t_trace, .ref h_t_text, .int t_typed, .ref h_t_said, .ref h_t_many, .long t_when, .long t_then, .ref h_t_grades, .ref h_t_doubts, .int t_at, .int t_token, .int t_start, .ref h_t_vals, .ref h_t_waits, .int t_valMany, .int t_waitMany, .int t_open, .long t_saying, .ref h_t_fresh, .ref h_t_freshMany, .int t_quarrel])), (h_t_said, .inl (G.2.1.2.2, 45, .inr (.inl (vp_updL t_said ((9 : Int32) + x1).toNatClampNeg t_when)))), (h_t_many, .inl (G.2.1.2.1, 5, .inl t_many)), (h_t_grades, .inl (G.2.1.2.1, 9, .inl t_grades))] := hD
  refine lv_aload_n hx hb dX8_ever_20 rfl (lv_at hl 1 rfl) ?_
  refine va_get (D := G.1) (ci := 8) (v := .ref h_t_said) (C := RX8) (T := TX8) (N := 21) hx hb hts hiX8 hown hg.1 hP 0 rfl rfl 3 (by decide) (hts (.fieldLink RX8 13 "AsARuleModel" "said" "[J") (by decide +kernel)) (fun _ h9 => h9) rfl dX8_ever_21 ?_
  refine lv_bipush (v := (18 : Int32)) hx hb dX8_ever_24 (by decide) ?_
  refine lv_iload_n hx hb dX8_ever_26 rfl (lv_at hl 0 rfl) ?_
  refine lv_iadd hx hb dX8_ever_27 ?_
  refine lv_aload_n hx hb dX8_ever_28 rfl (lv_at hl 1 rfl) ?_
  refine va_get (D := G.1) (ci := 8) (v := .long t_then) (C := RX8) (T := TX8) (N := 21) hx hb hts hiX8 hown hg.1 hP 0 rfl rfl 6 (by decide) (hts (.fieldLink RX8 44 "AsARuleModel" "then" "J") (by decide +kernel)) (fun _ h9 => h9) rfl dX8_ever_29 ?_
  refine lv_ldc2 (v := (-1 : Int64)) hx hb hown (hts (.constantLong RX8 38 (-1 : Int64)) (by decide +kernel)) dX8_ever_32 ?_
  refine lv_lxor hx hb dX8_ever_35 ?_
  refine va_last hx hb hg.1 hP hD hS 1 2 rfl rfl (ib_in (gd_t hf)) dX8_ever_36 (fun H locs hP hD hS => ?_)
  have hf := gd_x hf
  have hP : va_P G.1 vwCl [(h_t, .inr (8, [.long t_trace, .ref h_t_text, .int t_typed, .ref h_t_said, .ref h_t_many, .long t_when, .long t_then, .ref h_t_grades, .ref h_t_doubts, .int t_at, .int t_token, .int t_start, .ref h_t_vals, .ref h_t_waits, .int t_valMany, .int t_waitMany, .int t_open, .long t_saying, .ref h_t_fresh, .ref h_t_freshMany, .int t_quarrel])), (h_t_said, .inl (G.2.1.2.2, 45, .inr (.inl (vp_updL (vp_updL t_said ((9 : Int32) + x1).toNatClampNeg t_when) ((18 : Int32) + x1).toNatClampNeg (t_then ^^^ (-1 : Int64)))))), (h_t_many, .inl (G.2.1.2.1, 5, .inl t_many)), (h_t_grades, .inl (G.2.1.2.1, 9, .inl t_grades))] H := hP
  have hD : va_D A [(h_t, .inr (8, [.long t_trace, .ref h_t_text, .int t_typed, .ref h_t_said, .ref h_t_many, .long t_when, .long t_then, .ref h_t_grades, .ref h_t_doubts, .int t_at, .int t_token, .int t_start, .ref h_t_vals, .ref h_t_waits, .int t_valMany, .int t_waitMany, .int t_open, .long t_saying, .ref h_t_fresh, .ref h_t_freshMany, .int t_quarrel])), (h_t_said, .inl (G.2.1.2.2, 45, .inr (.inl (vp_updL (vp_updL t_said ((9 : Int32) + x1).toNatClampNeg t_when) ((18 : Int32) + x1).toNatClampNeg (t_then ^^^ (-1 : Int64)))))), (h_t_many, .inl (G.2.1.2.1, 5, .inl t_many)), (h_t_grades, .inl (G.2.1.2.1, 9, .inl t_grades))] := hD
  refine lv_aload_n hx hb dX8_ever_37 rfl (lv_at hl 1 rfl) ?_
  refine lv_iload_n hx hb dX8_ever_38 rfl (lv_at hl 0 rfl) ?_
  refine lv_iconst (v := (1 : Int32)) hx hb dX8_ever_39 (by decide) ?_
  refine lv_iadd hx hb dX8_ever_40 ?_
  obtain ⟨o2, ho2, hf⟩ := bd_e hf
  refine af_i (wr := []) (va_runV (As := [.int (x1 + (1 : Int32))]) (rest := []) ⟨hx, hb, hml, hown, hts⟩ (c_X8_grades l G h_t h_t_text h_t_said h_t_many h_t_grades h_t_doubts h_t_vals h_t_waits h_t_fresh h_t_freshMany H.size t_trace t_typed t_when t_then t_at t_token t_start t_valMany t_waitMany t_open t_saying t_quarrel (vp_updL (vp_updL t_said ((9 : Int32) + x1).toNatClampNeg t_when) ((18 : Int32) + x1).toNatClampNeg (t_then ^^^ (-1 : Int64))) t_many t_grades (x1 + (1 : Int32)) o2 ho2) (cwV 1 hts gX8_ever_X8_grades rfl rfl rfl (by decide +kernel) ⟨Nat.le_of_ble_eq_true rfl, Nat.le_of_ble_eq_true rfl⟩) (pcA_preV hg hc hP hD hS hA [0, 1, 2, 3] rfl (by decide) (q0 := 0) (ci := 8) rfl rfl rfl) rfl rfl hl.1 rfl (lv_room (Nat.le_of_ble_eq_true rfl)) dX8_ever_41 ⟨Nat.zero_le _, Nat.zero_le _⟩) hP hD hS hA [0, 1, 2, 3] [] rfl rfl (by decide) (by decide) (fun _ H locs _ hP hD hS => ?_)
  have hP : va_P G.1 vwCl [(h_t, .inr (8, [.long t_trace, .ref h_t_text, .int t_typed, .ref h_t_said, .ref h_t_many, .long t_when, .long t_then, .ref h_t_grades, .ref h_t_doubts, .int t_at, .int t_token, .int t_start, .ref h_t_vals, .ref h_t_waits, .int t_valMany, .int t_waitMany, .int t_open, .long t_saying, .ref h_t_fresh, .ref h_t_freshMany, .int t_quarrel])), (h_t_said, .inl (G.2.1.2.2, 45, .inr (.inl (vp_updL (vp_updL t_said ((9 : Int32) + x1).toNatClampNeg t_when) ((18 : Int32) + x1).toNatClampNeg (t_then ^^^ (-1 : Int64)))))), (h_t_many, .inl (G.2.1.2.1, 5, .inl t_many)), (h_t_grades, .inl (G.2.1.2.1, 9, .inl o2.2))] H := hP
  have hD : va_D A [(h_t, .inr (8, [.long t_trace, .ref h_t_text, .int t_typed, .ref h_t_said, .ref h_t_many, .long t_when, .long t_then, .ref h_t_grades, .ref h_t_doubts, .int t_at, .int t_token, .int t_start, .ref h_t_vals, .ref h_t_waits, .int t_valMany, .int t_waitMany, .int t_open, .long t_saying, .ref h_t_fresh, .ref h_t_freshMany, .int t_quarrel])), (h_t_said, .inl (G.2.1.2.2, 45, .inr (.inl (vp_updL (vp_updL t_said ((9 : Int32) + x1).toNatClampNeg t_when) ((18 : Int32) + x1).toNatClampNeg (t_then ^^^ (-1 : Int64)))))), (h_t_many, .inl (G.2.1.2.1, 5, .inl t_many)), (h_t_grades, .inl (G.2.1.2.1, 9, .inl o2.2))] := hD
  refine lv_istore_n (lv' := [(2, .int o2.1), (1, .int x1), (0, .ref h_t)]) hx hb dX8_ever_44 rfl hl (by decide) rfl (fun ls hl => ?_)
  refine lv_aload_n hx hb dX8_ever_45 rfl (lv_at hl 2 rfl) ?_
  obtain ⟨o3, ho3, hf⟩ := bd_e hf
  refine af_v (wr := []) (va_runV (As := []) (rest := []) ⟨hx, hb, hml, hown, hts⟩ (c_X8_rates l G h_t h_t_text h_t_said h_t_many h_t_grades h_t_doubts h_t_vals h_t_waits h_t_fresh h_t_freshMany H.size t_trace t_typed t_when t_then t_at t_token t_start t_valMany t_waitMany t_open t_saying t_quarrel (vp_updL (vp_updL t_said ((9 : Int32) + x1).toNatClampNeg t_when) ((18 : Int32) + x1).toNatClampNeg (t_then ^^^ (-1 : Int64))) t_many o2.2 o3 ho3) (cwV 0 hts gX8_ever_X8_rates rfl rfl rfl (by decide +kernel) ⟨Nat.le_of_ble_eq_true rfl, Nat.le_of_ble_eq_true rfl⟩) (pcA_preV hg hc hP hD hS hA [0, 1, 2, 3] rfl (by decide) (q0 := 0) (ci := 8) rfl rfl rfl) rfl rfl hl.1 rfl (lv_room (Nat.le_of_ble_eq_true rfl)) dX8_ever_46 ⟨Nat.zero_le _, Nat.zero_le _⟩) hP hD hS hA [0, 1, 2, 3] [] rfl rfl (by decide) (by decide) (fun _ H locs _ hP hD hS => ?_)
  have hP : va_P G.1 vwCl [(h_t, .inr (8, [.long t_trace, .ref h_t_text, .int t_typed, .ref h_t_said, .ref h_t_many, .long t_when, .long t_then, .ref h_t_grades, .ref h_t_doubts, .int t_at, .int t_token, .int t_start, .ref h_t_vals, .ref h_t_waits, .int t_valMany, .int t_waitMany, .int t_open, .long t_saying, .ref h_t_fresh, .ref h_t_freshMany, .int o3.1])), (h_t_said, .inl (G.2.1.2.2, 45, .inr (.inl (vp_updL (vp_updL t_said ((9 : Int32) + x1).toNatClampNeg t_when) ((18 : Int32) + x1).toNatClampNeg (t_then ^^^ (-1 : Int64)))))), (h_t_many, .inl (G.2.1.2.1, 5, .inl t_many)), (h_t_grades, .inl (G.2.1.2.1, 9, .inl o3.2))] H := hP
  have hD : va_D A [(h_t, .inr (8, [.long t_trace, .ref h_t_text, .int t_typed, .ref h_t_said, .ref h_t_many, .long t_when, .long t_then, .ref h_t_grades, .ref h_t_doubts, .int t_at, .int t_token, .int t_start, .ref h_t_vals, .ref h_t_waits, .int t_valMany, .int t_waitMany, .int t_open, .long t_saying, .ref h_t_fresh, .ref h_t_freshMany, .int o3.1])), (h_t_said, .inl (G.2.1.2.2, 45, .inr (.inl (vp_updL (vp_updL t_said ((9 : Int32) + x1).toNatClampNeg t_when) ((18 : Int32) + x1).toNatClampNeg (t_then ^^^ (-1 : Int64)))))), (h_t_many, .inl (G.2.1.2.1, 5, .inl t_many)), (h_t_grades, .inl (G.2.1.2.1, 9, .inl o3.2))] := hD
  refine lv_iload_n hx hb dX8_ever_49 rfl (lv_at hl 0 rfl) ?_
  have z4 := gd_t hf
  have hf := gd_x hf
  rw [← Option.some.inj hf]
  exact rt_z (u := ()) hx hb hr z4 hlocks hP hD trivial hS dX8_ever_50
-- method X8_so
def jn_X8_so_54 (t_when : Int64) (t_then : Int64) (t_many : Nat → Int32) (a1 : Int32) (t_quarrel : Int32) (t_said : Nat → Int64) (t_grades : Nat → Int32) (s0 : Int64) : Option (Int32 × Int32 × (Nat → Int64) × (Nat → Int32)) :=
  if (s0 &&& (t_then ^^^ (-1 : Int64))) = (0 : Int64) then some ((1 : Int32), t_quarrel, t_said, t_grades) else some ((0 : Int32), t_quarrel, t_said, t_grades)
def f_X8_so (t_when : Int64) (t_then : Int64) (t_quarrel : Int32) (t_said : Nat → Int64) (t_many : Nat → Int32) (t_grades : Nat → Int32) (a1 : Int32) : Option (Int32 × Int32 × (Nat → Int64) × (Nat → Int32)) :=
  bd (f_X8_in ((a1).toInt64) (0 : Int64) (3 : Int64)) (fun o2 => if o2 = (0 : Int32) then some ((-1 : Int32), t_quarrel, t_said, t_grades) else if a1 = (2 : Int32) then bd (f_X8_ever t_when t_then t_quarrel t_said t_many t_grades) (fun o8 => if o8.1 = (0 : Int32) then some ((0 : Int32), o8.2.1, o8.2.2.1, o8.2.2.2) else some ((1 : Int32), o8.2.1, o8.2.2.1, o8.2.2.2)) else if a1 = (3 : Int32) then bd (f_X8_thereNow t_said t_many) (fun o7 => jn_X8_so_54 t_when t_then t_many a1 t_quarrel t_said t_grades (o7 &&& t_when)) else bd (f_X8_best t_when t_said t_many t_grades a1) (fun o6 => jn_X8_so_54 t_when t_then t_many a1 t_quarrel t_said t_grades o6))
set_option maxHeartbeats 4000000 in
set_option maxRecDepth 100000 in
theorem c_X8_so (l : Launch) (G : GG) (h_t h_t_text h_t_said h_t_many h_t_grades h_t_doubts h_t_vals h_t_waits h_t_fresh h_t_freshMany : Nat) (sz : Nat) (t_trace : Int64) (t_typed : Int32) (t_when : Int64) (t_then : Int64) (t_at : Int32) (t_token : Int32) (t_start : Int32) (t_valMany : Int32) (t_waitMany : Int32) (t_open : Int32) (t_saying : Int64) (t_quarrel : Int32) (t_said : Nat → Int64) (t_many : Nat → Int32) (t_grades : Nat → Int32) (a1 : Int32) (o : Int32 × Int32 × (Nat → Int64) × (Nat → Int32)) (ho : f_X8_so t_when t_then t_quarrel t_said t_many t_grades a1 = some o)  : Met l yX8_so wsX8_so ({ frames := 5, cells := 0, slots := 0, locals := 113 } : Room) (pcA G [.ref h_t, .int a1] [(h_t, .inr (8, [.long t_trace, .ref h_t_text, .int t_typed, .ref h_t_said, .ref h_t_many, .long t_when, .long t_then, .ref h_t_grades, .ref h_t_doubts, .int t_at, .int t_token, .int t_start, .ref h_t_vals, .ref h_t_waits, .int t_valMany, .int t_waitMany, .int t_open, .long t_saying, .ref h_t_fresh, .ref h_t_freshMany, .int t_quarrel])), (h_t_said, .inl (G.2.1.2.2, 45, .inr (.inl t_said))), (h_t_many, .inl (G.2.1.2.1, 5, .inl t_many)), (h_t_grades, .inl (G.2.1.2.1, 9, .inl t_grades))] sz) (qcI Unit G o.1 (fun _ => True) (fun _ => [(h_t, .inr (8, [.long t_trace, .ref h_t_text, .int t_typed, .ref h_t_said, .ref h_t_many, .long t_when, .long t_then, .ref h_t_grades, .ref h_t_doubts, .int t_at, .int t_token, .int t_start, .ref h_t_vals, .ref h_t_waits, .int t_valMany, .int t_waitMany, .int t_open, .long t_saying, .ref h_t_fresh, .ref h_t_freshMany, .int o.2.1])), (h_t_said, .inl (G.2.1.2.2, 45, .inr (.inl o.2.2.1))), (h_t_many, .inl (G.2.1.2.1, 5, .inl t_many)), (h_t_grades, .inl (G.2.1.2.1, 9, .inl o.2.2.2))]) (va_A [(h_t, .inr (8, [.long t_trace, .ref h_t_text, .int t_typed, .ref h_t_said, .ref h_t_many, .long t_when, .long t_then, .ref h_t_grades, .ref h_t_doubts, .int t_at, .int t_token, .int t_start, .ref h_t_vals, .ref h_t_waits, .int t_valMany, .int t_waitMany, .int t_open, .long t_saying, .ref h_t_fresh, .ref h_t_freshMany, .int t_quarrel])), (h_t_said, .inl (G.2.1.2.2, 45, .inr (.inl t_said))), (h_t_many, .inl (G.2.1.2.1, 5, .inl t_many)), (h_t_grades, .inl (G.2.1.2.1, 9, .inl t_grades))] sz)) 0 0 (va_A [(h_t, .inr (8, [.long t_trace, .ref h_t_text, .int t_typed, .ref h_t_said, .ref h_t_many, .long t_when, .long t_then, .ref h_t_grades, .ref h_t_doubts, .int t_at, .int t_token, .int t_start, .ref h_t_vals, .ref h_t_waits, .int t_valMany, .int t_waitMany, .int t_open, .long t_saying, .ref h_t_fresh, .ref h_t_freshMany, .int t_quarrel])), (h_t_said, .inl (G.2.1.2.2, 45, .inr (.inl t_said))), (h_t_many, .inl (G.2.1.2.1, 5, .inl t_many)), (h_t_grades, .inl (G.2.1.2.1, 9, .inl t_grades))] sz) := by
  refine Met.ofW (cc := cX8_so) (maxL := 4) (ret := (some .int)) (by decide) rfl ?_
  intro p e s m args below meth c s₁ B hml hv
  obtain ⟨rfl, hsz, hP, hg, hD0, hc⟩ := hv
  have hx := B.exec
  have hb := B.bytes
  have hr := B.returns
  have hts := atoms_spec (ws := wsX8_so) B.pre
  have hown : s.vm.findClass RX8 = some m.cls := findClass_of_methodNamed B.named
  have hlocks := B.notSynchronized
  subst hsz
  have hD := hD0.self (sz := s.heap.size)
  generalize hAe : va_A [(h_t, .inr (8, [.long t_trace, .ref h_t_text, .int t_typed, .ref h_t_said, .ref h_t_many, .long t_when, .long t_then, .ref h_t_grades, .ref h_t_doubts, .int t_at, .int t_token, .int t_start, .ref h_t_vals, .ref h_t_waits, .int t_valMany, .int t_waitMany, .int t_open, .long t_saying, .ref h_t_fresh, .ref h_t_freshMany, .int t_quarrel])), (h_t_said, .inl (G.2.1.2.2, 45, .inr (.inl t_said))), (h_t_many, .inl (G.2.1.2.1, 5, .inl t_many)), (h_t_grades, .inl (G.2.1.2.1, 9, .inl t_grades))] s.heap.size = A at hD hc ⊢
  have hA : ∀ q : Nat, s.heap.size ≤ q → A q := fun q h => by rw [← hAe]; exact Or.inr h
  have hiX8 : ∀ w ∈ wsX80, w ∈ wsX8_so := by decide +kernel
  have hl := lv_entry ([.ref h_t, .int a1]) (n := 4) (Nat.le_of_ble_eq_true rfl)
  rw [lg_entry_eq]
  generalize (lg_sl ([.ref h_t, .int a1]) ++ List.replicate (4 - (lg_sl ([.ref h_t, .int a1])).length) Slot.unset).toArray = ls at hl ⊢
  have hl : lv_has ls 4 [(0, .ref h_t), (1, .int a1)] := hl
  have hf := ho
  have hw_54 : ∀ (t_quarrel : Int32) (t_said : Nat → Int64) (t_grades : Nat → Int32) (s0 : Int64), jn_X8_so_54 t_when t_then t_many a1 t_quarrel t_said t_grades s0 = some o → ∀ (H : Heap) (locs : List Loc), va_P G.1 vwCl [(h_t, .inr (8, [.long t_trace, .ref h_t_text, .int t_typed, .ref h_t_said, .ref h_t_many, .long t_when, .long t_then, .ref h_t_grades, .ref h_t_doubts, .int t_at, .int t_token, .int t_start, .ref h_t_vals, .ref h_t_waits, .int t_valMany, .int t_waitMany, .int t_open, .long t_saying, .ref h_t_fresh, .ref h_t_freshMany, .int t_quarrel])), (h_t_said, .inl (G.2.1.2.2, 45, .inr (.inl t_said))), (h_t_many, .inl (G.2.1.2.1, 5, .inl t_many)), (h_t_grades, .inl (G.2.1.2.1, 9, .inl t_grades))] H → va_D A [(h_t, .inr (8, [.long t_trace, .ref h_t_text, .int t_typed, .ref h_t_said, .ref h_t_many, .long t_when, .long t_then, .ref h_t_grades, .ref h_t_doubts, .int t_at, .int t_token, .int t_start, .ref h_t_vals, .ref h_t_waits, .int t_valMany, .int t_waitMany, .int t_open, .long t_saying, .ref h_t_fresh, .ref h_t_freshMany, .int t_quarrel])), (h_t_said, .inl (G.2.1.2.2, 45, .inr (.inl t_said))), (h_t_many, .inl (G.2.1.2.1, 5, .inl t_many)), (h_t_grades, .inl (G.2.1.2.1, 9, .inl t_grades))] → va_S A s.heap H locs → ∀ (ls : Array Slot), lv_has ls 4 [(0, .ref h_t)] → W p l e (headSpec wsX8_so ({ frames := 5, cells := 0, slots := 0, locals := 113 } : Room)).room s m ([.ref h_t, .int a1] : List Value).toArray below meth c H locs 0 0 (MQ below (qcI Unit G o.1 (fun _ => True) (fun _ => [(h_t, .inr (8, [.long t_trace, .ref h_t_text, .int t_typed, .ref h_t_said, .ref h_t_many, .long t_when, .long t_then, .ref h_t_grades, .ref h_t_doubts, .int t_at, .int t_token, .int t_start, .ref h_t_vals, .ref h_t_waits, .int t_valMany, .int t_waitMany, .int t_open, .long t_saying, .ref h_t_fresh, .ref h_t_freshMany, .int o.2.1])), (h_t_said, .inl (G.2.1.2.2, 45, .inr (.inl o.2.2.1))), (h_t_many, .inl (G.2.1.2.1, 5, .inl t_many)), (h_t_grades, .inl (G.2.1.2.1, 9, .inl o.2.2.2))]) A) ([.ref h_t, .int a1] : List Value).toArray s 0 0 A) (F0 m 54 ls [.long s0]) := by
    intro t_quarrel t_said t_grades s0 hf H locs hP hD hS ls hl
    unfold jn_X8_so_54 at hf
    refine lv_lstore_n (lv' := [(2, .long s0), (0, .ref h_t)]) hx hb dX8_so_54 rfl hl (by decide) rfl (fun ls hl => ?_)
    refine lv_lload_n hx hb dX8_so_55 rfl (lv_at hl 0 rfl) ?_
    refine lv_aload_n hx hb dX8_so_56 rfl (lv_at hl 1 rfl) ?_
    refine va_get (D := G.1) (ci := 8) (v := .long t_then) (C := RX8) (T := TX8) (N := 21) hx hb hts hiX8 hown hg.1 hP 0 rfl rfl 6 (by decide) (hts (.fieldLink RX8 44 "AsARuleModel" "then" "J") (by decide +kernel)) (fun _ h9 => h9) rfl dX8_so_57 ?_
    refine lv_ldc2 (v := (-1 : Int64)) hx hb hown (hts (.constantLong RX8 38 (-1 : Int64)) (by decide +kernel)) dX8_so_60 ?_
    refine lv_lxor hx hb dX8_so_63 ?_
    refine lv_land hx hb dX8_so_64 ?_
    refine lv_lconst (v := (0 : Int64)) hx hb dX8_so_65 (by decide) ?_
    refine W.lcmp hx hb dX8_so_66 ?_
    refine lv_if_ne (tgt := 74) hx hb dX8_so_67 (by decide) (fun c1 => ?_) (fun c1 => ?_)
    · have c1 := fun z => c1 (lgc0.mpr z)
      have hf := it_f c1 hf
      refine lv_iconst (v := (0 : Int32)) hx hb dX8_so_74 (by decide) ?_
      rw [← Option.some.inj hf]
      exact rt_i (u := ()) hx hb hr hlocks hP hD trivial hS dX8_so_75
    · have c1 := lgc0.mp c1
      have hf := it_t c1 hf
      refine lv_iconst (v := (1 : Int32)) hx hb dX8_so_70 (by decide) ?_
      refine lv_goto (tgt := 75) hx hb dX8_so_71 (by decide) ?_
      rw [← Option.some.inj hf]
      exact rt_i (u := ()) hx hb hr hlocks hP hD trivial hS dX8_so_75
  unfold f_X8_so at hf
  refine en (fun H locs hP hD hS => ?_) hP hD
  refine lv_iload_n hx hb dX8_so_0 rfl (lv_at hl 1 rfl) ?_
  refine lv_i2l (v := (a1).toInt64) hx hb dX8_so_1 rfl ?_
  refine lv_lconst (v := (0 : Int64)) hx hb dX8_so_2 (by decide) ?_
  refine lv_ldc2 (v := (3 : Int64)) hx hb hown (hts (.constantLong RX8 199 (3 : Int64)) (by decide +kernel)) dX8_so_3 ?_
  obtain ⟨o2, ho2, hf⟩ := bd_e hf
  refine af0_i (va_runS (As := [.long ((a1).toInt64), .long (0 : Int64), .long (3 : Int64)]) (rest := []) ⟨hx, hb, hml, hown, hts⟩ (c_X8_in l G H.size ((a1).toInt64) (0 : Int64) (3 : Int64) o2 ho2) (va_cwS 3 hts gX8_so_X8_in rfl rfl rfl (by decide +kernel) ⟨Nat.le_of_ble_eq_true rfl, Nat.le_of_ble_eq_true rfl⟩) (pcA_pre hg hc hP hD hS hA [] rfl rfl [.long ((a1).toInt64), .long (0 : Int64), .long (3 : Int64)]) rfl rfl hl.1 rfl (lv_room (Nat.le_of_ble_eq_true rfl)) dX8_so_6 ⟨Nat.zero_le _, Nat.zero_le _⟩) hP hD hS hA (fun H locs hP hD hS => ?_)
  refine lv_if_ne (tgt := 14) hx hb dX8_so_9 (by decide) (fun c3 => ?_) (fun c3 => ?_)
  · have hf := it_f c3 hf
    refine lv_iload_n hx hb dX8_so_14 rfl (lv_at hl 1 rfl) ?_
    refine lv_iconst (v := (2 : Int32)) hx hb dX8_so_15 (by decide) ?_
    refine lv_icmp_ne (tgt := 32) hx hb dX8_so_16 (by decide) (fun c4 => ?_) (fun c4 => ?_)
    · have hf := it_f c4 hf
      refine lv_iload_n hx hb dX8_so_32 rfl (lv_at hl 1 rfl) ?_
      refine lv_iconst (v := (3 : Int32)) hx hb dX8_so_33 (by decide) ?_
      refine lv_icmp_ne (tgt := 49) hx hb dX8_so_34 (by decide) (fun c5 => ?_) (fun c5 => ?_)
      · have hf := it_f c5 hf
        refine lv_aload_n hx hb dX8_so_49 rfl (lv_at hl 0 rfl) ?_
        refine lv_iload_n hx hb dX8_so_50 rfl (lv_at hl 1 rfl) ?_
        obtain ⟨o6, ho6, hf⟩ := bd_e hf
        refine af_l (wr := []) (va_runV (As := [.int a1]) (rest := []) ⟨hx, hb, hml, hown, hts⟩ (c_X8_best l G h_t h_t_text h_t_said h_t_many h_t_grades h_t_doubts h_t_vals h_t_waits h_t_fresh h_t_freshMany H.size t_trace t_typed t_when t_then t_at t_token t_start t_valMany t_waitMany t_open t_saying t_quarrel t_said t_many t_grades a1 o6 ho6) (cwV 1 hts gX8_so_X8_best rfl rfl rfl (by decide +kernel) ⟨Nat.le_of_ble_eq_true rfl, Nat.le_of_ble_eq_true rfl⟩) (pcA_preV hg hc hP hD hS hA [0, 1, 2, 3] rfl (by decide) (q0 := 0) (ci := 8) rfl rfl rfl) rfl rfl hl.1 rfl (lv_room (Nat.le_of_ble_eq_true rfl)) dX8_so_51 ⟨Nat.zero_le _, Nat.zero_le _⟩) hP hD hS hA [0, 1, 2, 3] [] rfl rfl (by decide) (by decide) (fun _ H locs _ hP hD hS => ?_)
        have hP : va_P G.1 vwCl [(h_t, .inr (8, [.long t_trace, .ref h_t_text, .int t_typed, .ref h_t_said, .ref h_t_many, .long t_when, .long t_then, .ref h_t_grades, .ref h_t_doubts, .int t_at, .int t_token, .int t_start, .ref h_t_vals, .ref h_t_waits, .int t_valMany, .int t_waitMany, .int t_open, .long t_saying, .ref h_t_fresh, .ref h_t_freshMany, .int t_quarrel])), (h_t_said, .inl (G.2.1.2.2, 45, .inr (.inl t_said))), (h_t_many, .inl (G.2.1.2.1, 5, .inl t_many)), (h_t_grades, .inl (G.2.1.2.1, 9, .inl t_grades))] H := hP
        have hD : va_D A [(h_t, .inr (8, [.long t_trace, .ref h_t_text, .int t_typed, .ref h_t_said, .ref h_t_many, .long t_when, .long t_then, .ref h_t_grades, .ref h_t_doubts, .int t_at, .int t_token, .int t_start, .ref h_t_vals, .ref h_t_waits, .int t_valMany, .int t_waitMany, .int t_open, .long t_saying, .ref h_t_fresh, .ref h_t_freshMany, .int t_quarrel])), (h_t_said, .inl (G.2.1.2.2, 45, .inr (.inl t_said))), (h_t_many, .inl (G.2.1.2.1, 5, .inl t_many)), (h_t_grades, .inl (G.2.1.2.1, 9, .inl t_grades))] := hD
        exact hw_54 t_quarrel t_said t_grades o6 hf _ _ hP hD hS _ (lv_sub hl [0] rfl)
      · have hf := it_t c5 hf
        refine lv_aload_n hx hb dX8_so_37 rfl (lv_at hl 0 rfl) ?_
        obtain ⟨o7, ho7, hf⟩ := bd_e hf
        refine af_l (wr := [(h_t_grades, .inl (G.2.1.2.1, 9, .inl t_grades))]) (va_runV (As := []) (rest := []) ⟨hx, hb, hml, hown, hts⟩ (c_X8_thereNow l G h_t h_t_text h_t_said h_t_many h_t_grades h_t_doubts h_t_vals h_t_waits h_t_fresh h_t_freshMany H.size t_trace t_typed t_when t_then t_at t_token t_start t_valMany t_waitMany t_open t_saying t_quarrel t_said t_many o7 ho7) (cwV 0 hts gX8_so_X8_thereNow rfl rfl rfl (by decide +kernel) ⟨Nat.le_of_ble_eq_true rfl, Nat.le_of_ble_eq_true rfl⟩) (pcA_preV hg hc hP hD hS hA [0, 1, 2] rfl (by decide) (q0 := 0) (ci := 8) rfl rfl rfl) rfl rfl hl.1 rfl (lv_room (Nat.le_of_ble_eq_true rfl)) dX8_so_38 ⟨Nat.zero_le _, Nat.zero_le _⟩) hP hD hS hA [0, 1, 2] [3] rfl rfl (by decide) (by decide) (fun _ H locs _ hP hD hS => ?_)
        have hP : va_P G.1 vwCl [(h_t, .inr (8, [.long t_trace, .ref h_t_text, .int t_typed, .ref h_t_said, .ref h_t_many, .long t_when, .long t_then, .ref h_t_grades, .ref h_t_doubts, .int t_at, .int t_token, .int t_start, .ref h_t_vals, .ref h_t_waits, .int t_valMany, .int t_waitMany, .int t_open, .long t_saying, .ref h_t_fresh, .ref h_t_freshMany, .int t_quarrel])), (h_t_said, .inl (G.2.1.2.2, 45, .inr (.inl t_said))), (h_t_many, .inl (G.2.1.2.1, 5, .inl t_many)), (h_t_grades, .inl (G.2.1.2.1, 9, .inl t_grades))] H := hP.sub [1, 2, 3, 0] rfl
        have hD : va_D A [(h_t, .inr (8, [.long t_trace, .ref h_t_text, .int t_typed, .ref h_t_said, .ref h_t_many, .long t_when, .long t_then, .ref h_t_grades, .ref h_t_doubts, .int t_at, .int t_token, .int t_start, .ref h_t_vals, .ref h_t_waits, .int t_valMany, .int t_waitMany, .int t_open, .long t_saying, .ref h_t_fresh, .ref h_t_freshMany, .int t_quarrel])), (h_t_said, .inl (G.2.1.2.2, 45, .inr (.inl t_said))), (h_t_many, .inl (G.2.1.2.1, 5, .inl t_many)), (h_t_grades, .inl (G.2.1.2.1, 9, .inl t_grades))] := hD.sub [1, 2, 3, 0] (by decide) rfl
        refine lv_aload_n hx hb dX8_so_41 rfl (lv_at hl 0 rfl) ?_
        refine va_get (D := G.1) (ci := 8) (v := .long t_when) (C := RX8) (T := TX8) (N := 21) hx hb hts hiX8 hown hg.1 hP 0 rfl rfl 5 (by decide) (hts (.fieldLink RX8 40 "AsARuleModel" "when" "J") (by decide +kernel)) (fun _ h9 => h9) rfl dX8_so_42 ?_
        refine lv_land hx hb dX8_so_45 ?_
        refine lv_goto (tgt := 54) hx hb dX8_so_46 (by decide) ?_
        exact hw_54 t_quarrel t_said t_grades (o7 &&& t_when) hf _ _ hP hD hS _ (lv_sub hl [0] rfl)
    · have hf := it_t c4 hf
      refine lv_aload_n hx hb dX8_so_19 rfl (lv_at hl 0 rfl) ?_
      obtain ⟨o8, ho8, hf⟩ := bd_e hf
      refine af_i (wr := []) (va_runV (As := []) (rest := []) ⟨hx, hb, hml, hown, hts⟩ (c_X8_ever l G h_t h_t_text h_t_said h_t_many h_t_grades h_t_doubts h_t_vals h_t_waits h_t_fresh h_t_freshMany H.size t_trace t_typed t_when t_then t_at t_token t_start t_valMany t_waitMany t_open t_saying t_quarrel t_said t_many t_grades o8 ho8) (cwV 0 hts gX8_so_X8_ever rfl rfl rfl (by decide +kernel) ⟨Nat.le_of_ble_eq_true rfl, Nat.le_of_ble_eq_true rfl⟩) (pcA_preV hg hc hP hD hS hA [0, 1, 2, 3] rfl (by decide) (q0 := 0) (ci := 8) rfl rfl rfl) rfl rfl hl.1 rfl (lv_room (Nat.le_of_ble_eq_true rfl)) dX8_so_20 ⟨Nat.zero_le _, Nat.zero_le _⟩) hP hD hS hA [0, 1, 2, 3] [] rfl rfl (by decide) (by decide) (fun _ H locs _ hP hD hS => ?_)
      have hP : va_P G.1 vwCl [(h_t, .inr (8, [.long t_trace, .ref h_t_text, .int t_typed, .ref h_t_said, .ref h_t_many, .long t_when, .long t_then, .ref h_t_grades, .ref h_t_doubts, .int t_at, .int t_token, .int t_start, .ref h_t_vals, .ref h_t_waits, .int t_valMany, .int t_waitMany, .int t_open, .long t_saying, .ref h_t_fresh, .ref h_t_freshMany, .int o8.2.1])), (h_t_said, .inl (G.2.1.2.2, 45, .inr (.inl o8.2.2.1))), (h_t_many, .inl (G.2.1.2.1, 5, .inl t_many)), (h_t_grades, .inl (G.2.1.2.1, 9, .inl o8.2.2.2))] H := hP
      have hD : va_D A [(h_t, .inr (8, [.long t_trace, .ref h_t_text, .int t_typed, .ref h_t_said, .ref h_t_many, .long t_when, .long t_then, .ref h_t_grades, .ref h_t_doubts, .int t_at, .int t_token, .int t_start, .ref h_t_vals, .ref h_t_waits, .int t_valMany, .int t_waitMany, .int t_open, .long t_saying, .ref h_t_fresh, .ref h_t_freshMany, .int o8.2.1])), (h_t_said, .inl (G.2.1.2.2, 45, .inr (.inl o8.2.2.1))), (h_t_many, .inl (G.2.1.2.1, 5, .inl t_many)), (h_t_grades, .inl (G.2.1.2.1, 9, .inl o8.2.2.2))] := hD
      refine lv_if_eq (tgt := 30) hx hb dX8_so_23 (by decide) (fun c9 => ?_) (fun c9 => ?_)
      · have hf := it_t c9 hf
        refine lv_iconst (v := (0 : Int32)) hx hb dX8_so_30 (by decide) ?_
        rw [← Option.some.inj hf]
        exact rt_i (u := ()) hx hb hr hlocks hP hD trivial hS dX8_so_31
      · have hf := it_f c9 hf
        refine lv_iconst (v := (1 : Int32)) hx hb dX8_so_26 (by decide) ?_
        refine lv_goto (tgt := 31) hx hb dX8_so_27 (by decide) ?_
        rw [← Option.some.inj hf]
        exact rt_i (u := ()) hx hb hr hlocks hP hD trivial hS dX8_so_31
  · have hf := it_t c3 hf
    refine lv_iconst (v := (-1 : Int32)) hx hb dX8_so_12 (by decide) ?_
    rw [← Option.some.inj hf]
    exact rt_i (u := ()) hx hb hr hlocks hP hD trivial hS dX8_so_13
