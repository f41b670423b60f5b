-- method X8_type
def lp_X8_type_34 (a1 : Int64) (a3 : Int32) : Nat → Int32 → (Nat → Int32) → Int32 → Option (Int32 × Int32 × (Nat → Int32))
  | 0, _, _, _ => none
  | n + 1, t_typed, t_text, v4 => if v4 < (0 : Int32) then some (t_typed, t_typed, t_text) else gd (ib t_typed 400) (lt (t_typed + (1 : Int32)) (fun x2 => lt (v4 + (-1 : Int32)) (fun x3 => lp_X8_type_34 a1 a3 n x2 (upd t_text t_typed.toNatClampNeg ((((shrL a1 ((8 : Int32) * v4)) &&& (255 : Int64))).toInt32)) x3)))
def f_X8_type (t_typed : Int32) (t_text : Nat → Int32) (a1 : Int64) (a3 : Int32) : Option (Int32 × Int32 × (Nat → Int32)) :=
  bd (f_X8_in ((a3).toInt64) (1 : Int64) (8 : Int64)) (fun o4 => if o4 = (0 : Int32) then some ((-1 : Int32), t_typed, t_text) else if (t_typed + a3) ≤ (400 : Int32) then lt (a3 - (1 : Int32)) (fun x7 => lp_X8_type_34 a1 a3 fu t_typed t_text x7) else some ((-3 : Int32), t_typed, t_text))
set_option maxHeartbeats 4000000 in
set_option maxRecDepth 100000 in
theorem c_X8_type (l : Launch) (G : GG) (h_t h_t_text h_t_said h_t_many h_t_grades h_t_doubts h_t_vals h_t_waits h_t_fresh h_t_freshMany : Nat) (sz : Nat) (t_trace : Int64) (t_typed : Int32) (t_when : Int64) (t_then : Int64) (t_at : Int32) (t_token : Int32) (t_start : Int32) (t_valMany : Int32) (t_waitMany : Int32) (t_open : Int32) (t_saying : Int64) (t_quarrel : Int32) (t_text : Nat → Int32) (a1 : Int64) (a3 : Int32) (o : Int32 × Int32 × (Nat → Int32)) (ho : f_X8_type t_typed t_text a1 a3 = some o)  : Met l yX8_type wsX8_type ({ frames := 1, cells := 0, slots := 0, locals := 25 } : Room) (pcA G [.ref h_t, .long a1, .int a3] [(h_t, .inr (8, [.long t_trace, .ref h_t_text, .int t_typed, .ref h_t_said, .ref h_t_many, .long t_when, .long t_then, .ref h_t_grades, .ref h_t_doubts, .int t_at, .int t_token, .int t_start, .ref h_t_vals, .ref h_t_waits, .int t_valMany, .int t_waitMany, .int t_open, .long t_saying, .ref h_t_fresh, .ref h_t_freshMany, .int t_quarrel])), (h_t_text, .inl (G.2.1.2.1, 400, .inl t_text))] sz) (qcI Unit G o.1 (fun _ => True) (fun _ => [(h_t, .inr (8, [.long t_trace, .ref h_t_text, .int o.2.1, .ref h_t_said, .ref h_t_many, .long t_when, .long t_then, .ref h_t_grades, .ref h_t_doubts, .int t_at, .int t_token, .int t_start, .ref h_t_vals, .ref h_t_waits, .int t_valMany, .int t_waitMany, .int t_open, .long t_saying, .ref h_t_fresh, .ref h_t_freshMany, .int t_quarrel])), (h_t_text, .inl (G.2.1.2.1, 400, .inl o.2.2))]) (va_A [(h_t, .inr (8, [.long t_trace, .ref h_t_text, .int t_typed, .ref h_t_said, .ref h_t_many, .long t_when, .long t_then, .ref h_t_grades, .ref h_t_doubts, .int t_at, .int t_token, .int t_start, .ref h_t_vals, .ref h_t_waits, .int t_valMany, .int t_waitMany, .int t_open, .long t_saying, .ref h_t_fresh, .ref h_t_freshMany, .int t_quarrel])), (h_t_text, .inl (G.2.1.2.1, 400, .inl t_text))] sz)) 0 0 (va_A [(h_t, .inr (8, [.long t_trace, .ref h_t_text, .int t_typed, .ref h_t_said, .ref h_t_many, .long t_when, .long t_then, .ref h_t_grades, .ref h_t_doubts, .int t_at, .int t_token, .int t_start, .ref h_t_vals, .ref h_t_waits, .int t_valMany, .int t_waitMany, .int t_open, .long t_saying, .ref h_t_fresh, .ref h_t_freshMany, .int t_quarrel])), (h_t_text, .inl (G.2.1.2.1, 400, .inl t_text))] sz) := by
  refine Met.ofW (cc := cX8_type) (maxL := 5) (ret := (some .int)) (by decide) rfl ?_
  intro p e s m args below meth c s₁ B hml hv
  obtain ⟨rfl, hsz, hP, hg, hD0, hc⟩ := hv
  have hx := B.exec
  have hb := B.bytes
  have hr := B.returns
  have hts := atoms_spec (ws := wsX8_type) B.pre
  have hown : s.vm.findClass RX8 = some m.cls := findClass_of_methodNamed B.named
  have hlocks := B.notSynchronized
  subst hsz
  have hD := hD0.self (sz := s.heap.size)
  generalize hAe : va_A [(h_t, .inr (8, [.long t_trace, .ref h_t_text, .int t_typed, .ref h_t_said, .ref h_t_many, .long t_when, .long t_then, .ref h_t_grades, .ref h_t_doubts, .int t_at, .int t_token, .int t_start, .ref h_t_vals, .ref h_t_waits, .int t_valMany, .int t_waitMany, .int t_open, .long t_saying, .ref h_t_fresh, .ref h_t_freshMany, .int t_quarrel])), (h_t_text, .inl (G.2.1.2.1, 400, .inl t_text))] s.heap.size = A at hD hc ⊢
  have hA : ∀ q : Nat, s.heap.size ≤ q → A q := fun q h => by rw [← hAe]; exact Or.inr h
  have hiX8 : ∀ w ∈ wsX80, w ∈ wsX8_type := by decide +kernel
  have hl := lv_entry ([.ref h_t, .long a1, .int a3]) (n := 5) (Nat.le_of_ble_eq_true rfl)
  rw [lg_entry_eq]
  generalize (lg_sl ([.ref h_t, .long a1, .int a3]) ++ List.replicate (5 - (lg_sl ([.ref h_t, .long a1, .int a3])).length) Slot.unset).toArray = ls at hl ⊢
  have hl : lv_has ls 5 [(0, .ref h_t), (1, .long a1), (3, .int a3)] := hl
  have hf := ho
  have hw_34 : ∀  (n : Nat) (t_typed : Int32) (t_text : Nat → Int32) (v4 : Int32), lp_X8_type_34 a1 a3 n t_typed t_text v4 = some o → ∀ (H : Heap) (locs : List Loc), va_P G.1 vwCl [(h_t, .inr (8, [.long t_trace, .ref h_t_text, .int t_typed, .ref h_t_said, .ref h_t_many, .long t_when, .long t_then, .ref h_t_grades, .ref h_t_doubts, .int t_at, .int t_token, .int t_start, .ref h_t_vals, .ref h_t_waits, .int t_valMany, .int t_waitMany, .int t_open, .long t_saying, .ref h_t_fresh, .ref h_t_freshMany, .int t_quarrel])), (h_t_text, .inl (G.2.1.2.1, 400, .inl t_text))] H → va_D A [(h_t, .inr (8, [.long t_trace, .ref h_t_text, .int t_typed, .ref h_t_said, .ref h_t_many, .long t_when, .long t_then, .ref h_t_grades, .ref h_t_doubts, .int t_at, .int t_token, .int t_start, .ref h_t_vals, .ref h_t_waits, .int t_valMany, .int t_waitMany, .int t_open, .long t_saying, .ref h_t_fresh, .ref h_t_freshMany, .int t_quarrel])), (h_t_text, .inl (G.2.1.2.1, 400, .inl t_text))] → va_S A s.heap H locs → ∀ (ls : Array Slot), lv_has ls 5 [(0, .ref h_t), (1, .long a1), (4, .int v4)] → W p l e (headSpec wsX8_type ({ frames := 1, cells := 0, slots := 0, locals := 25 } : Room)).room s m ([.ref h_t, .long a1, .int a3] : List Value).toArray below meth c H locs 0 0 (MQ below (qcI Unit G o.1 (fun _ => True) (fun _ => [(h_t, .inr (8, [.long t_trace, .ref h_t_text, .int o.2.1, .ref h_t_said, .ref h_t_many, .long t_when, .long t_then, .ref h_t_grades, .ref h_t_doubts, .int t_at, .int t_token, .int t_start, .ref h_t_vals, .ref h_t_waits, .int t_valMany, .int t_waitMany, .int t_open, .long t_saying, .ref h_t_fresh, .ref h_t_freshMany, .int t_quarrel])), (h_t_text, .inl (G.2.1.2.1, 400, .inl o.2.2))]) A) ([.ref h_t, .long a1, .int a3] : List Value).toArray s 0 0 A) (F0 m 34 ls []) := by
    intro n
    induction n with
    | zero =>
      intro t_typed t_text v4 hf
      exact absurd hf (by rw [lp_X8_type_34]; intro h; cases h)
    | succ n ih =>
      intro t_typed t_text v4 hf H locs hP hD hS ls hl
      rw [lp_X8_type_34] at hf
      refine lv_iload hx hb dX8_type_34 (lv_at hl 2 rfl) ?_
      refine lv_if_lt (tgt := 76) hx hb dX8_type_36 (by decide) (fun c1 => ?_) (fun c1 => ?_)
      · have hf := it_t c1 hf
        refine lv_aload_n hx hb dX8_type_76 rfl (lv_at hl 0 rfl) ?_
        refine va_get (D := G.1) (ci := 8) (v := .int t_typed) (C := RX8) (T := TX8) (N := 21) hx hb hts hiX8 hown hg.1 hP 0 rfl rfl 2 (by decide) (hts (.fieldLink RX8 59 "AsARuleModel" "typed" "I") (by decide +kernel)) (fun _ h9 => h9) rfl dX8_type_77 ?_
        rw [← Option.some.inj hf]
        exact rt_i (u := ()) hx hb hr hlocks hP hD trivial hS dX8_type_80
      · have hf := it_f c1 hf
        refine lv_aload_n hx hb dX8_type_39 rfl (lv_at hl 0 rfl) ?_
        refine va_get (D := G.1) (ci := 8) (v := .ref h_t_text) (C := RX8) (T := TX8) (N := 21) hx hb hts hiX8 hown hg.1 hP 0 rfl rfl 1 (by decide) (hts (.fieldLink RX8 7 "AsARuleModel" "text" "[I") (by decide +kernel)) (fun _ h9 => h9) rfl dX8_type_40 ?_
        refine lv_aload_n hx hb dX8_type_43 rfl (lv_at hl 0 rfl) ?_
        refine va_get (D := G.1) (ci := 8) (v := .int t_typed) (C := RX8) (T := TX8) (N := 21) hx hb hts hiX8 hown hg.1 hP 0 rfl rfl 2 (by decide) (hts (.fieldLink RX8 59 "AsARuleModel" "typed" "I") (by decide +kernel)) (fun _ h9 => h9) rfl dX8_type_44 ?_
        refine lv_lload_n hx hb dX8_type_47 rfl (lv_at hl 1 rfl) ?_
        refine lv_bipush (v := (8 : Int32)) hx hb dX8_type_48 (by decide) ?_
        refine lv_iload hx hb dX8_type_50 (lv_at hl 2 rfl) ?_
        refine lv_imul hx hb dX8_type_52 ?_
        refine lv_lshr (v := (shrL a1 ((8 : Int32) * v4))) hx hb dX8_type_53 rfl ?_
        refine lv_ldc2 (v := (255 : Int64)) hx hb hown (hts (.constantLong RX8 63 (255 : Int64)) (by decide +kernel)) dX8_type_54 ?_
        refine lv_land hx hb dX8_type_57 ?_
        refine lv_l2i (v := (((shrL a1 ((8 : Int32) * v4)) &&& (255 : Int64))).toInt32) hx hb dX8_type_58 rfl ?_
        refine va_iast hx hb hg.1 hP hD hS 1 1 rfl rfl (ib_in (gd_t hf)) dX8_type_59 (fun H locs hP hD hS => ?_)
        have hf := gd_x hf
        have hP : va_P G.1 vwCl [(h_t, .inr (8, [.long t_trace, .ref h_t_text, .int t_typed, .ref h_t_said, .ref h_t_many, .long t_when, .long t_then, .ref h_t_grades, .ref h_t_doubts, .int t_at, .int t_token, .int t_start, .ref h_t_vals, .ref h_t_waits, .int t_valMany, .int t_waitMany, .int t_open, .long t_saying, .ref h_t_fresh, .ref h_t_freshMany, .int t_quarrel])), (h_t_text, .inl (G.2.1.2.1, 400, .inl (upd t_text t_typed.toNatClampNeg ((((shrL a1 ((8 : Int32) * v4)) &&& (255 : Int64))).toInt32))))] H := hP
        have hD : va_D A [(h_t, .inr (8, [.long t_trace, .ref h_t_text, .int t_typed, .ref h_t_said, .ref h_t_many, .long t_when, .long t_then, .ref h_t_grades, .ref h_t_doubts, .int t_at, .int t_token, .int t_start, .ref h_t_vals, .ref h_t_waits, .int t_valMany, .int t_waitMany, .int t_open, .long t_saying, .ref h_t_fresh, .ref h_t_freshMany, .int t_quarrel])), (h_t_text, .inl (G.2.1.2.1, 400, .inl (upd t_text t_typed.toNatClampNeg ((((shrL a1 ((8 : Int32) * v4)) &&& (255 : Int64))).toInt32))))] := hD
        refine lv_aload_n hx hb dX8_type_60 rfl (lv_at hl 0 rfl) ?_
        refine lv_dup hx hb dX8_type_61 rfl ?_
        refine va_get (D := G.1) (ci := 8) (v := .int t_typed) (C := RX8) (T := TX8) (N := 21) hx hb hts hiX8 hown hg.1 hP 0 rfl rfl 2 (by decide) (hts (.fieldLink RX8 59 "AsARuleModel" "typed" "I") (by decide +kernel)) (fun _ h9 => h9) rfl dX8_type_62 ?_
        refine lv_iconst (v := (1 : Int32)) hx hb dX8_type_65 (by decide) ?_
        refine lv_iadd hx hb dX8_type_66 ?_
        refine lv_topi (fun x2 ex2 => ?_)
        have hf := lt_n hf x2 ex2
        refine va_put (D := G.1) (ci := 8) (v := .int x2) (ty := .int) (C := RX8) (T := TX8) (N := 21) hx hb hts hiX8 tyX8 tyX8_ok nmX8 hown hg.1 hP hD hS 0 rfl rfl 2 (by decide) (hts (.fieldLink RX8 59 "AsARuleModel" "typed" "I") (by decide +kernel)) (fun _ h9 => h9) rfl (by decide +kernel) rfl rfl (Nat.le_of_ble_eq_true rfl) dX8_type_67 (fun H locs hP hD hS => ?_)
        have hP : va_P G.1 vwCl [(h_t, .inr (8, [.long t_trace, .ref h_t_text, .int x2, .ref h_t_said, .ref h_t_many, .long t_when, .long t_then, .ref h_t_grades, .ref h_t_doubts, .int t_at, .int t_token, .int t_start, .ref h_t_vals, .ref h_t_waits, .int t_valMany, .int t_waitMany, .int t_open, .long t_saying, .ref h_t_fresh, .ref h_t_freshMany, .int t_quarrel])), (h_t_text, .inl (G.2.1.2.1, 400, .inl (upd t_text t_typed.toNatClampNeg ((((shrL a1 ((8 : Int32) * v4)) &&& (255 : Int64))).toInt32))))] H := hP
        have hD : va_D A [(h_t, .inr (8, [.long t_trace, .ref h_t_text, .int x2, .ref h_t_said, .ref h_t_many, .long t_when, .long t_then, .ref h_t_grades, .ref h_t_doubts, .int t_at, .int t_token, .int t_start, .ref h_t_vals, .ref h_t_waits, .int t_valMany, .int t_waitMany, .int t_open, .long t_saying, .ref h_t_fresh, .ref h_t_freshMany, .int t_quarrel])), (h_t_text, .inl (G.2.1.2.1, 400, .inl (upd t_text t_typed.toNatClampNeg ((((shrL a1 ((8 : Int32) * v4)) &&& (255 : Int64))).toInt32))))] := hD
        obtain ⟨x3, ex3⟩ : ∃ y : Int32, y = (v4 + (-1 : Int32)) := ⟨_, rfl⟩
        have hf := lt_n hf x3 ex3
        refine lv_iinc (v := x3) (lv' := [(4, .int x3), (0, .ref h_t), (1, .long a1)]) hx hb dX8_type_70 hl (k := 2) rfl (by rw [ex3]; rfl) (by decide) rfl (fun ls hl => ?_)
        refine lv_goto (tgt := 34) hx hb dX8_type_73 (by decide) ?_
        exact ih x2 (upd t_text t_typed.toNatClampNeg ((((shrL a1 ((8 : Int32) * v4)) &&& (255 : Int64))).toInt32)) x3 hf _ _ hP hD hS _ (lv_sub hl [1, 2, 0] rfl)
  unfold f_X8_type at hf
  refine en (fun H locs hP hD hS => ?_) hP hD
  refine lv_iload_n hx hb dX8_type_0 rfl (lv_at hl 2 rfl) ?_
  refine lv_i2l (v := (a3).toInt64) hx hb dX8_type_1 rfl ?_
  refine lv_lconst (v := (1 : Int64)) hx hb dX8_type_2 (by decide) ?_
  refine lv_ldc2 (v := (8 : Int64)) hx hb hown (hts (.constantLong RX8 53 (8 : Int64)) (by decide +kernel)) dX8_type_3 ?_
  obtain ⟨o4, ho4, hf⟩ := bd_e hf
  refine af0_i (va_runS (As := [.long ((a3).toInt64), .long (1 : Int64), .long (8 : Int64)]) (rest := []) ⟨hx, hb, hml, hown, hts⟩ (c_X8_in l G H.size ((a3).toInt64) (1 : Int64) (8 : Int64) o4 ho4) (va_cwS 3 hts gX8_type_X8_in rfl rfl rfl (by decide +kernel) ⟨Nat.le_of_ble_eq_true rfl, Nat.le_of_ble_eq_true rfl⟩) (pcA_pre hg hc hP hD hS hA [] rfl rfl [.long ((a3).toInt64), .long (1 : Int64), .long (8 : Int64)]) rfl rfl hl.1 rfl (lv_room (Nat.le_of_ble_eq_true rfl)) dX8_type_6 ⟨Nat.zero_le _, Nat.zero_le _⟩) hP hD hS hA (fun H locs hP hD hS => ?_)
  refine lv_if_ne (tgt := 14) hx hb dX8_type_9 (by decide) (fun c5 => ?_) (fun c5 => ?_)
  · have hf := it_f c5 hf
    refine lv_aload_n hx hb dX8_type_14 rfl (lv_at hl 0 rfl) ?_
    refine va_get (D := G.1) (ci := 8) (v := .int t_typed) (C := RX8) (T := TX8) (N := 21) hx hb hts hiX8 hown hg.1 hP 0 rfl rfl 2 (by decide) (hts (.fieldLink RX8 59 "AsARuleModel" "typed" "I") (by decide +kernel)) (fun _ h9 => h9) rfl dX8_type_15 ?_
    refine lv_iload_n hx hb dX8_type_18 rfl (lv_at hl 2 rfl) ?_
    refine lv_iadd hx hb dX8_type_19 ?_
    refine lv_sipush (v := (400 : Int32)) hx hb dX8_type_20 (by decide) ?_
    refine lv_icmp_le (tgt := 29) hx hb dX8_type_23 (by decide) (fun c6 => ?_) (fun c6 => ?_)
    · have hf := it_t c6 hf
      refine lv_iload_n hx hb dX8_type_29 rfl (lv_at hl 2 rfl) ?_
      refine lv_iconst (v := (1 : Int32)) hx hb dX8_type_30 (by decide) ?_
      refine lv_isub hx hb dX8_type_31 ?_
      refine lv_topi (fun x7 ex7 => ?_)
      have hf := lt_n hf x7 ex7
      refine lv_istore (lv' := [(4, .int x7), (0, .ref h_t), (1, .long a1), (3, .int a3)]) hx hb dX8_type_32 hl (by decide) rfl (fun ls hl => ?_)
      exact hw_34 fu t_typed t_text x7 hf _ _ hP hD hS _ (lv_sub hl [1, 2, 0] rfl)
    · have hf := it_f c6 hf
      refine lv_bipush (v := (-3 : Int32)) hx hb dX8_type_26 (by decide) ?_
      rw [← Option.some.inj hf]
      exact rt_i (u := ()) hx hb hr hlocks hP hD trivial hS dX8_type_28
  · have hf := it_t c5 hf
    refine lv_iconst (v := (-1 : Int32)) hx hb dX8_type_12 (by decide) ?_
    rw [← Option.some.inj hf]
    exact rt_i (u := ()) hx hb hr hlocks hP hD trivial hS dX8_type_13
-- method X8_clear
def f_X8_clear (t_typed : Int32) : Option (Int32 × Int32) :=
  some (t_typed, (0 : Int32))
set_option maxHeartbeats 4000000 in
set_option maxRecDepth 100000 in
theorem c_X8_clear (l : Launch) (G : GG) (h_t h_t_text h_t_said h_t_many h_t_grades h_t_doubts h_t_vals h_t_waits h_t_fresh h_t_freshMany : Nat) (sz : Nat) (t_trace : Int64) (t_typed : Int32) (t_when : Int64) (t_then : Int64) (t_at : Int32) (t_token : Int32) (t_start : Int32) (t_valMany : Int32) (t_waitMany : Int32) (t_open : Int32) (t_saying : Int64) (t_quarrel : Int32)  (o : Int32 × Int32) (ho : f_X8_clear t_typed = some o)  : Met l yX8_clear wsX8_clear ({ frames := 0, cells := 0, slots := 0, locals := 0 } : Room) (pcA G [.ref h_t] [(h_t, .inr (8, [.long t_trace, .ref h_t_text, .int t_typed, .ref h_t_said, .ref h_t_many, .long t_when, .long t_then, .ref h_t_grades, .ref h_t_doubts, .int t_at, .int t_token, .int t_start, .ref h_t_vals, .ref h_t_waits, .int t_valMany, .int t_waitMany, .int t_open, .long t_saying, .ref h_t_fresh, .ref h_t_freshMany, .int t_quarrel]))] sz) (qcI Unit G o.1 (fun _ => True) (fun _ => [(h_t, .inr (8, [.long t_trace, .ref h_t_text, .int o.2, .ref h_t_said, .ref h_t_many, .long t_when, .long t_then, .ref h_t_grades, .ref h_t_doubts, .int t_at, .int t_token, .int t_start, .ref h_t_vals, .ref h_t_waits, .int t_valMany, .int t_waitMany, .int t_open, .long t_saying, .ref h_t_fresh, .ref h_t_freshMany, .int t_quarrel]))]) (va_A [(h_t, .inr (8, [.long t_trace, .ref h_t_text, .int t_typed, .ref h_t_said, .ref h_t_many, .long t_when, .long t_then, .ref h_t_grades, .ref h_t_doubts, .int t_at, .int t_token, .int t_start, .ref h_t_vals, .ref h_t_waits, .int t_valMany, .int t_waitMany, .int t_open, .long t_saying, .ref h_t_fresh, .ref h_t_freshMany, .int t_quarrel]))] sz)) 0 0 (va_A [(h_t, .inr (8, [.long t_trace, .ref h_t_text, .int t_typed, .ref h_t_said, .ref h_t_many, .long t_when, .long t_then, .ref h_t_grades, .ref h_t_doubts, .int t_at, .int t_token, .int t_start, .ref h_t_vals, .ref h_t_waits, .int t_valMany, .int t_waitMany, .int t_open, .long t_saying, .ref h_t_fresh, .ref h_t_freshMany, .int t_quarrel]))] sz) := by
  refine Met.ofW (cc := cX8_clear) (maxL := 2) (ret := (some .int)) (by decide) rfl ?_
  intro p e s m args below meth c s₁ B hml hv
  obtain ⟨rfl, hsz, hP, hg, hD0, hc⟩ := hv
  have hx := B.exec
  have hb := B.bytes
  have hr := B.returns
  have hts := atoms_spec (ws := wsX8_clear) B.pre
  have hown : s.vm.findClass RX8 = some m.cls := findClass_of_methodNamed B.named
  have hlocks := B.notSynchronized
  subst hsz
  have hD := hD0.self (sz := s.heap.size)
  generalize hAe : va_A [(h_t, .inr (8, [.long t_trace, .ref h_t_text, .int t_typed, .ref h_t_said, .ref h_t_many, .long t_when, .long t_then, .ref h_t_grades, .ref h_t_doubts, .int t_at, .int t_token, .int t_start, .ref h_t_vals, .ref h_t_waits, .int t_valMany, .int t_waitMany, .int t_open, .long t_saying, .ref h_t_fresh, .ref h_t_freshMany, .int t_quarrel]))] s.heap.size = A at hD hc ⊢
  have hA : ∀ q : Nat, s.heap.size ≤ q → A q := fun q h => by rw [← hAe]; exact Or.inr h
  have hiX8 : ∀ w ∈ wsX80, w ∈ wsX8_clear := by decide +kernel
  have hl := lv_entry ([.ref h_t]) (n := 2) (Nat.le_of_ble_eq_true rfl)
  rw [lg_entry_eq]
  generalize (lg_sl ([.ref h_t]) ++ List.replicate (2 - (lg_sl ([.ref h_t])).length) Slot.unset).toArray = ls at hl ⊢
  have hl : lv_has ls 2 [(0, .ref h_t)] := hl
  have hf := ho
  unfold f_X8_clear at hf
  refine en (fun H locs hP hD hS => ?_) hP hD
  refine lv_aload_n hx hb dX8_clear_0 rfl (lv_at hl 0 rfl) ?_
  refine va_get (D := G.1) (ci := 8) (v := .int t_typed) (C := RX8) (T := TX8) (N := 21) hx hb hts hiX8 hown hg.1 hP 0 rfl rfl 2 (by decide) (hts (.fieldLink RX8 59 "AsARuleModel" "typed" "I") (by decide +kernel)) (fun _ h9 => h9) rfl dX8_clear_1 ?_
  refine lv_istore_n (lv' := [(1, .int t_typed), (0, .ref h_t)]) hx hb dX8_clear_4 rfl hl (by decide) rfl (fun ls hl => ?_)
  refine lv_aload_n hx hb dX8_clear_5 rfl (lv_at hl 1 rfl) ?_
  refine lv_iconst (v := (0 : Int32)) hx hb dX8_clear_6 (by decide) ?_
  refine va_put (D := G.1) (ci := 8) (v := .int (0 : Int32)) (ty := .int) (C := RX8) (T := TX8) (N := 21) hx hb hts hiX8 tyX8 tyX8_ok nmX8 hown hg.1 hP hD hS 0 rfl rfl 2 (by decide) (hts (.fieldLink RX8 59 "AsARuleModel" "typed" "I") (by decide +kernel)) (fun _ h9 => h9) rfl (by decide +kernel) rfl rfl (Nat.le_of_ble_eq_true rfl) dX8_clear_7 (fun H locs hP hD hS => ?_)
  have hP : va_P G.1 vwCl [(h_t, .inr (8, [.long t_trace, .ref h_t_text, .int (0 : Int32), .ref h_t_said, .ref h_t_many, .long t_when, .long t_then, .ref h_t_grades, .ref h_t_doubts, .int t_at, .int t_token, .int t_start, .ref h_t_vals, .ref h_t_waits, .int t_valMany, .int t_waitMany, .int t_open, .long t_saying, .ref h_t_fresh, .ref h_t_freshMany, .int t_quarrel]))] H := hP
  have hD : va_D A [(h_t, .inr (8, [.long t_trace, .ref h_t_text, .int (0 : Int32), .ref h_t_said, .ref h_t_many, .long t_when, .long t_then, .ref h_t_grades, .ref h_t_doubts, .int t_at, .int t_token, .int t_start, .ref h_t_vals, .ref h_t_waits, .int t_valMany, .int t_waitMany, .int t_open, .long t_saying, .ref h_t_fresh, .ref h_t_freshMany, .int t_quarrel]))] := hD
  refine lv_iload_n hx hb dX8_clear_10 rfl (lv_at hl 0 rfl) ?_
  rw [← Option.some.inj hf]
  exact rt_i (u := ()) hx hb hr hlocks hP hD trivial hS dX8_clear_11
-- method X8_wordOf
def jn_X8_wordOf_71 (t_start : Int32) (t_text : Nat → Int32) (a1 : Int32) (v2 : Int64) : Option (Int32) :=
  if v2 = (46892851 : Int64) then some ((2 : Int32)) else if v2 = (294 : Int64) then some ((3 : Int32)) else if v2 = (663726 : Int64) then some ((4 : Int32)) else if v2 = (197748 : Int64) then some ((5 : Int32)) else if v2 = (13369 : Int64) then some ((6 : Int32)) else some ((1 : Int32))
def jn_X8_wordOf_49 (t_start : Int32) (t_text : Nat → Int32) (a1 : Int32) (v2 : Int64) : Option (Int32) :=
  if v2 < (1 : Int64) then jn_X8_wordOf_71 t_start t_text a1 v2 else if (6 : Int64) < v2 then jn_X8_wordOf_71 t_start t_text a1 v2 else some ((((10 : Int32) + ((v2).toInt32)) - (1 : Int32)))
def lp_X8_wordOf_5 (t_start : Int32) (t_text : Nat → Int32) (a1 : Int32) : Nat → Int64 → Int32 → Option (Int32)
  | 0, _, _ => none
  | n + 1, v2, v4 => if a1 ≤ v4 then jn_X8_wordOf_49 t_start t_text a1 v2 else if (7 : Int32) ≤ a1 then jn_X8_wordOf_49 t_start t_text a1 v2 else gd (ib (t_start + v4) 400) (lt (((((32 : Int64) * v2) + (((t_text (t_start + v4).toNatClampNeg)).toInt64)) - (97 : Int64)) + (1 : Int64)) (fun x10 => lt (v4 + (1 : Int32)) (fun x11 => lp_X8_wordOf_5 t_start t_text a1 n x10 x11)))
def f_X8_wordOf (t_start : Int32) (t_text : Nat → Int32) (a1 : Int32) : Option (Int32) :=
  lp_X8_wordOf_5 t_start t_text a1 fu (0 : Int64) (0 : Int32)
set_option maxHeartbeats 4000000 in
set_option maxRecDepth 100000 in
theorem c_X8_wordOf (l : Launch) (G : GG) (h_t h_t_text h_t_said h_t_many h_t_grades h_t_doubts h_t_vals h_t_waits h_t_fresh h_t_freshMany : Nat) (sz : Nat) (t_trace : Int64) (t_typed : Int32) (t_when : Int64) (t_then : Int64) (t_at : Int32) (t_token : Int32) (t_start : Int32) (t_valMany : Int32) (t_waitMany : Int32) (t_open : Int32) (t_saying : Int64) (t_quarrel : Int32) (t_text : Nat → Int32) (a1 : Int32) (o : Int32) (ho : f_X8_wordOf t_start t_text a1 = some o)  : Met l yX8_wordOf wsX8_wordOf ({ frames := 0, cells := 0, slots := 0, locals := 0 } : Room) (pcA G [.ref h_t, .int a1] [(h_t, .inr (8, [.long t_trace, .ref h_t_text, .int t_typed, .ref h_t_said, .ref h_t_many, .long t_when, .long t_then, .ref h_t_grades, .ref h_t_doubts, .int t_at, .int t_token, .int t_start, .ref h_t_vals, .ref h_t_waits, .int t_valMany, .int t_waitMany, .int t_open, .long t_saying, .ref h_t_fresh, .ref h_t_freshMany, .int t_quarrel])), (h_t_text, .inl (G.2.1.2.1, 400, .inl t_text))] sz) (qcI Unit G o (fun _ => True) (fun _ => [(h_t, .inr (8, [.long t_trace, .ref h_t_text, .int t_typed, .ref h_t_said, .ref h_t_many, .long t_when, .long t_then, .ref h_t_grades, .ref h_t_doubts, .int t_at, .int t_token, .int t_start, .ref h_t_vals, .ref h_t_waits, .int t_valMany, .int t_waitMany, .int t_open, .long t_saying, .ref h_t_fresh, .ref h_t_freshMany, .int t_quarrel])), (h_t_text, .inl (G.2.1.2.1, 400, .inl t_text))]) (va_A [(h_t, .inr (8, [.long t_trace, .ref h_t_text, .int t_typed, .ref h_t_said, .ref h_t_many, .long t_when, .long t_then, .ref h_t_grades, .ref h_t_doubts, .int t_at, .int t_token, .int t_start, .ref h_t_vals, .ref h_t_waits, .int t_valMany, .int t_waitMany, .int t_open, .long t_saying, .ref h_t_fresh, .ref h_t_freshMany, .int t_quarrel])), (h_t_text, .inl (G.2.1.2.1, 400, .inl t_text))] sz)) 0 0 (va_A [(h_t, .inr (8, [.long t_trace, .ref h_t_text, .int t_typed, .ref h_t_said, .ref h_t_many, .long t_when, .long t_then, .ref h_t_grades, .ref h_t_doubts, .int t_at, .int t_token, .int t_start, .ref h_t_vals, .ref h_t_waits, .int t_valMany, .int t_waitMany, .int t_open, .long t_saying, .ref h_t_fresh, .ref h_t_freshMany, .int t_quarrel])), (h_t_text, .inl (G.2.1.2.1, 400, .inl t_text))] sz) := by
  refine Met.ofW (cc := cX8_wordOf) (maxL := 5) (ret := (some .int)) (by decide) rfl ?_
  intro p e s m args below meth c s₁ B hml hv
  obtain ⟨rfl, hsz, hP, hg, hD0, hc⟩ := hv
  have hx := B.exec
  have hb := B.bytes
  have hr := B.returns
  have hts := atoms_spec (ws := wsX8_wordOf) B.pre
  have hown : s.vm.findClass RX8 = some m.cls := findClass_of_methodNamed B.named
  have hlocks := B.notSynchronized
  subst hsz
  have hD := hD0.self (sz := s.heap.size)
  generalize hAe : va_A [(h_t, .inr (8, [.long t_trace, .ref h_t_text, .int t_typed, .ref h_t_said, .ref h_t_many, .long t_when, .long t_then, .ref h_t_grades, .ref h_t_doubts, .int t_at, .int t_token, .int t_start, .ref h_t_vals, .ref h_t_waits, .int t_valMany, .int t_waitMany, .int t_open, .long t_saying, .ref h_t_fresh, .ref h_t_freshMany, .int t_quarrel])), (h_t_text, .inl (G.2.1.2.1, 400, .inl t_text))] s.heap.size = A at hD hc ⊢
  have hA : ∀ q : Nat, s.heap.size ≤ q → A q := fun q h => by rw [← hAe]; exact Or.inr h
  have hiX8 : ∀ w ∈ wsX80, w ∈ wsX8_wordOf := by decide +kernel
  have hl := lv_entry ([.ref h_t, .int a1]) (n := 5) (Nat.le_of_ble_eq_true rfl)
  rw [lg_entry_eq]
  generalize (lg_sl ([.ref h_t, .int a1]) ++ List.replicate (5 - (lg_sl ([.ref h_t, .int a1])).length) Slot.unset).toArray = ls at hl ⊢
  have hl : lv_has ls 5 [(0, .ref h_t), (1, .int a1)] := hl
  have hf := ho
  have hw_71 : ∀ (v2 : Int64), jn_X8_wordOf_71 t_start t_text a1 v2 = some o → ∀ (H : Heap) (locs : List Loc), va_P G.1 vwCl [(h_t, .inr (8, [.long t_trace, .ref h_t_text, .int t_typed, .ref h_t_said, .ref h_t_many, .long t_when, .long t_then, .ref h_t_grades, .ref h_t_doubts, .int t_at, .int t_token, .int t_start, .ref h_t_vals, .ref h_t_waits, .int t_valMany, .int t_waitMany, .int t_open, .long t_saying, .ref h_t_fresh, .ref h_t_freshMany, .int t_quarrel])), (h_t_text, .inl (G.2.1.2.1, 400, .inl t_text))] H → va_D A [(h_t, .inr (8, [.long t_trace, .ref h_t_text, .int t_typed, .ref h_t_said, .ref h_t_many, .long t_when, .long t_then, .ref h_t_grades, .ref h_t_doubts, .int t_at, .int t_token, .int t_start, .ref h_t_vals, .ref h_t_waits, .int t_valMany, .int t_waitMany, .int t_open, .long t_saying, .ref h_t_fresh, .ref h_t_freshMany, .int t_quarrel])), (h_t_text, .inl (G.2.1.2.1, 400, .inl t_text))] → va_S A s.heap H locs → ∀ (ls : Array Slot), lv_has ls 5 [(2, .long v2)] → W p l e (headSpec wsX8_wordOf ({ frames := 0, cells := 0, slots := 0, locals := 0 } : Room)).room s m ([.ref h_t, .int a1] : List Value).toArray below meth c H locs 0 0 (MQ below (qcI Unit G o (fun _ => True) (fun _ => [(h_t, .inr (8, [.long t_trace, .ref h_t_text, .int t_typed, .ref h_t_said, .ref h_t_many, .long t_when, .long t_then, .ref h_t_grades, .ref h_t_doubts, .int t_at, .int t_token, .int t_start, .ref h_t_vals, .ref h_t_waits, .int t_valMany, .int t_waitMany, .int t_open, .long t_saying, .ref h_t_fresh, .ref h_t_freshMany, .int t_quarrel])), (h_t_text, .inl (G.2.1.2.1, 400, .inl t_text))]) A) ([.ref h_t, .int a1] : List Value).toArray s 0 0 A) (F0 m 71 ls []) := by
    intro v2 hf H locs hP hD hS ls hl
    unfold jn_X8_wordOf_71 at hf
    refine lv_lload_n hx hb dX8_wordOf_71 rfl (lv_at hl 0 rfl) ?_
    refine lv_ldc2 (v := (46892851 : Int64)) hx hb hown (hts (.constantLong RX8 76 (46892851 : Int64)) (by decide +kernel)) dX8_wordOf_72 ?_
    refine W.lcmp hx hb dX8_wordOf_75 ?_
    refine lv_if_ne (tgt := 83) hx hb dX8_wordOf_76 (by decide) (fun c1 => ?_) (fun c1 => ?_)
    · have c1 := fun z => c1 (lgc0.mpr z)
      have hf := it_f c1 hf
      refine lv_lload_n hx hb dX8_wordOf_83 rfl (lv_at hl 0 rfl) ?_
      refine lv_ldc2 (v := (294 : Int64)) hx hb hown (hts (.constantLong RX8 78 (294 : Int64)) (by decide +kernel)) dX8_wordOf_84 ?_
      refine W.lcmp hx hb dX8_wordOf_87 ?_
      refine lv_if_ne (tgt := 95) hx hb dX8_wordOf_88 (by decide) (fun c2 => ?_) (fun c2 => ?_)
      · have c2 := fun z => c2 (lgc0.mpr z)
        have hf := it_f c2 hf
        refine lv_lload_n hx hb dX8_wordOf_95 rfl (lv_at hl 0 rfl) ?_
        refine lv_ldc2 (v := (663726 : Int64)) hx hb hown (hts (.constantLong RX8 80 (663726 : Int64)) (by decide +kernel)) dX8_wordOf_96 ?_
        refine W.lcmp hx hb dX8_wordOf_99 ?_
        refine lv_if_ne (tgt := 107) hx hb dX8_wordOf_100 (by decide) (fun c3 => ?_) (fun c3 => ?_)
        · have c3 := fun z => c3 (lgc0.mpr z)
          have hf := it_f c3 hf
          refine lv_lload_n hx hb dX8_wordOf_107 rfl (lv_at hl 0 rfl) ?_
          refine lv_ldc2 (v := (197748 : Int64)) hx hb hown (hts (.constantLong RX8 82 (197748 : Int64)) (by decide +kernel)) dX8_wordOf_108 ?_
          refine W.lcmp hx hb dX8_wordOf_111 ?_
          refine lv_if_ne (tgt := 119) hx hb dX8_wordOf_112 (by decide) (fun c4 => ?_) (fun c4 => ?_)
          · have c4 := fun z => c4 (lgc0.mpr z)
            have hf := it_f c4 hf
            refine lv_lload_n hx hb dX8_wordOf_119 rfl (lv_at hl 0 rfl) ?_
            refine lv_ldc2 (v := (13369 : Int64)) hx hb hown (hts (.constantLong RX8 84 (13369 : Int64)) (by decide +kernel)) dX8_wordOf_120 ?_
            refine W.lcmp hx hb dX8_wordOf_123 ?_
            refine lv_if_ne (tgt := 132) hx hb dX8_wordOf_124 (by decide) (fun c5 => ?_) (fun c5 => ?_)
            · have c5 := fun z => c5 (lgc0.mpr z)
              have hf := it_f c5 hf
              refine lv_iconst (v := (1 : Int32)) hx hb dX8_wordOf_132 (by decide) ?_
              rw [← Option.some.inj hf]
              exact rt_i (u := ()) hx hb hr hlocks hP hD trivial hS dX8_wordOf_133
            · have c5 := lgc0.mp c5
              have hf := it_t c5 hf
              refine lv_bipush (v := (6 : Int32)) hx hb dX8_wordOf_127 (by decide) ?_
              refine lv_goto (tgt := 133) hx hb dX8_wordOf_129 (by decide) ?_
              rw [← Option.some.inj hf]
              exact rt_i (u := ()) hx hb hr hlocks hP hD trivial hS dX8_wordOf_133
          · have c4 := lgc0.mp c4
            have hf := it_t c4 hf
            refine lv_iconst (v := (5 : Int32)) hx hb dX8_wordOf_115 (by decide) ?_
            refine lv_goto (tgt := 133) hx hb dX8_wordOf_116 (by decide) ?_
            rw [← Option.some.inj hf]
            exact rt_i (u := ()) hx hb hr hlocks hP hD trivial hS dX8_wordOf_133
        · have c3 := lgc0.mp c3
          have hf := it_t c3 hf
          refine lv_iconst (v := (4 : Int32)) hx hb dX8_wordOf_103 (by decide) ?_
          refine lv_goto (tgt := 133) hx hb dX8_wordOf_104 (by decide) ?_
          rw [← Option.some.inj hf]
          exact rt_i (u := ()) hx hb hr hlocks hP hD trivial hS dX8_wordOf_133
      · have c2 := lgc0.mp c2
        have hf := it_t c2 hf
        refine lv_iconst (v := (3 : Int32)) hx hb dX8_wordOf_91 (by decide) ?_
        refine lv_goto (tgt := 133) hx hb dX8_wordOf_92 (by decide) ?_
        rw [← Option.some.inj hf]
        exact rt_i (u := ()) hx hb hr hlocks hP hD trivial hS dX8_wordOf_133
    · have c1 := lgc0.mp c1
      have hf := it_t c1 hf
      refine lv_iconst (v := (2 : Int32)) hx hb dX8_wordOf_79 (by decide) ?_
      refine lv_goto (tgt := 133) hx hb dX8_wordOf_80 (by decide) ?_
      rw [← Option.some.inj hf]
      exact rt_i (u := ()) hx hb hr hlocks hP hD trivial hS dX8_wordOf_133
  have hw_49 : ∀ (v2 : Int64), jn_X8_wordOf_49 t_start t_text a1 v2 = some o → ∀ (H : Heap) (locs : List Loc), va_P G.1 vwCl [(h_t, .inr (8, [.long t_trace, .ref h_t_text, .int t_typed, .ref h_t_said, .ref h_t_many, .long t_when, .long t_then, .ref h_t_grades, .ref h_t_doubts, .int t_at, .int t_token, .int t_start, .ref h_t_vals, .ref h_t_waits, .int t_valMany, .int t_waitMany, .int t_open, .long t_saying, .ref h_t_fresh, .ref h_t_freshMany, .int t_quarrel])), (h_t_text, .inl (G.2.1.2.1, 400, .inl t_text))] H → va_D A [(h_t, .inr (8, [.long t_trace, .ref h_t_text, .int t_typed, .ref h_t_said, .ref h_t_many, .long t_when, .long t_then, .ref h_t_grades, .ref h_t_doubts, .int t_at, .int t_token, .int t_start, .ref h_t_vals, .ref h_t_waits, .int t_valMany, .int t_waitMany, .int t_open, .long t_saying, .ref h_t_fresh, .ref h_t_freshMany, .int t_quarrel])), (h_t_text, .inl (G.2.1.2.1, 400, .inl t_text))] → va_S A s.heap H locs → ∀ (ls : Array Slot), lv_has ls 5 [(2, .long v2)] → W p l e (headSpec wsX8_wordOf ({ frames := 0, cells := 0, slots := 0, locals := 0 } : Room)).room s m ([.ref h_t, .int a1] : List Value).toArray below meth c H locs 0 0 (MQ below (qcI Unit G o (fun _ => True) (fun _ => [(h_t, .inr (8, [.long t_trace, .ref h_t_text, .int t_typed, .ref h_t_said, .ref h_t_many, .long t_when, .long t_then, .ref h_t_grades, .ref h_t_doubts, .int t_at, .int t_token, .int t_start, .ref h_t_vals, .ref h_t_waits, .int t_valMany, .int t_waitMany, .int t_open, .long t_saying, .ref h_t_fresh, .ref h_t_freshMany, .int t_quarrel])), (h_t_text, .inl (G.2.1.2.1, 400, .inl t_text))]) A) ([.ref h_t, .int a1] : List Value).toArray s 0 0 A) (F0 m 49 ls []) := by
    intro v2 hf H locs hP hD hS ls hl
    unfold jn_X8_wordOf_49 at hf
    refine lv_lload_n hx hb dX8_wordOf_49 rfl (lv_at hl 0 rfl) ?_
    refine lv_lconst (v := (1 : Int64)) hx hb dX8_wordOf_50 (by decide) ?_
    refine W.lcmp hx hb dX8_wordOf_51 ?_
    refine lv_if_lt (tgt := 71) hx hb dX8_wordOf_52 (by decide) (fun c6 => ?_) (fun c6 => ?_)
    · have c6 := lgcL.mp c6
      have hf := it_t c6 hf
      exact hw_71 v2 hf _ _ hP hD hS _ hl
    · have c6 := fun z => c6 (lgcL.mpr z)
      have hf := it_f c6 hf
      refine lv_lload_n hx hb dX8_wordOf_55 rfl (lv_at hl 0 rfl) ?_
      refine lv_ldc2 (v := (6 : Int64)) hx hb hown (hts (.constantLong RX8 74 (6 : Int64)) (by decide +kernel)) dX8_wordOf_56 ?_
      refine W.lcmp hx hb dX8_wordOf_59 ?_
      refine lv_if_gt (tgt := 71) hx hb dX8_wordOf_60 (by decide) (fun c7 => ?_) (fun c7 => ?_)
      · have c7 := lgcG.mp c7
        have hf := it_t c7 hf
        exact hw_71 v2 hf _ _ hP hD hS _ hl
      · have c7 := fun z => c7 (lgcG.mpr z)
        have hf := it_f c7 hf
        refine lv_bipush (v := (10 : Int32)) hx hb dX8_wordOf_63 (by decide) ?_
        refine lv_lload_n hx hb dX8_wordOf_65 rfl (lv_at hl 0 rfl) ?_
        refine lv_l2i (v := (v2).toInt32) hx hb dX8_wordOf_66 rfl ?_
        refine lv_iadd hx hb dX8_wordOf_67 ?_
        refine lv_iconst (v := (1 : Int32)) hx hb dX8_wordOf_68 (by decide) ?_
        refine lv_isub hx hb dX8_wordOf_69 ?_
        rw [← Option.some.inj hf]
        exact rt_i (u := ()) hx hb hr hlocks hP hD trivial hS dX8_wordOf_70
  have hw_5 : ∀  (n : Nat) (v2 : Int64) (v4 : Int32), lp_X8_wordOf_5 t_start t_text a1 n v2 v4 = some o → ∀ (H : Heap) (locs : List Loc), va_P G.1 vwCl [(h_t, .inr (8, [.long t_trace, .ref h_t_text, .int t_typed, .ref h_t_said, .ref h_t_many, .long t_when, .long t_then, .ref h_t_grades, .ref h_t_doubts, .int t_at, .int t_token, .int t_start, .ref h_t_vals, .ref h_t_waits, .int t_valMany, .int t_waitMany, .int t_open, .long t_saying, .ref h_t_fresh, .ref h_t_freshMany, .int t_quarrel])), (h_t_text, .inl (G.2.1.2.1, 400, .inl t_text))] H → va_D A [(h_t, .inr (8, [.long t_trace, .ref h_t_text, .int t_typed, .ref h_t_said, .ref h_t_many, .long t_when, .long t_then, .ref h_t_grades, .ref h_t_doubts, .int t_at, .int t_token, .int t_start, .ref h_t_vals, .ref h_t_waits, .int t_valMany, .int t_waitMany, .int t_open, .long t_saying, .ref h_t_fresh, .ref h_t_freshMany, .int t_quarrel])), (h_t_text, .inl (G.2.1.2.1, 400, .inl t_text))] → va_S A s.heap H locs → ∀ (ls : Array Slot), lv_has ls 5 [(0, .ref h_t), (1, .int a1), (2, .long v2), (4, .int v4)] → W p l e (headSpec wsX8_wordOf ({ frames := 0, cells := 0, slots := 0, locals := 0 } : Room)).room s m ([.ref h_t, .int a1] : List Value).toArray below meth c H locs 0 0 (MQ below (qcI Unit G o (fun _ => True) (fun _ => [(h_t, .inr (8, [.long t_trace, .ref h_t_text, .int t_typed, .ref h_t_said, .ref h_t_many, .long t_when, .long t_then, .ref h_t_grades, .ref h_t_doubts, .int t_at, .int t_token, .int t_start, .ref h_t_vals, .ref h_t_waits, .int t_valMany, .int t_waitMany, .int t_open, .long t_saying, .ref h_t_fresh, .ref h_t_freshMany, .int t_quarrel])), (h_t_text, .inl (G.2.1.2.1, 400, .inl t_text))]) A) ([.ref h_t, .int a1] : List Value).toArray s 0 0 A) (F0 m 5 ls []) := by
    intro n
    induction n with
    | zero =>
      intro v2 v4 hf
      exact absurd hf (by rw [lp_X8_wordOf_5]; intro h; cases h)
    | succ n ih =>
      intro v2 v4 hf H locs hP hD hS ls hl
      rw [lp_X8_wordOf_5] at hf
      refine lv_iload hx hb dX8_wordOf_5 (lv_at hl 3 rfl) ?_
      refine lv_iload_n hx hb dX8_wordOf_7 rfl (lv_at hl 1 rfl) ?_
      refine lv_icmp_ge (tgt := 49) hx hb dX8_wordOf_8 (by decide) (fun c8 => ?_) (fun c8 => ?_)
      · have hf := it_t c8 hf
        exact hw_49 v2 hf _ _ hP hD hS _ (lv_sub hl [2] rfl)
      · have hf := it_f c8 hf
        refine lv_iload_n hx hb dX8_wordOf_11 rfl (lv_at hl 1 rfl) ?_
        refine lv_bipush (v := (7 : Int32)) hx hb dX8_wordOf_12 (by decide) ?_
        refine lv_icmp_ge (tgt := 49) hx hb dX8_wordOf_14 (by decide) (fun c9 => ?_) (fun c9 => ?_)
        · have hf := it_t c9 hf
          exact hw_49 v2 hf _ _ hP hD hS _ (lv_sub hl [2] rfl)
        · have hf := it_f c9 hf
          refine lv_ldc2 (v := (32 : Int64)) hx hb hown (hts (.constantLong RX8 69 (32 : Int64)) (by decide +kernel)) dX8_wordOf_17 ?_
          refine lv_lload_n hx hb dX8_wordOf_20 rfl (lv_at hl 2 rfl) ?_
          refine lv_lmul hx hb dX8_wordOf_21 ?_
          refine lv_aload_n hx hb dX8_wordOf_22 rfl (lv_at hl 0 rfl) ?_
          refine va_get (D := G.1) (ci := 8) (v := .ref h_t_text) (C := RX8) (T := TX8) (N := 21) hx hb hts hiX8 hown hg.1 hP 0 rfl rfl 1 (by decide) (hts (.fieldLink RX8 7 "AsARuleModel" "text" "[I") (by decide +kernel)) (fun _ h9 => h9) rfl dX8_wordOf_23 ?_
          refine lv_aload_n hx hb dX8_wordOf_26 rfl (lv_at hl 0 rfl) ?_
          refine va_get (D := G.1) (ci := 8) (v := .int t_start) (C := RX8) (T := TX8) (N := 21) hx hb hts hiX8 hown hg.1 hP 0 rfl rfl 11 (by decide) (hts (.fieldLink RX8 71 "AsARuleModel" "start" "I") (by decide +kernel)) (fun _ h9 => h9) rfl dX8_wordOf_27 ?_
          refine lv_iload hx hb dX8_wordOf_30 (lv_at hl 3 rfl) ?_
          refine lv_iadd hx hb dX8_wordOf_32 ?_
          refine va_iald hx hb hg.1 hP 1 1 rfl rfl (ib_in (gd_t hf)) dX8_wordOf_33 ?_
          have hf := gd_x hf
          refine lv_i2l (v := ((t_text (t_start + v4).toNatClampNeg)).toInt64) hx hb dX8_wordOf_34 rfl ?_
          refine lv_ladd hx hb dX8_wordOf_35 ?_
          refine lv_ldc2 (v := (97 : Int64)) hx hb hown (hts (.constantLong RX8 65 (97 : Int64)) (by decide +kernel)) dX8_wordOf_36 ?_
          refine lv_lsub hx hb dX8_wordOf_39 ?_
          refine lv_lconst (v := (1 : Int64)) hx hb dX8_wordOf_40 (by decide) ?_
          refine lv_ladd hx hb dX8_wordOf_41 ?_
          refine lv_topl (fun x10 ex10 => ?_)
          have hf := lt_n hf x10 ex10
          refine lv_lstore_n (lv' := [(2, .long x10), (0, .ref h_t), (1, .int a1), (4, .int v4)]) hx hb dX8_wordOf_42 rfl hl (by decide) rfl (fun ls hl => ?_)
          obtain ⟨x11, ex11⟩ : ∃ y : Int32, y = (v4 + (1 : Int32)) := ⟨_, rfl⟩
          have hf := lt_n hf x11 ex11
          refine lv_iinc (v := x11) (lv' := [(4, .int x11), (2, .long x10), (0, .ref h_t), (1, .int a1)]) hx hb dX8_wordOf_43 hl (k := 3) rfl (by rw [ex11]; rfl) (by decide) rfl (fun ls hl => ?_)
          refine lv_goto (tgt := 5) hx hb dX8_wordOf_46 (by decide) ?_
          exact ih x10 x11 hf _ _ hP hD hS _ (lv_sub hl [2, 3, 1, 0] rfl)
  unfold f_X8_wordOf at hf
  refine en (fun H locs hP hD hS => ?_) hP hD
  refine lv_lconst (v := (0 : Int64)) hx hb dX8_wordOf_0 (by decide) ?_
  refine lv_lstore_n (lv' := [(2, .long (0 : Int64)), (0, .ref h_t), (1, .int a1)]) hx hb dX8_wordOf_1 rfl hl (by decide) rfl (fun ls hl => ?_)
  refine lv_iconst (v := (0 : Int32)) hx hb dX8_wordOf_2 (by decide) ?_
  refine lv_istore (lv' := [(4, .int (0 : Int32)), (2, .long (0 : Int64)), (0, .ref h_t), (1, .int a1)]) hx hb dX8_wordOf_3 hl (by decide) rfl (fun ls hl => ?_)
  exact hw_5 fu (0 : Int64) (0 : Int32) hf _ _ hP hD hS _ (lv_sub hl [2, 3, 1, 0] rfl)
-- method X8_scans
def jn_X8_scans_144 (t_typed : Int32) (t_text : Nat → Int32) (t_at : Int32) (t_token : Int32) (t_start : Int32) : Option (Int32 × Int32 × Int32) :=
  bd (f_X8_wordOf t_start t_text (t_at - t_start)) (fun o1 => some (t_at, o1, t_start))
def lp_X8_scans_105 (t_typed : Int32) (t_text : Nat → Int32) (t_token : Int32) (t_start : Int32) : Nat → Int32 → Option (Int32 × Int32 × Int32)
  | 0, _ => none
  | n + 1, t_at => if t_typed ≤ t_at then jn_X8_scans_144 t_typed t_text t_at t_token t_start else gd (ib t_at 400) (bd (f_X8_isLetter (t_text t_at.toNatClampNeg)) (fun o3 => if o3 = (0 : Int32) then jn_X8_scans_144 t_typed t_text t_at t_token t_start else lt (t_at + (1 : Int32)) (fun x5 => lp_X8_scans_105 t_typed t_text t_token t_start n x5)))
def jn_X8_scans_38 (t_typed : Int32) (t_text : Nat → Int32) (t_at : Int32) (t_token : Int32) (t_start : Int32) : Option (Int32 × Int32 × Int32) :=
  if t_at = t_typed then some (t_at, (0 : Int32), t_at) else gd (ib t_at 400) (bd (f_X8_isLetter (t_text t_at.toNatClampNeg)) (fun o7 => if o7 = (0 : Int32) then gd (ib t_at 400) (bd (f_X8_signOf (t_text t_at.toNatClampNeg)) (fun o9 => lt (t_at + (1 : Int32)) (fun x10 => some (x10, o9, t_at)))) else lp_X8_scans_105 t_typed t_text t_token t_at fu t_at))
def lp_X8_scans_0 (t_typed : Int32) (t_text : Nat → Int32) (t_token : Int32) (t_start : Int32) : Nat → Int32 → Option (Int32 × Int32 × Int32)
  | 0, _ => none
  | n + 1, t_at => if t_typed ≤ t_at then jn_X8_scans_38 t_typed t_text t_at t_token t_start else gd (ib t_at 400) (if (t_text t_at.toNatClampNeg) = (32 : Int32) then lt (t_at + (1 : Int32)) (fun x13 => lp_X8_scans_0 t_typed t_text t_token t_start n x13) else jn_X8_scans_38 t_typed t_text t_at t_token t_start)
def f_X8_scans (t_typed : Int32) (t_at : Int32) (t_token : Int32) (t_start : Int32) (t_text : Nat → Int32) : Option (Int32 × Int32 × Int32) :=
  lp_X8_scans_0 t_typed t_text t_token t_start fu t_at
set_option maxHeartbeats 4000000 in
set_option maxRecDepth 100000 in
theorem c_X8_scans (l : Launch) (G : GG) (h_t h_t_text h_t_said h_t_many h_t_grades h_t_doubts h_t_vals h_t_waits h_t_fresh h_t_freshMany : Nat) (sz : Nat) (t_trace : Int64) (t_typed : Int32) (t_when : Int64) (t_then : Int64) (t_at : Int32) (t_token : Int32) (t_start : Int32) (t_valMany : Int32) (t_waitMany : Int32) (t_open : Int32) (t_saying : Int64) (t_quarrel : Int32) (t_text : Nat → Int32)  (o : Int32 × Int32 × Int32) (ho : f_X8_scans t_typed t_at t_token t_start t_text = some o)  : Met l yX8_scans wsX8_scans ({ frames := 2, cells := 0, slots := 0, locals := 45 } : Room) (pcA G [.ref h_t] [(h_t, .inr (8, [.long t_trace, .ref h_t_text, .int t_typed, .ref h_t_said, .ref h_t_many, .long t_when, .long t_then, .ref h_t_grades, .ref h_t_doubts, .int t_at, .int t_token, .int t_start, .ref h_t_vals, .ref h_t_waits, .int t_valMany, .int t_waitMany, .int t_open, .long t_saying, .ref h_t_fresh, .ref h_t_freshMany, .int t_quarrel])), (h_t_text, .inl (G.2.1.2.1, 400, .inl t_text))] sz) (qcV Unit G (fun _ => True) (fun _ => [(h_t, .inr (8, [.long t_trace, .ref h_t_text, .int t_typed, .ref h_t_said, .ref h_t_many, .long t_when, .long t_then, .ref h_t_grades, .ref h_t_doubts, .int o.1, .int o.2.1, .int o.2.2, .ref h_t_vals, .ref h_t_waits, .int t_valMany, .int t_waitMany, .int t_open, .long t_saying, .ref h_t_fresh, .ref h_t_freshMany, .int t_quarrel])), (h_t_text, .inl (G.2.1.2.1, 400, .inl t_text))]) (va_A [(h_t, .inr (8, [.long t_trace, .ref h_t_text, .int t_typed, .ref h_t_said, .ref h_t_many, .long t_when, .long t_then, .ref h_t_grades, .ref h_t_doubts, .int t_at, .int t_token, .int t_start, .ref h_t_vals, .ref h_t_waits, .int t_valMany, .int t_waitMany, .int t_open, .long t_saying, .ref h_t_fresh, .ref h_t_freshMany, .int t_quarrel])), (h_t_text, .inl (G.2.1.2.1, 400, .inl t_text))] sz)) 0 0 (va_A [(h_t, .inr (8, [.long t_trace, .ref h_t_text, .int t_typed, .ref h_t_said, .ref h_t_many, .long t_when, .long t_then, .ref h_t_grades, .ref h_t_doubts, .int t_at, .int t_token, .int t_start, .ref h_t_vals, .ref h_t_waits, .int t_valMany, .int t_waitMany, .int t_open, .long t_saying, .ref h_t_fresh, .ref h_t_freshMany, .int t_quarrel])), (h_t_text, .inl (G.2.1.2.1, 400, .inl t_text))] sz) := by
  refine Met.ofW (cc := cX8_scans) (maxL := 1) (ret := none) (by decide) rfl ?_
  intro p e s m args below meth c s₁ B hml hv
  obtain ⟨rfl, hsz, hP, hg, hD0, hc⟩ := hv
  have hx := B.exec
  have hb := B.bytes
  have hr := B.returns
  have hts := atoms_spec (ws := wsX8_scans) B.pre
  have hown : s.vm.findClass RX8 = some m.cls := findClass_of_methodNamed B.named
  have hlocks := B.notSynchronized
  subst hsz
  have hD := hD0.self (sz := s.heap.size)
  generalize hAe : va_A [(h_t, .inr (8, [.long t_trace, .ref h_t_text, .int t_typed, .ref h_t_said, .ref h_t_many, .long t_when, .long t_then, .ref h_t_grades, .ref h_t_doubts, .int t_at, .int t_token, .int t_start, .ref h_t_vals, .ref h_t_waits, .int t_valMany, .int t_waitMany, .int t_open, .long t_saying, .ref h_t_fresh, .ref h_t_freshMany, .int t_quarrel])), (h_t_text, .inl (G.2.1.2.1, 400, .inl t_text))] s.heap.size = A at hD hc ⊢
  have hA : ∀ q : Nat, s.heap.size ≤ q → A q := fun q h => by rw [← hAe]; exact Or.inr h
  have hiX8 : ∀ w ∈ wsX80, w ∈ wsX8_scans := by decide +kernel
  have hl := lv_entry ([.ref h_t]) (n := 1) (Nat.le_of_ble_eq_true rfl)
  rw [lg_entry_eq]
  generalize (lg_sl ([.ref h_t]) ++ List.replicate (1 - (lg_sl ([.ref h_t])).length) Slot.unset).toArray = ls at hl ⊢
  have hl : lv_has ls 1 [(0, .ref h_t)] := hl
  have hf := ho
  have hw_144 : ∀ (t_at : Int32) (t_token : Int32) (t_start : Int32), jn_X8_scans_144 t_typed t_text t_at t_token t_start = some o → ∀ (H : Heap) (locs : List Loc), va_P G.1 vwCl [(h_t, .inr (8, [.long t_trace, .ref h_t_text, .int t_typed, .ref h_t_said, .ref h_t_many, .long t_when, .long t_then, .ref h_t_grades, .ref h_t_doubts, .int t_at, .int t_token, .int t_start, .ref h_t_vals, .ref h_t_waits, .int t_valMany, .int t_waitMany, .int t_open, .long t_saying, .ref h_t_fresh, .ref h_t_freshMany, .int t_quarrel])), (h_t_text, .inl (G.2.1.2.1, 400, .inl t_text))] H → va_D A [(h_t, .inr (8, [.long t_trace, .ref h_t_text, .int t_typed, .ref h_t_said, .ref h_t_many, .long t_when, .long t_then, .ref h_t_grades, .ref h_t_doubts, .int t_at, .int t_token, .int t_start, .ref h_t_vals, .ref h_t_waits, .int t_valMany, .int t_waitMany, .int t_open, .long t_saying, .ref h_t_fresh, .ref h_t_freshMany, .int t_quarrel])), (h_t_text, .inl (G.2.1.2.1, 400, .inl t_text))] → va_S A s.heap H locs → ∀ (ls : Array Slot), lv_has ls 1 [(0, .ref h_t)] → W p l e (headSpec wsX8_scans ({ frames := 2, cells := 0, slots := 0, locals := 45 } : Room)).room s m ([.ref h_t] : List Value).toArray below meth c H locs 0 0 (MQ below (qcV Unit G (fun _ => True) (fun _ => [(h_t, .inr (8, [.long t_trace, .ref h_t_text, .int t_typed, .ref h_t_said, .ref h_t_many, .long t_when, .long t_then, .ref h_t_grades, .ref h_t_doubts, .int o.1, .int o.2.1, .int o.2.2, .ref h_t_vals, .ref h_t_waits, .int t_valMany, .int t_waitMany, .int t_open, .long t_saying, .ref h_t_fresh, .ref h_t_freshMany, .int t_quarrel])), (h_t_text, .inl (G.2.1.2.1, 400, .inl t_text))]) A) ([.ref h_t] : List Value).toArray s 0 0 A) (F0 m 144 ls []) := by
    intro t_at t_token t_start hf H locs hP hD hS ls hl
    unfold jn_X8_scans_144 at hf
    refine lv_aload_n hx hb dX8_scans_144 rfl (lv_at hl 0 rfl) ?_
    refine lv_aload_n hx hb dX8_scans_145 rfl (lv_at hl 0 rfl) ?_
    refine lv_aload_n hx hb dX8_scans_146 rfl (lv_at hl 0 rfl) ?_
    refine va_get (D := G.1) (ci := 8) (v := .int t_at) (C := RX8) (T := TX8) (N := 21) hx hb hts hiX8 hown hg.1 hP 0 rfl rfl 9 (by decide) (hts (.fieldLink RX8 86 "AsARuleModel" "at" "I") (by decide +kernel)) (fun _ h9 => h9) rfl dX8_scans_147 ?_
    refine lv_aload_n hx hb dX8_scans_150 rfl (lv_at hl 0 rfl) ?_
    refine va_get (D := G.1) (ci := 8) (v := .int t_start) (C := RX8) (T := TX8) (N := 21) hx hb hts hiX8 hown hg.1 hP 0 rfl rfl 11 (by decide) (hts (.fieldLink RX8 71 "AsARuleModel" "start" "I") (by decide +kernel)) (fun _ h9 => h9) rfl dX8_scans_151 ?_
    refine lv_isub hx hb dX8_scans_154 ?_
    obtain ⟨o1, ho1, hf⟩ := bd_e hf
    refine af_i (wr := []) (va_runV (As := [.int (t_at - t_start)]) (rest := [.ref h_t]) ⟨hx, hb, hml, hown, hts⟩ (c_X8_wordOf l G h_t h_t_text h_t_said h_t_many h_t_grades h_t_doubts h_t_vals h_t_waits h_t_fresh h_t_freshMany H.size t_trace t_typed t_when t_then t_at t_token t_start t_valMany t_waitMany t_open t_saying t_quarrel t_text (t_at - t_start) o1 ho1) (cwV 1 hts gX8_scans_X8_wordOf rfl rfl rfl (by decide +kernel) ⟨Nat.le_of_ble_eq_true rfl, Nat.le_of_ble_eq_true rfl⟩) (pcA_preV hg hc hP hD hS hA [0, 1] rfl (by decide) (q0 := 0) (ci := 8) rfl rfl rfl) rfl rfl hl.1 rfl (lv_room (Nat.le_of_ble_eq_true rfl)) dX8_scans_155 ⟨Nat.zero_le _, Nat.zero_le _⟩) hP hD hS hA [0, 1] [] rfl rfl (by decide) (by decide) (fun _ H locs _ hP hD hS => ?_)
    have hP : va_P G.1 vwCl [(h_t, .inr (8, [.long t_trace, .ref h_t_text, .int t_typed, .ref h_t_said, .ref h_t_many, .long t_when, .long t_then, .ref h_t_grades, .ref h_t_doubts, .int t_at, .int t_token, .int t_start, .ref h_t_vals, .ref h_t_waits, .int t_valMany, .int t_waitMany, .int t_open, .long t_saying, .ref h_t_fresh, .ref h_t_freshMany, .int t_quarrel])), (h_t_text, .inl (G.2.1.2.1, 400, .inl t_text))] H := hP
    have hD : va_D A [(h_t, .inr (8, [.long t_trace, .ref h_t_text, .int t_typed, .ref h_t_said, .ref h_t_many, .long t_when, .long t_then, .ref h_t_grades, .ref h_t_doubts, .int t_at, .int t_token, .int t_start, .ref h_t_vals, .ref h_t_waits, .int t_valMany, .int t_waitMany, .int t_open, .long t_saying, .ref h_t_fresh, .ref h_t_freshMany, .int t_quarrel])), (h_t_text, .inl (G.2.1.2.1, 400, .inl t_text))] := hD
    refine va_put (D := G.1) (ci := 8) (v := .int o1) (ty := .int) (C := RX8) (T := TX8) (N := 21) hx hb hts hiX8 tyX8 tyX8_ok nmX8 hown hg.1 hP hD hS 0 rfl rfl 10 (by decide) (hts (.fieldLink RX8 89 "AsARuleModel" "token" "I") (by decide +kernel)) (fun _ h9 => h9) rfl (by decide +kernel) rfl rfl (Nat.le_of_ble_eq_true rfl) dX8_scans_158 (fun H locs hP hD hS => ?_)
    have hP : va_P G.1 vwCl [(h_t, .inr (8, [.long t_trace, .ref h_t_text, .int t_typed, .ref h_t_said, .ref h_t_many, .long t_when, .long t_then, .ref h_t_grades, .ref h_t_doubts, .int t_at, .int o1, .int t_start, .ref h_t_vals, .ref h_t_waits, .int t_valMany, .int t_waitMany, .int t_open, .long t_saying, .ref h_t_fresh, .ref h_t_freshMany, .int t_quarrel])), (h_t_text, .inl (G.2.1.2.1, 400, .inl t_text))] H := hP
    have hD : va_D A [(h_t, .inr (8, [.long t_trace, .ref h_t_text, .int t_typed, .ref h_t_said, .ref h_t_many, .long t_when, .long t_then, .ref h_t_grades, .ref h_t_doubts, .int t_at, .int o1, .int t_start, .ref h_t_vals, .ref h_t_waits, .int t_valMany, .int t_waitMany, .int t_open, .long t_saying, .ref h_t_fresh, .ref h_t_freshMany, .int t_quarrel])), (h_t_text, .inl (G.2.1.2.1, 400, .inl t_text))] := hD
    rw [← Option.some.inj hf]
    exact rt_v (u := ()) hx hb hr hlocks hP hD trivial hS dX8_scans_161
  have hw_105 : ∀ (t_token : Int32) (t_start : Int32) (n : Nat) (t_at : Int32), lp_X8_scans_105 t_typed t_text t_token t_start n t_at = some o → ∀ (H : Heap) (locs : List Loc), va_P G.1 vwCl [(h_t, .inr (8, [.long t_trace, .ref h_t_text, .int t_typed, .ref h_t_said, .ref h_t_many, .long t_when, .long t_then, .ref h_t_grades, .ref h_t_doubts, .int t_at, .int t_token, .int t_start, .ref h_t_vals, .ref h_t_waits, .int t_valMany, .int t_waitMany, .int t_open, .long t_saying, .ref h_t_fresh, .ref h_t_freshMany, .int t_quarrel])), (h_t_text, .inl (G.2.1.2.1, 400, .inl t_text))] H → va_D A [(h_t, .inr (8, [.long t_trace, .ref h_t_text, .int t_typed, .ref h_t_said, .ref h_t_many, .long t_when, .long t_then, .ref h_t_grades, .ref h_t_doubts, .int t_at, .int t_token, .int t_start, .ref h_t_vals, .ref h_t_waits, .int t_valMany, .int t_waitMany, .int t_open, .long t_saying, .ref h_t_fresh, .ref h_t_freshMany, .int t_quarrel])), (h_t_text, .inl (G.2.1.2.1, 400, .inl t_text))] → va_S A s.heap H locs → ∀ (ls : Array Slot), lv_has ls 1 [(0, .ref h_t)] → W p l e (headSpec wsX8_scans ({ frames := 2, cells := 0, slots := 0, locals := 45 } : Room)).room s m ([.ref h_t] : List Value).toArray below meth c H locs 0 0 (MQ below (qcV Unit G (fun _ => True) (fun _ => [(h_t, .inr (8, [.long t_trace, .ref h_t_text, .int t_typed, .ref h_t_said, .ref h_t_many, .long t_when, .long t_then, .ref h_t_grades, .ref h_t_doubts, .int o.1, .int o.2.1, .int o.2.2, .ref h_t_vals, .ref h_t_waits, .int t_valMany, .int t_waitMany, .int t_open, .long t_saying, .ref h_t_fresh, .ref h_t_freshMany, .int t_quarrel])), (h_t_text, .inl (G.2.1.2.1, 400, .inl t_text))]) A) ([.ref h_t] : List Value).toArray s 0 0 A) (F0 m 105 ls []) := by
    intro t_token t_start
    intro n
    induction n with
    | zero =>
      intro t_at hf
      exact absurd hf (by rw [lp_X8_scans_105]; intro h; cases h)
    | succ n ih =>
      intro t_at hf H locs hP hD hS ls hl
      rw [lp_X8_scans_105] at hf
      refine lv_aload_n hx hb dX8_scans_105 rfl (lv_at hl 0 rfl) ?_
      refine va_get (D := G.1) (ci := 8) (v := .int t_at) (C := RX8) (T := TX8) (N := 21) hx hb hts hiX8 hown hg.1 hP 0 rfl rfl 9 (by decide) (hts (.fieldLink RX8 86 "AsARuleModel" "at" "I") (by decide +kernel)) (fun _ h9 => h9) rfl dX8_scans_106 ?_
      refine lv_aload_n hx hb dX8_scans_109 rfl (lv_at hl 0 rfl) ?_
      refine va_get (D := G.1) (ci := 8) (v := .int t_typed) (C := RX8) (T := TX8) (N := 21) hx hb hts hiX8 hown hg.1 hP 0 rfl rfl 2 (by decide) (hts (.fieldLink RX8 59 "AsARuleModel" "typed" "I") (by decide +kernel)) (fun _ h9 => h9) rfl dX8_scans_110 ?_
      refine lv_icmp_ge (tgt := 144) hx hb dX8_scans_113 (by decide) (fun c2 => ?_) (fun c2 => ?_)
      · have hf := it_t c2 hf
        exact hw_144 t_at t_token t_start hf _ _ hP hD hS _ hl
      · have hf := it_f c2 hf
        refine lv_aload_n hx hb dX8_scans_116 rfl (lv_at hl 0 rfl) ?_
        refine va_get (D := G.1) (ci := 8) (v := .ref h_t_text) (C := RX8) (T := TX8) (N := 21) hx hb hts hiX8 hown hg.1 hP 0 rfl rfl 1 (by decide) (hts (.fieldLink RX8 7 "AsARuleModel" "text" "[I") (by decide +kernel)) (fun _ h9 => h9) rfl dX8_scans_117 ?_
        refine lv_aload_n hx hb dX8_scans_120 rfl (lv_at hl 0 rfl) ?_
        refine va_get (D := G.1) (ci := 8) (v := .int t_at) (C := RX8) (T := TX8) (N := 21) hx hb hts hiX8 hown hg.1 hP 0 rfl rfl 9 (by decide) (hts (.fieldLink RX8 86 "AsARuleModel" "at" "I") (by decide +kernel)) (fun _ h9 => h9) rfl dX8_scans_121 ?_
        refine va_iald hx hb hg.1 hP 1 1 rfl rfl (ib_in (gd_t hf)) dX8_scans_124 ?_
        have hf := gd_x hf
        obtain ⟨o3, ho3, hf⟩ := bd_e hf
        refine af0_i (va_runS (As := [.int (t_text t_at.toNatClampNeg)]) (rest := []) ⟨hx, hb, hml, hown, hts⟩ (c_X8_isLetter l G H.size (t_text t_at.toNatClampNeg) o3 ho3) (va_cwS 1 hts gX8_scans_X8_isLetter rfl rfl rfl (by decide +kernel) ⟨Nat.le_of_ble_eq_true rfl, Nat.le_of_ble_eq_true rfl⟩) (pcA_pre hg hc hP hD hS hA [] rfl rfl [.int (t_text t_at.toNatClampNeg)]) rfl rfl hl.1 rfl (lv_room (Nat.le_of_ble_eq_true rfl)) dX8_scans_125 ⟨Nat.zero_le _, Nat.zero_le _⟩) hP hD hS hA (fun H locs hP hD hS => ?_)
        refine lv_if_eq (tgt := 144) hx hb dX8_scans_128 (by decide) (fun c4 => ?_) (fun c4 => ?_)
        · have hf := it_t c4 hf
          exact hw_144 t_at t_token t_start hf _ _ hP hD hS _ hl
        · have hf := it_f c4 hf
          refine lv_aload_n hx hb dX8_scans_131 rfl (lv_at hl 0 rfl) ?_
          refine lv_dup hx hb dX8_scans_132 rfl ?_
          refine va_get (D := G.1) (ci := 8) (v := .int t_at) (C := RX8) (T := TX8) (N := 21) hx hb hts hiX8 hown hg.1 hP 0 rfl rfl 9 (by decide) (hts (.fieldLink RX8 86 "AsARuleModel" "at" "I") (by decide +kernel)) (fun _ h9 => h9) rfl dX8_scans_133 ?_
          refine lv_iconst (v := (1 : Int32)) hx hb dX8_scans_136 (by decide) ?_
          refine lv_iadd hx hb dX8_scans_137 ?_
          refine lv_topi (fun x5 ex5 => ?_)
          have hf := lt_n hf x5 ex5
          refine va_put (D := G.1) (ci := 8) (v := .int x5) (ty := .int) (C := RX8) (T := TX8) (N := 21) hx hb hts hiX8 tyX8 tyX8_ok nmX8 hown hg.1 hP hD hS 0 rfl rfl 9 (by decide) (hts (.fieldLink RX8 86 "AsARuleModel" "at" "I") (by decide +kernel)) (fun _ h9 => h9) rfl (by decide +kernel) rfl rfl (Nat.le_of_ble_eq_true rfl) dX8_scans_138 (fun H locs hP hD hS => ?_)
          have hP : va_P G.1 vwCl [(h_t, .inr (8, [.long t_trace, .ref h_t_text, .int t_typed, .ref h_t_said, .ref h_t_many, .long t_when, .long t_then, .ref h_t_grades, .ref h_t_doubts, .int x5, .int t_token, .int t_start, .ref h_t_vals, .ref h_t_waits, .int t_valMany, .int t_waitMany, .int t_open, .long t_saying, .ref h_t_fresh, .ref h_t_freshMany, .int t_quarrel])), (h_t_text, .inl (G.2.1.2.1, 400, .inl t_text))] H := hP
          have hD : va_D A [(h_t, .inr (8, [.long t_trace, .ref h_t_text, .int t_typed, .ref h_t_said, .ref h_t_many, .long t_when, .long t_then, .ref h_t_grades, .ref h_t_doubts, .int x5, .int t_token, .int t_start, .ref h_t_vals, .ref h_t_waits, .int t_valMany, .int t_waitMany, .int t_open, .long t_saying, .ref h_t_fresh, .ref h_t_freshMany, .int t_quarrel])), (h_t_text, .inl (G.2.1.2.1, 400, .inl t_text))] := hD
          refine lv_goto (tgt := 105) hx hb dX8_scans_141 (by decide) ?_
          exact ih x5 hf _ _ hP hD hS _ hl
  have hw_38 : ∀ (t_at : Int32) (t_token : Int32) (t_start : Int32), jn_X8_scans_38 t_typed t_text t_at t_token t_start = some o → ∀ (H : Heap) (locs : List Loc), va_P G.1 vwCl [(h_t, .inr (8, [.long t_trace, .ref h_t_text, .int t_typed, .ref h_t_said, .ref h_t_many, .long t_when, .long t_then, .ref h_t_grades, .ref h_t_doubts, .int t_at, .int t_token, .int t_start, .ref h_t_vals, .ref h_t_waits, .int t_valMany, .int t_waitMany, .int t_open, .long t_saying, .ref h_t_fresh, .ref h_t_freshMany, .int t_quarrel])), (h_t_text, .inl (G.2.1.2.1, 400, .inl t_text))] H → va_D A [(h_t, .inr (8, [.long t_trace, .ref h_t_text, .int t_typed, .ref h_t_said, .ref h_t_many, .long t_when, .long t_then, .ref h_t_grades, .ref h_t_doubts, .int t_at, .int t_token, .int t_start, .ref h_t_vals, .ref h_t_waits, .int t_valMany, .int t_waitMany, .int t_open, .long t_saying, .ref h_t_fresh, .ref h_t_freshMany, .int t_quarrel])), (h_t_text, .inl (G.2.1.2.1, 400, .inl t_text))] → va_S A s.heap H locs → ∀ (ls : Array Slot), lv_has ls 1 [(0, .ref h_t)] → W p l e (headSpec wsX8_scans ({ frames := 2, cells := 0, slots := 0, locals := 45 } : Room)).room s m ([.ref h_t] : List Value).toArray below meth c H locs 0 0 (MQ below (qcV Unit G (fun _ => True) (fun _ => [(h_t, .inr (8, [.long t_trace, .ref h_t_text, .int t_typed, .ref h_t_said, .ref h_t_many, .long t_when, .long t_then, .ref h_t_grades, .ref h_t_doubts, .int o.1, .int o.2.1, .int o.2.2, .ref h_t_vals, .ref h_t_waits, .int t_valMany, .int t_waitMany, .int t_open, .long t_saying, .ref h_t_fresh, .ref h_t_freshMany, .int t_quarrel])), (h_t_text, .inl (G.2.1.2.1, 400, .inl t_text))]) A) ([.ref h_t] : List Value).toArray s 0 0 A) (F0 m 38 ls []) := by
    intro t_at t_token t_start hf H locs hP hD hS ls hl
    unfold jn_X8_scans_38 at hf
    refine lv_aload_n hx hb dX8_scans_38 rfl (lv_at hl 0 rfl) ?_
    refine lv_aload_n hx hb dX8_scans_39 rfl (lv_at hl 0 rfl) ?_
    refine va_get (D := G.1) (ci := 8) (v := .int t_at) (C := RX8) (T := TX8) (N := 21) hx hb hts hiX8 hown hg.1 hP 0 rfl rfl 9 (by decide) (hts (.fieldLink RX8 86 "AsARuleModel" "at" "I") (by decide +kernel)) (fun _ h9 => h9) rfl dX8_scans_40 ?_
    refine va_put (D := G.1) (ci := 8) (v := .int t_at) (ty := .int) (C := RX8) (T := TX8) (N := 21) hx hb hts hiX8 tyX8 tyX8_ok nmX8 hown hg.1 hP hD hS 0 rfl rfl 11 (by decide) (hts (.fieldLink RX8 71 "AsARuleModel" "start" "I") (by decide +kernel)) (fun _ h9 => h9) rfl (by decide +kernel) rfl rfl (Nat.le_of_ble_eq_true rfl) dX8_scans_43 (fun H locs hP hD hS => ?_)
    have hP : va_P G.1 vwCl [(h_t, .inr (8, [.long t_trace, .ref h_t_text, .int t_typed, .ref h_t_said, .ref h_t_many, .long t_when, .long t_then, .ref h_t_grades, .ref h_t_doubts, .int t_at, .int t_token, .int t_at, .ref h_t_vals, .ref h_t_waits, .int t_valMany, .int t_waitMany, .int t_open, .long t_saying, .ref h_t_fresh, .ref h_t_freshMany, .int t_quarrel])), (h_t_text, .inl (G.2.1.2.1, 400, .inl t_text))] H := hP
    have hD : va_D A [(h_t, .inr (8, [.long t_trace, .ref h_t_text, .int t_typed, .ref h_t_said, .ref h_t_many, .long t_when, .long t_then, .ref h_t_grades, .ref h_t_doubts, .int t_at, .int t_token, .int t_at, .ref h_t_vals, .ref h_t_waits, .int t_valMany, .int t_waitMany, .int t_open, .long t_saying, .ref h_t_fresh, .ref h_t_freshMany, .int t_quarrel])), (h_t_text, .inl (G.2.1.2.1, 400, .inl t_text))] := hD
    refine lv_aload_n hx hb dX8_scans_46 rfl (lv_at hl 0 rfl) ?_
    refine va_get (D := G.1) (ci := 8) (v := .int t_at) (C := RX8) (T := TX8) (N := 21) hx hb hts hiX8 hown hg.1 hP 0 rfl rfl 9 (by decide) (hts (.fieldLink RX8 86 "AsARuleModel" "at" "I") (by decide +kernel)) (fun _ h9 => h9) rfl dX8_scans_47 ?_
    refine lv_aload_n hx hb dX8_scans_50 rfl (lv_at hl 0 rfl) ?_
    refine va_get (D := G.1) (ci := 8) (v := .int t_typed) (C := RX8) (T := TX8) (N := 21) hx hb hts hiX8 hown hg.1 hP 0 rfl rfl 2 (by decide) (hts (.fieldLink RX8 59 "AsARuleModel" "typed" "I") (by decide +kernel)) (fun _ h9 => h9) rfl dX8_scans_51 ?_
    refine lv_icmp_ne (tgt := 63) hx hb dX8_scans_54 (by decide) (fun c6 => ?_) (fun c6 => ?_)
    · have hf := it_f c6 hf
      refine lv_aload_n hx hb dX8_scans_63 rfl (lv_at hl 0 rfl) ?_
      refine va_get (D := G.1) (ci := 8) (v := .ref h_t_text) (C := RX8) (T := TX8) (N := 21) hx hb hts hiX8 hown hg.1 hP 0 rfl rfl 1 (by decide) (hts (.fieldLink RX8 7 "AsARuleModel" "text" "[I") (by decide +kernel)) (fun _ h9 => h9) rfl dX8_scans_64 ?_
      refine lv_aload_n hx hb dX8_scans_67 rfl (lv_at hl 0 rfl) ?_
      refine va_get (D := G.1) (ci := 8) (v := .int t_at) (C := RX8) (T := TX8) (N := 21) hx hb hts hiX8 hown hg.1 hP 0 rfl rfl 9 (by decide) (hts (.fieldLink RX8 86 "AsARuleModel" "at" "I") (by decide +kernel)) (fun _ h9 => h9) rfl dX8_scans_68 ?_
      refine va_iald hx hb hg.1 hP 1 1 rfl rfl (ib_in (gd_t hf)) dX8_scans_71 ?_
      have hf := gd_x hf
      obtain ⟨o7, ho7, hf⟩ := bd_e hf
      refine af0_i (va_runS (As := [.int (t_text t_at.toNatClampNeg)]) (rest := []) ⟨hx, hb, hml, hown, hts⟩ (c_X8_isLetter l G H.size (t_text t_at.toNatClampNeg) o7 ho7) (va_cwS 1 hts gX8_scans_X8_isLetter rfl rfl rfl (by decide +kernel) ⟨Nat.le_of_ble_eq_true rfl, Nat.le_of_ble_eq_true rfl⟩) (pcA_pre hg hc hP hD hS hA [] rfl rfl [.int (t_text t_at.toNatClampNeg)]) rfl rfl hl.1 rfl (lv_room (Nat.le_of_ble_eq_true rfl)) dX8_scans_72 ⟨Nat.zero_le _, Nat.zero_le _⟩) hP hD hS hA (fun H locs hP hD hS => ?_)
      refine lv_if_ne (tgt := 105) hx hb dX8_scans_75 (by decide) (fun c8 => ?_) (fun c8 => ?_)
      · have hf := it_f c8 hf
        exact hw_105 t_token t_at fu t_at hf _ _ hP hD hS _ hl
      · have hf := it_t c8 hf
        refine lv_aload_n hx hb dX8_scans_78 rfl (lv_at hl 0 rfl) ?_
        refine lv_aload_n hx hb dX8_scans_79 rfl (lv_at hl 0 rfl) ?_
        refine va_get (D := G.1) (ci := 8) (v := .ref h_t_text) (C := RX8) (T := TX8) (N := 21) hx hb hts hiX8 hown hg.1 hP 0 rfl rfl 1 (by decide) (hts (.fieldLink RX8 7 "AsARuleModel" "text" "[I") (by decide +kernel)) (fun _ h9 => h9) rfl dX8_scans_80 ?_
        refine lv_aload_n hx hb dX8_scans_83 rfl (lv_at hl 0 rfl) ?_
        refine va_get (D := G.1) (ci := 8) (v := .int t_at) (C := RX8) (T := TX8) (N := 21) hx hb hts hiX8 hown hg.1 hP 0 rfl rfl 9 (by decide) (hts (.fieldLink RX8 86 "AsARuleModel" "at" "I") (by decide +kernel)) (fun _ h9 => h9) rfl dX8_scans_84 ?_
        refine va_iald hx hb hg.1 hP 1 1 rfl rfl (ib_in (gd_t hf)) dX8_scans_87 ?_
        have hf := gd_x hf
        obtain ⟨o9, ho9, hf⟩ := bd_e hf
        refine af0_i (va_runS (As := [.int (t_text t_at.toNatClampNeg)]) (rest := [.ref h_t]) ⟨hx, hb, hml, hown, hts⟩ (c_X8_signOf l G H.size (t_text t_at.toNatClampNeg) o9 ho9) (va_cwS 1 hts gX8_scans_X8_signOf rfl rfl rfl (by decide +kernel) ⟨Nat.le_of_ble_eq_true rfl, Nat.le_of_ble_eq_true rfl⟩) (pcA_pre hg hc hP hD hS hA [] rfl rfl [.int (t_text t_at.toNatClampNeg)]) rfl rfl hl.1 rfl (lv_room (Nat.le_of_ble_eq_true rfl)) dX8_scans_88 ⟨Nat.zero_le _, Nat.zero_le _⟩) hP hD hS hA (fun H locs hP hD hS => ?_)
        refine va_put (D := G.1) (ci := 8) (v := .int o9) (ty := .int) (C := RX8) (T := TX8) (N := 21) hx hb hts hiX8 tyX8 tyX8_ok nmX8 hown hg.1 hP hD hS 0 rfl rfl 10 (by decide) (hts (.fieldLink RX8 89 "AsARuleModel" "token" "I") (by decide +kernel)) (fun _ h9 => h9) rfl (by decide +kernel) rfl rfl (Nat.le_of_ble_eq_true rfl) dX8_scans_91 (fun H locs hP hD hS => ?_)
        have hP : va_P G.1 vwCl [(h_t, .inr (8, [.long t_trace, .ref h_t_text, .int t_typed, .ref h_t_said, .ref h_t_many, .long t_when, .long t_then, .ref h_t_grades, .ref h_t_doubts, .int t_at, .int o9, .int t_at, .ref h_t_vals, .ref h_t_waits, .int t_valMany, .int t_waitMany, .int t_open, .long t_saying, .ref h_t_fresh, .ref h_t_freshMany, .int t_quarrel])), (h_t_text, .inl (G.2.1.2.1, 400, .inl t_text))] H := hP
        have hD : va_D A [(h_t, .inr (8, [.long t_trace, .ref h_t_text, .int t_typed, .ref h_t_said, .ref h_t_many, .long t_when, .long t_then, .ref h_t_grades, .ref h_t_doubts, .int t_at, .int o9, .int t_at, .ref h_t_vals, .ref h_t_waits, .int t_valMany, .int t_waitMany, .int t_open, .long t_saying, .ref h_t_fresh, .ref h_t_freshMany, .int t_quarrel])), (h_t_text, .inl (G.2.1.2.1, 400, .inl t_text))] := hD
        refine lv_aload_n hx hb dX8_scans_94 rfl (lv_at hl 0 rfl) ?_
        refine lv_dup hx hb dX8_scans_95 rfl ?_
        refine va_get (D := G.1) (ci := 8) (v := .int t_at) (C := RX8) (T := TX8) (N := 21) hx hb hts hiX8 hown hg.1 hP 0 rfl rfl 9 (by decide) (hts (.fieldLink RX8 86 "AsARuleModel" "at" "I") (by decide +kernel)) (fun _ h9 => h9) rfl dX8_scans_96 ?_
        refine lv_iconst (v := (1 : Int32)) hx hb dX8_scans_99 (by decide) ?_
        refine lv_iadd hx hb dX8_scans_100 ?_
        refine lv_topi (fun x10 ex10 => ?_)
        have hf := lt_n hf x10 ex10
        refine va_put (D := G.1) (ci := 8) (v := .int x10) (ty := .int) (C := RX8) (T := TX8) (N := 21) hx hb hts hiX8 tyX8 tyX8_ok nmX8 hown hg.1 hP hD hS 0 rfl rfl 9 (by decide) (hts (.fieldLink RX8 86 "AsARuleModel" "at" "I") (by decide +kernel)) (fun _ h9 => h9) rfl (by decide +kernel) rfl rfl (Nat.le_of_ble_eq_true rfl) dX8_scans_101 (fun H locs hP hD hS => ?_)
        have hP : va_P G.1 vwCl [(h_t, .inr (8, [.long t_trace, .ref h_t_text, .int t_typed, .ref h_t_said, .ref h_t_many, .long t_when, .long t_then, .ref h_t_grades, .ref h_t_doubts, .int x10, .int o9, .int t_at, .ref h_t_vals, .ref h_t_waits, .int t_valMany, .int t_waitMany, .int t_open, .long t_saying, .ref h_t_fresh, .ref h_t_freshMany, .int t_quarrel])), (h_t_text, .inl (G.2.1.2.1, 400, .inl t_text))] H := hP
        have hD : va_D A [(h_t, .inr (8, [.long t_trace, .ref h_t_text, .int t_typed, .ref h_t_said, .ref h_t_many, .long t_when, .long t_then, .ref h_t_grades, .ref h_t_doubts, .int x10, .int o9, .int t_at, .ref h_t_vals, .ref h_t_waits, .int t_valMany, .int t_waitMany, .int t_open, .long t_saying, .ref h_t_fresh, .ref h_t_freshMany, .int t_quarrel])), (h_t_text, .inl (G.2.1.2.1, 400, .inl t_text))] := hD
        rw [← Option.some.inj hf]
        exact rt_v (u := ()) hx hb hr hlocks hP hD trivial hS dX8_scans_104
    · have hf := it_t c6 hf
      refine lv_aload_n hx hb dX8_scans_57 rfl (lv_at hl 0 rfl) ?_
      refine lv_iconst (v := (0 : Int32)) hx hb dX8_scans_58 (by decide) ?_
      refine va_put (D := G.1) (ci := 8) (v := .int (0 : Int32)) (ty := .int) (C := RX8) (T := TX8) (N := 21) hx hb hts hiX8 tyX8 tyX8_ok nmX8 hown hg.1 hP hD hS 0 rfl rfl 10 (by decide) (hts (.fieldLink RX8 89 "AsARuleModel" "token" "I") (by decide +kernel)) (fun _ h9 => h9) rfl (by decide +kernel) rfl rfl (Nat.le_of_ble_eq_true rfl) dX8_scans_59 (fun H locs hP hD hS => ?_)
      have hP : va_P G.1 vwCl [(h_t, .inr (8, [.long t_trace, .ref h_t_text, .int t_typed, .ref h_t_said, .ref h_t_many, .long t_when, .long t_then, .ref h_t_grades, .ref h_t_doubts, .int t_at, .int (0 : Int32), .int t_at, .ref h_t_vals, .ref h_t_waits, .int t_valMany, .int t_waitMany, .int t_open, .long t_saying, .ref h_t_fresh, .ref h_t_freshMany, .int t_quarrel])), (h_t_text, .inl (G.2.1.2.1, 400, .inl t_text))] H := hP
      have hD : va_D A [(h_t, .inr (8, [.long t_trace, .ref h_t_text, .int t_typed, .ref h_t_said, .ref h_t_many, .long t_when, .long t_then, .ref h_t_grades, .ref h_t_doubts, .int t_at, .int (0 : Int32), .int t_at, .ref h_t_vals, .ref h_t_waits, .int t_valMany, .int t_waitMany, .int t_open, .long t_saying, .ref h_t_fresh, .ref h_t_freshMany, .int t_quarrel])), (h_t_text, .inl (G.2.1.2.1, 400, .inl t_text))] := hD
      rw [← Option.some.inj hf]
      exact rt_v (u := ()) hx hb hr hlocks hP hD trivial hS dX8_scans_62
  have hw_0 : ∀ (t_token : Int32) (t_start : Int32) (n : Nat) (t_at : Int32), lp_X8_scans_0 t_typed t_text t_token t_start n t_at = some o → ∀ (H : Heap) (locs : List Loc), va_P G.1 vwCl [(h_t, .inr (8, [.long t_trace, .ref h_t_text, .int t_typed, .ref h_t_said, .ref h_t_many, .long t_when, .long t_then, .ref h_t_grades, .ref h_t_doubts, .int t_at, .int t_token, .int t_start, .ref h_t_vals, .ref h_t_waits, .int t_valMany, .int t_waitMany, .int t_open, .long t_saying, .ref h_t_fresh, .ref h_t_freshMany, .int t_quarrel])), (h_t_text, .inl (G.2.1.2.1, 400, .inl t_text))] H → va_D A [(h_t, .inr (8, [.long t_trace, .ref h_t_text, .int t_typed, .ref h_t_said, .ref h_t_many, .long t_when, .long t_then, .ref h_t_grades, .ref h_t_doubts, .int t_at, .int t_token, .int t_start, .ref h_t_vals, .ref h_t_waits, .int t_valMany, .int t_waitMany, .int t_open, .long t_saying, .ref h_t_fresh, .ref h_t_freshMany, .int t_quarrel])), (h_t_text, .inl (G.2.1.2.1, 400, .inl t_text))] → va_S A s.heap H locs → ∀ (ls : Array Slot), lv_has ls 1 [(0, .ref h_t)] → W p l e (headSpec wsX8_scans ({ frames := 2, cells := 0, slots := 0, locals := 45 } : Room)).room s m ([.ref h_t] : List Value).toArray below meth c H locs 0 0 (MQ below (qcV Unit G (fun _ => True) (fun _ => [(h_t, .inr (8, [.long t_trace, .ref h_t_text, .int t_typed, .ref h_t_said, .ref h_t_many, .long t_when, .long t_then, .ref h_t_grades, .ref h_t_doubts, .int o.1, .int o.2.1, .int o.2.2, .ref h_t_vals, .ref h_t_waits, .int t_valMany, .int t_waitMany, .int t_open, .long t_saying, .ref h_t_fresh, .ref h_t_freshMany, .int t_quarrel])), (h_t_text, .inl (G.2.1.2.1, 400, .inl t_text))]) A) ([.ref h_t] : List Value).toArray s 0 0 A) (F0 m 0 ls []) := by
    intro t_token t_start
    intro n
    induction n with
    | zero =>
      intro t_at hf
      exact absurd hf (by rw [lp_X8_scans_0]; intro h; cases h)
    | succ n ih =>
      intro t_at hf H locs hP hD hS ls hl
      rw [lp_X8_scans_0] at hf
      refine lv_aload_n hx hb dX8_scans_0 rfl (lv_at hl 0 rfl) ?_
      refine va_get (D := G.1) (ci := 8) (v := .int t_at) (C := RX8) (T := TX8) (N := 21) hx hb hts hiX8 hown hg.1 hP 0 rfl rfl 9 (by decide) (hts (.fieldLink RX8 86 "AsARuleModel" "at" "I") (by decide +kernel)) (fun _ h9 => h9) rfl dX8_scans_1 ?_
      refine lv_aload_n hx hb dX8_scans_4 rfl (lv_at hl 0 rfl) ?_
      refine va_get (D := G.1) (ci := 8) (v := .int t_typed) (C := RX8) (T := TX8) (N := 21) hx hb hts hiX8 hown hg.1 hP 0 rfl rfl 2 (by decide) (hts (.fieldLink RX8 59 "AsARuleModel" "typed" "I") (by decide +kernel)) (fun _ h9 => h9) rfl dX8_scans_5 ?_
      refine lv_icmp_ge (tgt := 38) hx hb dX8_scans_8 (by decide) (fun c11 => ?_) (fun c11 => ?_)
      · have hf := it_t c11 hf
        exact hw_38 t_at t_token t_start hf _ _ hP hD hS _ hl
      · have hf := it_f c11 hf
        refine lv_aload_n hx hb dX8_scans_11 rfl (lv_at hl 0 rfl) ?_
        refine va_get (D := G.1) (ci := 8) (v := .ref h_t_text) (C := RX8) (T := TX8) (N := 21) hx hb hts hiX8 hown hg.1 hP 0 rfl rfl 1 (by decide) (hts (.fieldLink RX8 7 "AsARuleModel" "text" "[I") (by decide +kernel)) (fun _ h9 => h9) rfl dX8_scans_12 ?_
        refine lv_aload_n hx hb dX8_scans_15 rfl (lv_at hl 0 rfl) ?_
        refine va_get (D := G.1) (ci := 8) (v := .int t_at) (C := RX8) (T := TX8) (N := 21) hx hb hts hiX8 hown hg.1 hP 0 rfl rfl 9 (by decide) (hts (.fieldLink RX8 86 "AsARuleModel" "at" "I") (by decide +kernel)) (fun _ h9 => h9) rfl dX8_scans_16 ?_
        refine va_iald hx hb hg.1 hP 1 1 rfl rfl (ib_in (gd_t hf)) dX8_scans_19 ?_
        have hf := gd_x hf
        refine lv_bipush (v := (32 : Int32)) hx hb dX8_scans_20 (by decide) ?_
        refine lv_icmp_ne (tgt := 38) hx hb dX8_scans_22 (by decide) (fun c12 => ?_) (fun c12 => ?_)
        · have hf := it_f c12 hf
          exact hw_38 t_at t_token t_start hf _ _ hP hD hS _ hl
        · have hf := it_t c12 hf
          refine lv_aload_n hx hb dX8_scans_25 rfl (lv_at hl 0 rfl) ?_
          refine lv_dup hx hb dX8_scans_26 rfl ?_
          refine va_get (D := G.1) (ci := 8) (v := .int t_at) (C := RX8) (T := TX8) (N := 21) hx hb hts hiX8 hown hg.1 hP 0 rfl rfl 9 (by decide) (hts (.fieldLink RX8 86 "AsARuleModel" "at" "I") (by decide +kernel)) (fun _ h9 => h9) rfl dX8_scans_27 ?_
          refine lv_iconst (v := (1 : Int32)) hx hb dX8_scans_30 (by decide) ?_
          refine lv_iadd hx hb dX8_scans_31 ?_
          refine lv_topi (fun x13 ex13 => ?_)
          have hf := lt_n hf x13 ex13
          refine va_put (D := G.1) (ci := 8) (v := .int x13) (ty := .int) (C := RX8) (T := TX8) (N := 21) hx hb hts hiX8 tyX8 tyX8_ok nmX8 hown hg.1 hP hD hS 0 rfl rfl 9 (by decide) (hts (.fieldLink RX8 86 "AsARuleModel" "at" "I") (by decide +kernel)) (fun _ h9 => h9) rfl (by decide +kernel) rfl rfl (Nat.le_of_ble_eq_true rfl) dX8_scans_32 (fun H locs hP hD hS => ?_)
          have hP : va_P G.1 vwCl [(h_t, .inr (8, [.long t_trace, .ref h_t_text, .int t_typed, .ref h_t_said, .ref h_t_many, .long t_when, .long t_then, .ref h_t_grades, .ref h_t_doubts, .int x13, .int t_token, .int t_start, .ref h_t_vals, .ref h_t_waits, .int t_valMany, .int t_waitMany, .int t_open, .long t_saying, .ref h_t_fresh, .ref h_t_freshMany, .int t_quarrel])), (h_t_text, .inl (G.2.1.2.1, 400, .inl t_text))] H := hP
          have hD : va_D A [(h_t, .inr (8, [.long t_trace, .ref h_t_text, .int t_typed, .ref h_t_said, .ref h_t_many, .long t_when, .long t_then, .ref h_t_grades, .ref h_t_doubts, .int x13, .int t_token, .int t_start, .ref h_t_vals, .ref h_t_waits, .int t_valMany, .int t_waitMany, .int t_open, .long t_saying, .ref h_t_fresh, .ref h_t_freshMany, .int t_quarrel])), (h_t_text, .inl (G.2.1.2.1, 400, .inl t_text))] := hD
          refine lv_goto (tgt := 0) hx hb dX8_scans_35 (by decide) ?_
          exact ih x13 hf _ _ hP hD hS _ hl
  unfold f_X8_scans at hf
  refine en (fun H locs hP hD hS => ?_) hP hD
  exact hw_0 t_token t_start fu t_at hf _ _ hP hD hS _ hl
-- method X8_works
def lp_X8_works_0 (t_waits : Nat → Int32) (a1 : Int32) : Nat → Int32 → Int32 → (Nat → Int64) → Option (Int32 × Int32 × (Nat → Int64))
  | 0, _, _, _ => none
  | n + 1, t_valMany, t_waitMany, t_vals => if t_waitMany ≤ (0 : Int32) then some (t_valMany, t_waitMany, t_vals) else gd (ib (t_waitMany - (1 : Int32)) 410) (if (t_waits (t_waitMany - (1 : Int32)).toNatClampNeg) < a1 then some (t_valMany, t_waitMany, t_vals) else gd (ib (t_waitMany - (1 : Int32)) 410) (if (22 : Int32) ≤ (t_waits (t_waitMany - (1 : Int32)).toNatClampNeg) then some (t_valMany, t_waitMany, t_vals) else gd (ib (t_valMany - (2 : Int32)) 410) (lt (t_vals (t_valMany - (2 : Int32)).toNatClampNeg) (fun x4 => gd (ib (t_valMany - (1 : Int32)) 410) (lt (t_vals (t_valMany - (1 : Int32)).toNatClampNeg) (fun x5 => lt (t_valMany - (1 : Int32)) (fun x6 => gd (ib (t_waitMany - (1 : Int32)) 410) (if (t_waits (t_waitMany - (1 : Int32)).toNatClampNeg) = (20 : Int32) then gd (ib (x6 - (1 : Int32)) 410) (lt (t_waitMany - (1 : Int32)) (fun x9 => lp_X8_works_0 t_waits a1 n x6 x9 (vp_updL t_vals (x6 - (1 : Int32)).toNatClampNeg (x4 ||| x5)))) else gd (ib (x6 - (1 : Int32)) 410) (lt (t_waitMany - (1 : Int32)) (fun x8 => lp_X8_works_0 t_waits a1 n x6 x8 (vp_updL t_vals (x6 - (1 : Int32)).toNatClampNeg (x4 &&& x5))))))))))))
def f_X8_works (t_valMany : Int32) (t_waitMany : Int32) (t_vals : Nat → Int64) (t_waits : Nat → Int32) (a1 : Int32) : Option (Int32 × Int32 × (Nat → Int64)) :=
  lp_X8_works_0 t_waits a1 fu t_valMany t_waitMany t_vals
set_option maxHeartbeats 4000000 in
set_option maxRecDepth 100000 in
theorem c_X8_works (l : Launch) (G : GG) (h_t h_t_text h_t_said h_t_many h_t_grades h_t_doubts h_t_vals h_t_waits h_t_fresh h_t_freshMany : Nat) (sz : Nat) (t_trace : Int64) (t_typed : Int32) (t_when : Int64) (t_then : Int64) (t_at : Int32) (t_token : Int32) (t_start : Int32) (t_valMany : Int32) (t_waitMany : Int32) (t_open : Int32) (t_saying : Int64) (t_quarrel : Int32) (t_vals : Nat → Int64) (t_waits : Nat → Int32) (a1 : Int32) (o : Int32 × Int32 × (Nat → Int64)) (ho : f_X8_works t_valMany t_waitMany t_vals t_waits a1 = some o)  : Met l yX8_works wsX8_works ({ frames := 0, cells := 0, slots := 0, locals := 0 } : Room) (pcA G [.ref h_t, .int a1] [(h_t, .inr (8, [.long t_trace, .ref h_t_text, .int t_typed, .ref h_t_said, .ref h_t_many, .long t_when, .long t_then, .ref h_t_grades, .ref h_t_doubts, .int t_at, .int t_token, .int t_start, .ref h_t_vals, .ref h_t_waits, .int t_valMany, .int t_waitMany, .int t_open, .long t_saying, .ref h_t_fresh, .ref h_t_freshMany, .int t_quarrel])), (h_t_vals, .inl (G.2.1.2.2, 410, .inr (.inl t_vals))), (h_t_waits, .inl (G.2.1.2.1, 410, .inl t_waits))] sz) (qcV Unit G (fun _ => True) (fun _ => [(h_t, .inr (8, [.long t_trace, .ref h_t_text, .int t_typed, .ref h_t_said, .ref h_t_many, .long t_when, .long t_then, .ref h_t_grades, .ref h_t_doubts, .int t_at, .int t_token, .int t_start, .ref h_t_vals, .ref h_t_waits, .int o.1, .int o.2.1, .int t_open, .long t_saying, .ref h_t_fresh, .ref h_t_freshMany, .int t_quarrel])), (h_t_vals, .inl (G.2.1.2.2, 410, .inr (.inl o.2.2))), (h_t_waits, .inl (G.2.1.2.1, 410, .inl t_waits))]) (va_A [(h_t, .inr (8, [.long t_trace, .ref h_t_text, .int t_typed, .ref h_t_said, .ref h_t_many, .long t_when, .long t_then, .ref h_t_grades, .ref h_t_doubts, .int t_at, .int t_token, .int t_start, .ref h_t_vals, .ref h_t_waits, .int t_valMany, .int t_waitMany, .int t_open, .long t_saying, .ref h_t_fresh, .ref h_t_freshMany, .int t_quarrel])), (h_t_vals, .inl (G.2.1.2.2, 410, .inr (.inl t_vals))), (h_t_waits, .inl (G.2.1.2.1, 410, .inl t_waits))] sz)) 0 0 (va_A [(h_t, .inr (8, [.long t_trace, .ref h_t_text, .int t_typed, .ref h_t_said, .ref h_t_many, .long t_when, .long t_then, .ref h_t_grades, .ref h_t_doubts, .int t_at, .int t_token, .int t_start, .ref h_t_vals, .ref h_t_waits, .int t_valMany, .int t_waitMany, .int t_open, .long t_saying, .ref h_t_fresh, .ref h_t_freshMany, .int t_quarrel])), (h_t_vals, .inl (G.2.1.2.2, 410, .inr (.inl t_vals))), (h_t_waits, .inl (G.2.1.2.1, 410, .inl t_waits))] sz) := by
  refine Met.ofW (cc := cX8_works) (maxL := 6) (ret := none) (by decide) rfl ?_
  intro p e s m args below meth c s₁ B hml hv
  obtain ⟨rfl, hsz, hP, hg, hD0, hc⟩ := hv
  have hx := B.exec
  have hb := B.bytes
  have hr := B.returns
  have hts := atoms_spec (ws := wsX8_works) B.pre
  have hown : s.vm.findClass RX8 = some m.cls := findClass_of_methodNamed B.named
  have hlocks := B.notSynchronized
  subst hsz
  have hD := hD0.self (sz := s.heap.size)
  generalize hAe : va_A [(h_t, .inr (8, [.long t_trace, .ref h_t_text, .int t_typed, .ref h_t_said, .ref h_t_many, .long t_when, .long t_then, .ref h_t_grades, .ref h_t_doubts, .int t_at, .int t_token, .int t_start, .ref h_t_vals, .ref h_t_waits, .int t_valMany, .int t_waitMany, .int t_open, .long t_saying, .ref h_t_fresh, .ref h_t_freshMany, .int t_quarrel])), (h_t_vals, .inl (G.2.1.2.2, 410, .inr (.inl t_vals))), (h_t_waits, .inl (G.2.1.2.1, 410, .inl t_waits))] s.heap.size = A at hD hc ⊢
  have hA : ∀ q : Nat, s.heap.size ≤ q → A q := fun q h => by rw [← hAe]; exact Or.inr h
  have hiX8 : ∀ w ∈ wsX80, w ∈ wsX8_works := by decide +kernel
  have hl := lv_entry ([.ref h_t, .int a1]) (n := 6) (Nat.le_of_ble_eq_true rfl)
  rw [lg_entry_eq]
  generalize (lg_sl ([.ref h_t, .int a1]) ++ List.replicate (6 - (lg_sl ([.ref h_t, .int a1])).length) Slot.unset).toArray = ls at hl ⊢
  have hl : lv_has ls 6 [(0, .ref h_t), (1, .int a1)] := hl
  have hf := ho
  have hw_0 : ∀  (n : Nat) (t_valMany : Int32) (t_waitMany : Int32) (t_vals : Nat → Int64), lp_X8_works_0 t_waits a1 n t_valMany t_waitMany t_vals = some o → ∀ (H : Heap) (locs : List Loc), va_P G.1 vwCl [(h_t, .inr (8, [.long t_trace, .ref h_t_text, .int t_typed, .ref h_t_said, .ref h_t_many, .long t_when, .long t_then, .ref h_t_grades, .ref h_t_doubts, .int t_at, .int t_token, .int t_start, .ref h_t_vals, .ref h_t_waits, .int t_valMany, .int t_waitMany, .int t_open, .long t_saying, .ref h_t_fresh, .ref h_t_freshMany, .int t_quarrel])), (h_t_vals, .inl (G.2.1.2.2, 410, .inr (.inl t_vals))), (h_t_waits, .inl (G.2.1.2.1, 410, .inl t_waits))] H → va_D A [(h_t, .inr (8, [.long t_trace, .ref h_t_text, .int t_typed, .ref h_t_said, .ref h_t_many, .long t_when, .long t_then, .ref h_t_grades, .ref h_t_doubts, .int t_at, .int t_token, .int t_start, .ref h_t_vals, .ref h_t_waits, .int t_valMany, .int t_waitMany, .int t_open, .long t_saying, .ref h_t_fresh, .ref h_t_freshMany, .int t_quarrel])), (h_t_vals, .inl (G.2.1.2.2, 410, .inr (.inl t_vals))), (h_t_waits, .inl (G.2.1.2.1, 410, .inl t_waits))] → va_S A s.heap H locs → ∀ (ls : Array Slot), lv_has ls 6 [(0, .ref h_t), (1, .int a1)] → W p l e (headSpec wsX8_works ({ frames := 0, cells := 0, slots := 0, locals := 0 } : Room)).room s m ([.ref h_t, .int a1] : List Value).toArray below meth c H locs 0 0 (MQ below (qcV Unit G (fun _ => True) (fun _ => [(h_t, .inr (8, [.long t_trace, .ref h_t_text, .int t_typed, .ref h_t_said, .ref h_t_many, .long t_when, .long t_then, .ref h_t_grades, .ref h_t_doubts, .int t_at, .int t_token, .int t_start, .ref h_t_vals, .ref h_t_waits, .int o.1, .int o.2.1, .int t_open, .long t_saying, .ref h_t_fresh, .ref h_t_freshMany, .int t_quarrel])), (h_t_vals, .inl (G.2.1.2.2, 410, .inr (.inl o.2.2))), (h_t_waits, .inl (G.2.1.2.1, 410, .inl t_waits))]) A) ([.ref h_t, .int a1] : List Value).toArray s 0 0 A) (F0 m 0 ls []) := by
    intro n
    induction n with
    | zero =>
      intro t_valMany t_waitMany t_vals hf
      exact absurd hf (by rw [lp_X8_works_0]; intro h; cases h)
    | succ n ih =>
      intro t_valMany t_waitMany t_vals hf H locs hP hD hS ls hl
      rw [lp_X8_works_0] at hf
      refine lv_aload_n hx hb dX8_works_0 rfl (lv_at hl 0 rfl) ?_
      refine va_get (D := G.1) (ci := 8) (v := .int t_waitMany) (C := RX8) (T := TX8) (N := 21) hx hb hts hiX8 hown hg.1 hP 0 rfl rfl 15 (by decide) (hts (.fieldLink RX8 103 "AsARuleModel" "waitMany" "I") (by decide +kernel)) (fun _ h9 => h9) rfl dX8_works_1 ?_
      refine lv_if_le (tgt := 124) hx hb dX8_works_4 (by decide) (fun c1 => ?_) (fun c1 => ?_)
      · have hf := it_t c1 hf
        rw [← Option.some.inj hf]
        exact rt_v (u := ()) hx hb hr hlocks hP hD trivial hS dX8_works_124
      · have hf := it_f c1 hf
        refine lv_aload_n hx hb dX8_works_7 rfl (lv_at hl 0 rfl) ?_
        refine va_get (D := G.1) (ci := 8) (v := .ref h_t_waits) (C := RX8) (T := TX8) (N := 21) hx hb hts hiX8 hown hg.1 hP 0 rfl rfl 13 (by decide) (hts (.fieldLink RX8 29 "AsARuleModel" "waits" "[I") (by decide +kernel)) (fun _ h9 => h9) rfl dX8_works_8 ?_
        refine lv_aload_n hx hb dX8_works_11 rfl (lv_at hl 0 rfl) ?_
        refine va_get (D := G.1) (ci := 8) (v := .int t_waitMany) (C := RX8) (T := TX8) (N := 21) hx hb hts hiX8 hown hg.1 hP 0 rfl rfl 15 (by decide) (hts (.fieldLink RX8 103 "AsARuleModel" "waitMany" "I") (by decide +kernel)) (fun _ h9 => h9) rfl dX8_works_12 ?_
        refine lv_iconst (v := (1 : Int32)) hx hb dX8_works_15 (by decide) ?_
        refine lv_isub hx hb dX8_works_16 ?_
        refine va_iald hx hb hg.1 hP 2 1 rfl rfl (ib_in (gd_t hf)) dX8_works_17 ?_
        have hf := gd_x hf
        refine lv_iload_n hx hb dX8_works_18 rfl (lv_at hl 1 rfl) ?_
        refine lv_icmp_lt (tgt := 124) hx hb dX8_works_19 (by decide) (fun c2 => ?_) (fun c2 => ?_)
        · have hf := it_t c2 hf
          rw [← Option.some.inj hf]
          exact rt_v (u := ()) hx hb hr hlocks hP hD trivial hS dX8_works_124
        · have hf := it_f c2 hf
          refine lv_aload_n hx hb dX8_works_22 rfl (lv_at hl 0 rfl) ?_
          refine va_get (D := G.1) (ci := 8) (v := .ref h_t_waits) (C := RX8) (T := TX8) (N := 21) hx hb hts hiX8 hown hg.1 hP 0 rfl rfl 13 (by decide) (hts (.fieldLink RX8 29 "AsARuleModel" "waits" "[I") (by decide +kernel)) (fun _ h9 => h9) rfl dX8_works_23 ?_
          refine lv_aload_n hx hb dX8_works_26 rfl (lv_at hl 0 rfl) ?_
          refine va_get (D := G.1) (ci := 8) (v := .int t_waitMany) (C := RX8) (T := TX8) (N := 21) hx hb hts hiX8 hown hg.1 hP 0 rfl rfl 15 (by decide) (hts (.fieldLink RX8 103 "AsARuleModel" "waitMany" "I") (by decide +kernel)) (fun _ h9 => h9) rfl dX8_works_27 ?_
          refine lv_iconst (v := (1 : Int32)) hx hb dX8_works_30 (by decide) ?_
          refine lv_isub hx hb dX8_works_31 ?_
          refine va_iald hx hb hg.1 hP 2 1 rfl rfl (ib_in (gd_t hf)) dX8_works_32 ?_
          have hf := gd_x hf
          refine lv_bipush (v := (22 : Int32)) hx hb dX8_works_33 (by decide) ?_
          refine lv_icmp_ge (tgt := 124) hx hb dX8_works_35 (by decide) (fun c3 => ?_) (fun c3 => ?_)
          · have hf := it_t c3 hf
            rw [← Option.some.inj hf]
            exact rt_v (u := ()) hx hb hr hlocks hP hD trivial hS dX8_works_124
          · have hf := it_f c3 hf
            refine lv_aload_n hx hb dX8_works_38 rfl (lv_at hl 0 rfl) ?_
            refine va_get (D := G.1) (ci := 8) (v := .ref h_t_vals) (C := RX8) (T := TX8) (N := 21) hx hb hts hiX8 hown hg.1 hP 0 rfl rfl 12 (by decide) (hts (.fieldLink RX8 26 "AsARuleModel" "vals" "[J") (by decide +kernel)) (fun _ h9 => h9) rfl dX8_works_39 ?_
            refine lv_aload_n hx hb dX8_works_42 rfl (lv_at hl 0 rfl) ?_
            refine va_get (D := G.1) (ci := 8) (v := .int t_valMany) (C := RX8) (T := TX8) (N := 21) hx hb hts hiX8 hown hg.1 hP 0 rfl rfl 14 (by decide) (hts (.fieldLink RX8 106 "AsARuleModel" "valMany" "I") (by decide +kernel)) (fun _ h9 => h9) rfl dX8_works_43 ?_
            refine lv_iconst (v := (2 : Int32)) hx hb dX8_works_46 (by decide) ?_
            refine lv_isub hx hb dX8_works_47 ?_
            refine va_lald hx hb hg.1 hP 1 2 rfl rfl (ib_in (gd_t hf)) dX8_works_48 ?_
            have hf := gd_x hf
            refine lv_topl (fun x4 ex4 => ?_)
            have hf := lt_n hf x4 ex4
            refine lv_lstore_n (lv' := [(2, .long x4), (0, .ref h_t), (1, .int a1)]) hx hb dX8_works_49 rfl hl (by decide) rfl (fun ls hl => ?_)
            refine lv_aload_n hx hb dX8_works_50 rfl (lv_at hl 1 rfl) ?_
            refine va_get (D := G.1) (ci := 8) (v := .ref h_t_vals) (C := RX8) (T := TX8) (N := 21) hx hb hts hiX8 hown hg.1 hP 0 rfl rfl 12 (by decide) (hts (.fieldLink RX8 26 "AsARuleModel" "vals" "[J") (by decide +kernel)) (fun _ h9 => h9) rfl dX8_works_51 ?_
            refine lv_aload_n hx hb dX8_works_54 rfl (lv_at hl 1 rfl) ?_
            refine va_get (D := G.1) (ci := 8) (v := .int t_valMany) (C := RX8) (T := TX8) (N := 21) hx hb hts hiX8 hown hg.1 hP 0 rfl rfl 14 (by decide) (hts (.fieldLink RX8 106 "AsARuleModel" "valMany" "I") (by decide +kernel)) (fun _ h9 => h9) rfl dX8_works_55 ?_
            refine lv_iconst (v := (1 : Int32)) hx hb dX8_works_58 (by decide) ?_
            refine lv_isub hx hb dX8_works_59 ?_
            refine va_lald hx hb hg.1 hP 1 2 rfl rfl (ib_in (gd_t hf)) dX8_works_60 ?_
            have hf := gd_x hf
            refine lv_topl (fun x5 ex5 => ?_)
            have hf := lt_n hf x5 ex5
            refine lv_lstore (lv' := [(4, .long x5), (2, .long x4), (0, .ref h_t), (1, .int a1)]) hx hb dX8_works_61 hl (by decide) rfl (fun ls hl => ?_)
            refine lv_aload_n hx hb dX8_works_63 rfl (lv_at hl 2 rfl) ?_
            refine lv_dup hx hb dX8_works_64 rfl ?_
            refine va_get (D := G.1) (ci := 8) (v := .int t_valMany) (C := RX8) (T := TX8) (N := 21) hx hb hts hiX8 hown hg.1 hP 0 rfl rfl 14 (by decide) (hts (.fieldLink RX8 106 "AsARuleModel" "valMany" "I") (by decide +kernel)) (fun _ h9 => h9) rfl dX8_works_65 ?_
            refine lv_iconst (v := (1 : Int32)) hx hb dX8_works_68 (by decide) ?_
            refine lv_isub hx hb dX8_works_69 ?_
            refine lv_topi (fun x6 ex6 => ?_)
            have hf := lt_n hf x6 ex6
            refine va_put (D := G.1) (ci := 8) (v := .int x6) (ty := .int) (C := RX8) (T := TX8) (N := 21) hx hb hts hiX8 tyX8 tyX8_ok nmX8 hown hg.1 hP hD hS 0 rfl rfl 14 (by decide) (hts (.fieldLink RX8 106 "AsARuleModel" "valMany" "I") (by decide +kernel)) (fun _ h9 => h9) rfl (by decide +kernel) rfl rfl (Nat.le_of_ble_eq_true rfl) dX8_works_70 (fun H locs hP hD hS => ?_)
            have hP : va_P G.1 vwCl [(h_t, .inr (8, [.long t_trace, .ref h_t_text, .int t_typed, .ref h_t_said, .ref h_t_many, .long t_when, .long t_then, .ref h_t_grades, .ref h_t_doubts, .int t_at, .int t_token, .int t_start, .ref h_t_vals, .ref h_t_waits, .int x6, .int t_waitMany, .int t_open, .long t_saying, .ref h_t_fresh, .ref h_t_freshMany, .int t_quarrel])), (h_t_vals, .inl (G.2.1.2.2, 410, .inr (.inl t_vals))), (h_t_waits, .inl (G.2.1.2.1, 410, .inl t_waits))] H := hP
            have hD : va_D A [(h_t, .inr (8, [.long t_trace, .ref h_t_text, .int t_typed, .ref h_t_said, .ref h_t_many, .long t_when, .long t_then, .ref h_t_grades, .ref h_t_doubts, .int t_at, .int t_token, .int t_start, .ref h_t_vals, .ref h_t_waits, .int x6, .int t_waitMany, .int t_open, .long t_saying, .ref h_t_fresh, .ref h_t_freshMany, .int t_quarrel])), (h_t_vals, .inl (G.2.1.2.2, 410, .inr (.inl t_vals))), (h_t_waits, .inl (G.2.1.2.1, 410, .inl t_waits))] := hD
            refine lv_aload_n hx hb dX8_works_73 rfl (lv_at hl 2 rfl) ?_
            refine va_get (D := G.1) (ci := 8) (v := .ref h_t_vals) (C := RX8) (T := TX8) (N := 21) hx hb hts hiX8 hown hg.1 hP 0 rfl rfl 12 (by decide) (hts (.fieldLink RX8 26 "AsARuleModel" "vals" "[J") (by decide +kernel)) (fun _ h9 => h9) rfl dX8_works_74 ?_
            refine lv_aload_n hx hb dX8_works_77 rfl (lv_at hl 2 rfl) ?_
            refine va_get (D := G.1) (ci := 8) (v := .int x6) (C := RX8) (T := TX8) (N := 21) hx hb hts hiX8 hown hg.1 hP 0 rfl rfl 14 (by decide) (hts (.fieldLink RX8 106 "AsARuleModel" "valMany" "I") (by decide +kernel)) (fun _ h9 => h9) rfl dX8_works_78 ?_
            refine lv_iconst (v := (1 : Int32)) hx hb dX8_works_81 (by decide) ?_
            refine lv_isub hx hb dX8_works_82 ?_
            refine lv_aload_n hx hb dX8_works_83 rfl (lv_at hl 2 rfl) ?_
            refine va_get (D := G.1) (ci := 8) (v := .ref h_t_waits) (C := RX8) (T := TX8) (N := 21) hx hb hts hiX8 hown hg.1 hP 0 rfl rfl 13 (by decide) (hts (.fieldLink RX8 29 "AsARuleModel" "waits" "[I") (by decide +kernel)) (fun _ h9 => h9) rfl dX8_works_84 ?_
            refine lv_aload_n hx hb dX8_works_87 rfl (lv_at hl 2 rfl) ?_
            refine va_get (D := G.1) (ci := 8) (v := .int t_waitMany) (C := RX8) (T := TX8) (N := 21) hx hb hts hiX8 hown hg.1 hP 0 rfl rfl 15 (by decide) (hts (.fieldLink RX8 103 "AsARuleModel" "waitMany" "I") (by decide +kernel)) (fun _ h9 => h9) rfl dX8_works_88 ?_
            refine lv_iconst (v := (1 : Int32)) hx hb dX8_works_91 (by decide) ?_
            refine lv_isub hx hb dX8_works_92 ?_
            refine va_iald hx hb hg.1 hP 2 1 rfl rfl (ib_in (gd_t hf)) dX8_works_93 ?_
            have hf := gd_x hf
            refine lv_bipush (v := (20 : Int32)) hx hb dX8_works_94 (by decide) ?_
            refine lv_icmp_ne (tgt := 106) hx hb dX8_works_96 (by decide) (fun c7 => ?_) (fun c7 => ?_)
            · have hf := it_f c7 hf
              refine lv_lload_n hx hb dX8_works_106 rfl (lv_at hl 1 rfl) ?_
              refine lv_lload hx hb dX8_works_107 (lv_at hl 0 rfl) ?_
              refine lv_land hx hb dX8_works_109 ?_
              refine va_last hx hb hg.1 hP hD hS 1 2 rfl rfl (ib_in (gd_t hf)) dX8_works_110 (fun H locs hP hD hS => ?_)
              have hf := gd_x hf
              have hP : va_P G.1 vwCl [(h_t, .inr (8, [.long t_trace, .ref h_t_text, .int t_typed, .ref h_t_said, .ref h_t_many, .long t_when, .long t_then, .ref h_t_grades, .ref h_t_doubts, .int t_at, .int t_token, .int t_start, .ref h_t_vals, .ref h_t_waits, .int x6, .int t_waitMany, .int t_open, .long t_saying, .ref h_t_fresh, .ref h_t_freshMany, .int t_quarrel])), (h_t_vals, .inl (G.2.1.2.2, 410, .inr (.inl (vp_updL t_vals (x6 - (1 : Int32)).toNatClampNeg (x4 &&& x5))))), (h_t_waits, .inl (G.2.1.2.1, 410, .inl t_waits))] H := hP
              have hD : va_D A [(h_t, .inr (8, [.long t_trace, .ref h_t_text, .int t_typed, .ref h_t_said, .ref h_t_many, .long t_when, .long t_then, .ref h_t_grades, .ref h_t_doubts, .int t_at, .int t_token, .int t_start, .ref h_t_vals, .ref h_t_waits, .int x6, .int t_waitMany, .int t_open, .long t_saying, .ref h_t_fresh, .ref h_t_freshMany, .int t_quarrel])), (h_t_vals, .inl (G.2.1.2.2, 410, .inr (.inl (vp_updL t_vals (x6 - (1 : Int32)).toNatClampNeg (x4 &&& x5))))), (h_t_waits, .inl (G.2.1.2.1, 410, .inl t_waits))] := hD
              refine lv_aload_n hx hb dX8_works_111 rfl (lv_at hl 2 rfl) ?_
              refine lv_dup hx hb dX8_works_112 rfl ?_
              refine va_get (D := G.1) (ci := 8) (v := .int t_waitMany) (C := RX8) (T := TX8) (N := 21) hx hb hts hiX8 hown hg.1 hP 0 rfl rfl 15 (by decide) (hts (.fieldLink RX8 103 "AsARuleModel" "waitMany" "I") (by decide +kernel)) (fun _ h9 => h9) rfl dX8_works_113 ?_
              refine lv_iconst (v := (1 : Int32)) hx hb dX8_works_116 (by decide) ?_
              refine lv_isub hx hb dX8_works_117 ?_
              refine lv_topi (fun x8 ex8 => ?_)
              have hf := lt_n hf x8 ex8
              refine va_put (D := G.1) (ci := 8) (v := .int x8) (ty := .int) (C := RX8) (T := TX8) (N := 21) hx hb hts hiX8 tyX8 tyX8_ok nmX8 hown hg.1 hP hD hS 0 rfl rfl 15 (by decide) (hts (.fieldLink RX8 103 "AsARuleModel" "waitMany" "I") (by decide +kernel)) (fun _ h9 => h9) rfl (by decide +kernel) rfl rfl (Nat.le_of_ble_eq_true rfl) dX8_works_118 (fun H locs hP hD hS => ?_)
              have hP : va_P G.1 vwCl [(h_t, .inr (8, [.long t_trace, .ref h_t_text, .int t_typed, .ref h_t_said, .ref h_t_many, .long t_when, .long t_then, .ref h_t_grades, .ref h_t_doubts, .int t_at, .int t_token, .int t_start, .ref h_t_vals, .ref h_t_waits, .int x6, .int x8, .int t_open, .long t_saying, .ref h_t_fresh, .ref h_t_freshMany, .int t_quarrel])), (h_t_vals, .inl (G.2.1.2.2, 410, .inr (.inl (vp_updL t_vals (x6 - (1 : Int32)).toNatClampNeg (x4 &&& x5))))), (h_t_waits, .inl (G.2.1.2.1, 410, .inl t_waits))] H := hP
              have hD : va_D A [(h_t, .inr (8, [.long t_trace, .ref h_t_text, .int t_typed, .ref h_t_said, .ref h_t_many, .long t_when, .long t_then, .ref h_t_grades, .ref h_t_doubts, .int t_at, .int t_token, .int t_start, .ref h_t_vals, .ref h_t_waits, .int x6, .int x8, .int t_open, .long t_saying, .ref h_t_fresh, .ref h_t_freshMany, .int t_quarrel])), (h_t_vals, .inl (G.2.1.2.2, 410, .inr (.inl (vp_updL t_vals (x6 - (1 : Int32)).toNatClampNeg (x4 &&& x5))))), (h_t_waits, .inl (G.2.1.2.1, 410, .inl t_waits))] := hD
              refine lv_goto (tgt := 0) hx hb dX8_works_121 (by decide) ?_
              exact ih x6 x8 (vp_updL t_vals (x6 - (1 : Int32)).toNatClampNeg (x4 &&& x5)) hf _ _ hP hD hS _ (lv_sub hl [2, 3] rfl)
            · have hf := it_t c7 hf
              refine lv_lload_n hx hb dX8_works_99 rfl (lv_at hl 1 rfl) ?_
              refine lv_lload hx hb dX8_works_100 (lv_at hl 0 rfl) ?_
              refine lv_lor hx hb dX8_works_102 ?_
              refine lv_goto (tgt := 110) hx hb dX8_works_103 (by decide) ?_
              refine va_last hx hb hg.1 hP hD hS 1 2 rfl rfl (ib_in (gd_t hf)) dX8_works_110 (fun H locs hP hD hS => ?_)
              have hf := gd_x hf
              have hP : va_P G.1 vwCl [(h_t, .inr (8, [.long t_trace, .ref h_t_text, .int t_typed, .ref h_t_said, .ref h_t_many, .long t_when, .long t_then, .ref h_t_grades, .ref h_t_doubts, .int t_at, .int t_token, .int t_start, .ref h_t_vals, .ref h_t_waits, .int x6, .int t_waitMany, .int t_open, .long t_saying, .ref h_t_fresh, .ref h_t_freshMany, .int t_quarrel])), (h_t_vals, .inl (G.2.1.2.2, 410, .inr (.inl (vp_updL t_vals (x6 - (1 : Int32)).toNatClampNeg (x4 ||| x5))))), (h_t_waits, .inl (G.2.1.2.1, 410, .inl t_waits))] H := hP
              have hD : va_D A [(h_t, .inr (8, [.long t_trace, .ref h_t_text, .int t_typed, .ref h_t_said, .ref h_t_many, .long t_when, .long t_then, .ref h_t_grades, .ref h_t_doubts, .int t_at, .int t_token, .int t_start, .ref h_t_vals, .ref h_t_waits, .int x6, .int t_waitMany, .int t_open, .long t_saying, .ref h_t_fresh, .ref h_t_freshMany, .int t_quarrel])), (h_t_vals, .inl (G.2.1.2.2, 410, .inr (.inl (vp_updL t_vals (x6 - (1 : Int32)).toNatClampNeg (x4 ||| x5))))), (h_t_waits, .inl (G.2.1.2.1, 410, .inl t_waits))] := hD
              refine lv_aload_n hx hb dX8_works_111 rfl (lv_at hl 2 rfl) ?_
              refine lv_dup hx hb dX8_works_112 rfl ?_
              refine va_get (D := G.1) (ci := 8) (v := .int t_waitMany) (C := RX8) (T := TX8) (N := 21) hx hb hts hiX8 hown hg.1 hP 0 rfl rfl 15 (by decide) (hts (.fieldLink RX8 103 "AsARuleModel" "waitMany" "I") (by decide +kernel)) (fun _ h9 => h9) rfl dX8_works_113 ?_
              refine lv_iconst (v := (1 : Int32)) hx hb dX8_works_116 (by decide) ?_
              refine lv_isub hx hb dX8_works_117 ?_
              refine lv_topi (fun x9 ex9 => ?_)
              have hf := lt_n hf x9 ex9
              refine va_put (D := G.1) (ci := 8) (v := .int x9) (ty := .int) (C := RX8) (T := TX8) (N := 21) hx hb hts hiX8 tyX8 tyX8_ok nmX8 hown hg.1 hP hD hS 0 rfl rfl 15 (by decide) (hts (.fieldLink RX8 103 "AsARuleModel" "waitMany" "I") (by decide +kernel)) (fun _ h9 => h9) rfl (by decide +kernel) rfl rfl (Nat.le_of_ble_eq_true rfl) dX8_works_118 (fun H locs hP hD hS => ?_)
              have hP : va_P G.1 vwCl [(h_t, .inr (8, [.long t_trace, .ref h_t_text, .int t_typed, .ref h_t_said, .ref h_t_many, .long t_when, .long t_then, .ref h_t_grades, .ref h_t_doubts, .int t_at, .int t_token, .int t_start, .ref h_t_vals, .ref h_t_waits, .int x6, .int x9, .int t_open, .long t_saying, .ref h_t_fresh, .ref h_t_freshMany, .int t_quarrel])), (h_t_vals, .inl (G.2.1.2.2, 410, .inr (.inl (vp_updL t_vals (x6 - (1 : Int32)).toNatClampNeg (x4 ||| x5))))), (h_t_waits, .inl (G.2.1.2.1, 410, .inl t_waits))] H := hP
              have hD : va_D A [(h_t, .inr (8, [.long t_trace, .ref h_t_text, .int t_typed, .ref h_t_said, .ref h_t_many, .long t_when, .long t_then, .ref h_t_grades, .ref h_t_doubts, .int t_at, .int t_token, .int t_start, .ref h_t_vals, .ref h_t_waits, .int x6, .int x9, .int t_open, .long t_saying, .ref h_t_fresh, .ref h_t_freshMany, .int t_quarrel])), (h_t_vals, .inl (G.2.1.2.2, 410, .inr (.inl (vp_updL t_vals (x6 - (1 : Int32)).toNatClampNeg (x4 ||| x5))))), (h_t_waits, .inl (G.2.1.2.1, 410, .inl t_waits))] := hD
              refine lv_goto (tgt := 0) hx hb dX8_works_121 (by decide) ?_
              exact ih x6 x9 (vp_updL t_vals (x6 - (1 : Int32)).toNatClampNeg (x4 ||| x5)) hf _ _ hP hD hS _ (lv_sub hl [2, 3] rfl)
  unfold f_X8_works at hf
  refine en (fun H locs hP hD hS => ?_) hP hD
  exact hw_0 fu t_valMany t_waitMany t_vals hf _ _ hP hD hS _ hl
-- method X8_turns
def lp_X8_turns_0 (t_valMany : Int32) (t_waits : Nat → Int32) : Nat → Int32 → Int32 → (Nat → Int64) → Option (Int32 × Int32 × (Nat → Int64))
  | 0, _, _, _ => none
  | n + 1, t_waitMany, t_open, t_vals => if t_waitMany ≤ (0 : Int32) then some (t_waitMany, t_open, t_vals) else gd (ib (t_waitMany - (1 : Int32)) 410) (if (t_waits (t_waitMany - (1 : Int32)).toNatClampNeg) = (22 : Int32) then gd (ib (t_valMany - (1 : Int32)) 410) (gd (ib (t_valMany - (1 : Int32)) 410) (lt (t_waitMany - (1 : Int32)) (fun x3 => lt (t_open - (1 : Int32)) (fun x4 => lp_X8_turns_0 t_valMany t_waits n x3 x4 (vp_updL t_vals (t_valMany - (1 : Int32)).toNatClampNeg ((t_vals (t_valMany - (1 : Int32)).toNatClampNeg) ^^^ (-1 : Int64))))))) else some (t_waitMany, t_open, t_vals))
def f_X8_turns (t_valMany : Int32) (t_waitMany : Int32) (t_open : Int32) (t_vals : Nat → Int64) (t_waits : Nat → Int32) : Option (Int32 × Int32 × (Nat → Int64)) :=
  lp_X8_turns_0 t_valMany t_waits fu t_waitMany t_open t_vals
set_option maxHeartbeats 4000000 in
set_option maxRecDepth 100000 in
theorem c_X8_turns (l : Launch) (G : GG) (h_t h_t_text h_t_said h_t_many h_t_grades h_t_doubts h_t_vals h_t_waits h_t_fresh h_t_freshMany : Nat) (sz : Nat) (t_trace : Int64) (t_typed : Int32) (t_when : Int64) (t_then : Int64) (t_at : Int32) (t_token : Int32) (t_start : Int32) (t_valMany : Int32) (t_waitMany : Int32) (t_open : Int32) (t_saying : Int64) (t_quarrel : Int32) (t_vals : Nat → Int64) (t_waits : Nat → Int32)  (o : Int32 × Int32 × (Nat → Int64)) (ho : f_X8_turns t_valMany t_waitMany t_open t_vals t_waits = some o)  : Met l yX8_turns wsX8_turns ({ frames := 0, cells := 0, slots := 0, locals := 0 } : Room) (pcA G [.ref h_t] [(h_t, .inr (8, [.long t_trace, .ref h_t_text, .int t_typed, .ref h_t_said, .ref h_t_many, .long t_when, .long t_then, .ref h_t_grades, .ref h_t_doubts, .int t_at, .int t_token, .int t_start, .ref h_t_vals, .ref h_t_waits, .int t_valMany, .int t_waitMany, .int t_open, .long t_saying, .ref h_t_fresh, .ref h_t_freshMany, .int t_quarrel])), (h_t_vals, .inl (G.2.1.2.2, 410, .inr (.inl t_vals))), (h_t_waits, .inl (G.2.1.2.1, 410, .inl t_waits))] sz) (qcV Unit G (fun _ => True) (fun _ => [(h_t, .inr (8, [.long t_trace, .ref h_t_text, .int t_typed, .ref h_t_said, .ref h_t_many, .long t_when, .long t_then, .ref h_t_grades, .ref h_t_doubts, .int t_at, .int t_token, .int t_start, .ref h_t_vals, .ref h_t_waits, .int t_valMany, .int o.1, .int o.2.1, .long t_saying, .ref h_t_fresh, .ref h_t_freshMany, .int t_quarrel])), (h_t_vals, .inl (G.2.1.2.2, 410, .inr (.inl o.2.2))), (h_t_waits, .inl (G.2.1.2.1, 410, .inl t_waits))]) (va_A [(h_t, .inr (8, [.long t_trace, .ref h_t_text, .int t_typed, .ref h_t_said, .ref h_t_many, .long t_when, .long t_then, .ref h_t_grades, .ref h_t_doubts, .int t_at, .int t_token, .int t_start, .ref h_t_vals, .ref h_t_waits, .int t_valMany, .int t_waitMany, .int t_open, .long t_saying, .ref h_t_fresh, .ref h_t_freshMany, .int t_quarrel])), (h_t_vals, .inl (G.2.1.2.2, 410, .inr (.inl t_vals))), (h_t_waits, .inl (G.2.1.2.1, 410, .inl t_waits))] sz)) 0 0 (va_A [(h_t, .inr (8, [.long t_trace, .ref h_t_text, .int t_typed, .ref h_t_said, .ref h_t_many, .long t_when, .long t_then, .ref h_t_grades, .ref h_t_doubts, .int t_at, .int t_token, .int t_start, .ref h_t_vals, .ref h_t_waits, .int t_valMany, .int t_waitMany, .int t_open, .long t_saying, .ref h_t_fresh, .ref h_t_freshMany, .int t_quarrel])), (h_t_vals, .inl (G.2.1.2.2, 410, .inr (.inl t_vals))), (h_t_waits, .inl (G.2.1.2.1, 410, .inl t_waits))] sz) := by
  refine Met.ofW (cc := cX8_turns) (maxL := 1) (ret := none) (by decide) rfl ?_
  intro p e s m args below meth c s₁ B hml hv
  obtain ⟨rfl, hsz, hP, hg, hD0, hc⟩ := hv
  have hx := B.exec
  have hb := B.bytes
  have hr := B.returns
  have hts := atoms_spec (ws := wsX8_turns) B.pre
  have hown : s.vm.findClass RX8 = some m.cls := findClass_of_methodNamed B.named
  have hlocks := B.notSynchronized
  subst hsz
  have hD := hD0.self (sz := s.heap.size)
  generalize hAe : va_A [(h_t, .inr (8, [.long t_trace, .ref h_t_text, .int t_typed, .ref h_t_said, .ref h_t_many, .long t_when, .long t_then, .ref h_t_grades, .ref h_t_doubts, .int t_at, .int t_token, .int t_start, .ref h_t_vals, .ref h_t_waits, .int t_valMany, .int t_waitMany, .int t_open, .long t_saying, .ref h_t_fresh, .ref h_t_freshMany, .int t_quarrel])), (h_t_vals, .inl (G.2.1.2.2, 410, .inr (.inl t_vals))), (h_t_waits, .inl (G.2.1.2.1, 410, .inl t_waits))] s.heap.size = A at hD hc ⊢
  have hA : ∀ q : Nat, s.heap.size ≤ q → A q := fun q h => by rw [← hAe]; exact Or.inr h
  have hiX8 : ∀ w ∈ wsX80, w ∈ wsX8_turns := by decide +kernel
  have hl := lv_entry ([.ref h_t]) (n := 1) (Nat.le_of_ble_eq_true rfl)
  rw [lg_entry_eq]
  generalize (lg_sl ([.ref h_t]) ++ List.replicate (1 - (lg_sl ([.ref h_t])).length) Slot.unset).toArray = ls at hl ⊢
  have hl : lv_has ls 1 [(0, .ref h_t)] := hl
  have hf := ho
  have hw_0 : ∀  (n : Nat) (t_waitMany : Int32) (t_open : Int32) (t_vals : Nat → Int64), lp_X8_turns_0 t_valMany t_waits n t_waitMany t_open t_vals = some o → ∀ (H : Heap) (locs : List Loc), va_P G.1 vwCl [(h_t, .inr (8, [.long t_trace, .ref h_t_text, .int t_typed, .ref h_t_said, .ref h_t_many, .long t_when, .long t_then, .ref h_t_grades, .ref h_t_doubts, .int t_at, .int t_token, .int t_start, .ref h_t_vals, .ref h_t_waits, .int t_valMany, .int t_waitMany, .int t_open, .long t_saying, .ref h_t_fresh, .ref h_t_freshMany, .int t_quarrel])), (h_t_vals, .inl (G.2.1.2.2, 410, .inr (.inl t_vals))), (h_t_waits, .inl (G.2.1.2.1, 410, .inl t_waits))] H → va_D A [(h_t, .inr (8, [.long t_trace, .ref h_t_text, .int t_typed, .ref h_t_said, .ref h_t_many, .long t_when, .long t_then, .ref h_t_grades, .ref h_t_doubts, .int t_at, .int t_token, .int t_start, .ref h_t_vals, .ref h_t_waits, .int t_valMany, .int t_waitMany, .int t_open, .long t_saying, .ref h_t_fresh, .ref h_t_freshMany, .int t_quarrel])), (h_t_vals, .inl (G.2.1.2.2, 410, .inr (.inl t_vals))), (h_t_waits, .inl (G.2.1.2.1, 410, .inl t_waits))] → va_S A s.heap H locs → ∀ (ls : Array Slot), lv_has ls 1 [(0, .ref h_t)] → W p l e (headSpec wsX8_turns ({ frames := 0, cells := 0, slots := 0, locals := 0 } : Room)).room s m ([.ref h_t] : List Value).toArray below meth c H locs 0 0 (MQ below (qcV Unit G (fun _ => True) (fun _ => [(h_t, .inr (8, [.long t_trace, .ref h_t_text, .int t_typed, .ref h_t_said, .ref h_t_many, .long t_when, .long t_then, .ref h_t_grades, .ref h_t_doubts, .int t_at, .int t_token, .int t_start, .ref h_t_vals, .ref h_t_waits, .int t_valMany, .int o.1, .int o.2.1, .long t_saying, .ref h_t_fresh, .ref h_t_freshMany, .int t_quarrel])), (h_t_vals, .inl (G.2.1.2.2, 410, .inr (.inl o.2.2))), (h_t_waits, .inl (G.2.1.2.1, 410, .inl t_waits))]) A) ([.ref h_t] : List Value).toArray s 0 0 A) (F0 m 0 ls []) := by
    intro n
    induction n with
    | zero =>
      intro t_waitMany t_open t_vals hf
      exact absurd hf (by rw [lp_X8_turns_0]; intro h; cases h)
    | succ n ih =>
      intro t_waitMany t_open t_vals hf H locs hP hD hS ls hl
      rw [lp_X8_turns_0] at hf
      refine lv_aload_n hx hb dX8_turns_0 rfl (lv_at hl 0 rfl) ?_
      refine va_get (D := G.1) (ci := 8) (v := .int t_waitMany) (C := RX8) (T := TX8) (N := 21) hx hb hts hiX8 hown hg.1 hP 0 rfl rfl 15 (by decide) (hts (.fieldLink RX8 103 "AsARuleModel" "waitMany" "I") (by decide +kernel)) (fun _ h9 => h9) rfl dX8_turns_1 ?_
      refine lv_if_le (tgt := 72) hx hb dX8_turns_4 (by decide) (fun c1 => ?_) (fun c1 => ?_)
      · have hf := it_t c1 hf
        rw [← Option.some.inj hf]
        exact rt_v (u := ()) hx hb hr hlocks hP hD trivial hS dX8_turns_72
      · have hf := it_f c1 hf
        refine lv_aload_n hx hb dX8_turns_7 rfl (lv_at hl 0 rfl) ?_
        refine va_get (D := G.1) (ci := 8) (v := .ref h_t_waits) (C := RX8) (T := TX8) (N := 21) hx hb hts hiX8 hown hg.1 hP 0 rfl rfl 13 (by decide) (hts (.fieldLink RX8 29 "AsARuleModel" "waits" "[I") (by decide +kernel)) (fun _ h9 => h9) rfl dX8_turns_8 ?_
        refine lv_aload_n hx hb dX8_turns_11 rfl (lv_at hl 0 rfl) ?_
        refine va_get (D := G.1) (ci := 8) (v := .int t_waitMany) (C := RX8) (T := TX8) (N := 21) hx hb hts hiX8 hown hg.1 hP 0 rfl rfl 15 (by decide) (hts (.fieldLink RX8 103 "AsARuleModel" "waitMany" "I") (by decide +kernel)) (fun _ h9 => h9) rfl dX8_turns_12 ?_
        refine lv_iconst (v := (1 : Int32)) hx hb dX8_turns_15 (by decide) ?_
        refine lv_isub hx hb dX8_turns_16 ?_
        refine va_iald hx hb hg.1 hP 2 1 rfl rfl (ib_in (gd_t hf)) dX8_turns_17 ?_
        have hf := gd_x hf
        refine lv_bipush (v := (22 : Int32)) hx hb dX8_turns_18 (by decide) ?_
        refine lv_icmp_ne (tgt := 72) hx hb dX8_turns_20 (by decide) (fun c2 => ?_) (fun c2 => ?_)
        · have hf := it_f c2 hf
          rw [← Option.some.inj hf]
          exact rt_v (u := ()) hx hb hr hlocks hP hD trivial hS dX8_turns_72
        · have hf := it_t c2 hf
          refine lv_aload_n hx hb dX8_turns_23 rfl (lv_at hl 0 rfl) ?_
          refine va_get (D := G.1) (ci := 8) (v := .ref h_t_vals) (C := RX8) (T := TX8) (N := 21) hx hb hts hiX8 hown hg.1 hP 0 rfl rfl 12 (by decide) (hts (.fieldLink RX8 26 "AsARuleModel" "vals" "[J") (by decide +kernel)) (fun _ h9 => h9) rfl dX8_turns_24 ?_
          refine lv_aload_n hx hb dX8_turns_27 rfl (lv_at hl 0 rfl) ?_
          refine va_get (D := G.1) (ci := 8) (v := .int t_valMany) (C := RX8) (T := TX8) (N := 21) hx hb hts hiX8 hown hg.1 hP 0 rfl rfl 14 (by decide) (hts (.fieldLink RX8 106 "AsARuleModel" "valMany" "I") (by decide +kernel)) (fun _ h9 => h9) rfl dX8_turns_28 ?_
          refine lv_iconst (v := (1 : Int32)) hx hb dX8_turns_31 (by decide) ?_
          refine lv_isub hx hb dX8_turns_32 ?_
          refine lv_aload_n hx hb dX8_turns_33 rfl (lv_at hl 0 rfl) ?_
          refine va_get (D := G.1) (ci := 8) (v := .ref h_t_vals) (C := RX8) (T := TX8) (N := 21) hx hb hts hiX8 hown hg.1 hP 0 rfl rfl 12 (by decide) (hts (.fieldLink RX8 26 "AsARuleModel" "vals" "[J") (by decide +kernel)) (fun _ h9 => h9) rfl dX8_turns_34 ?_
          refine lv_aload_n hx hb dX8_turns_37 rfl (lv_at hl 0 rfl) ?_
          refine va_get (D := G.1) (ci := 8) (v := .int t_valMany) (C := RX8) (T := TX8) (N := 21) hx hb hts hiX8 hown hg.1 hP 0 rfl rfl 14 (by decide) (hts (.fieldLink RX8 106 "AsARuleModel" "valMany" "I") (by decide +kernel)) (fun _ h9 => h9) rfl dX8_turns_38 ?_
          refine lv_iconst (v := (1 : Int32)) hx hb dX8_turns_41 (by decide) ?_
          refine lv_isub hx hb dX8_turns_42 ?_
          refine va_lald hx hb hg.1 hP 1 2 rfl rfl (ib_in (gd_t hf)) dX8_turns_43 ?_
          have hf := gd_x hf
          refine lv_ldc2 (v := (-1 : Int64)) hx hb hown (hts (.constantLong RX8 38 (-1 : Int64)) (by decide +kernel)) dX8_turns_44 ?_
          refine lv_lxor hx hb dX8_turns_47 ?_
          refine va_last hx hb hg.1 hP hD hS 1 2 rfl rfl (ib_in (gd_t hf)) dX8_turns_48 (fun H locs hP hD hS => ?_)
          have hf := gd_x hf
          have hP : va_P G.1 vwCl [(h_t, .inr (8, [.long t_trace, .ref h_t_text, .int t_typed, .ref h_t_said, .ref h_t_many, .long t_when, .long t_then, .ref h_t_grades, .ref h_t_doubts, .int t_at, .int t_token, .int t_start, .ref h_t_vals, .ref h_t_waits, .int t_valMany, .int t_waitMany, .int t_open, .long t_saying, .ref h_t_fresh, .ref h_t_freshMany, .int t_quarrel])), (h_t_vals, .inl (G.2.1.2.2, 410, .inr (.inl (vp_updL t_vals (t_valMany - (1 : Int32)).toNatClampNeg ((t_vals (t_valMany - (1 : Int32)).toNatClampNeg) ^^^ (-1 : Int64)))))), (h_t_waits, .inl (G.2.1.2.1, 410, .inl t_waits))] H := hP
          have hD : va_D A [(h_t, .inr (8, [.long t_trace, .ref h_t_text, .int t_typed, .ref h_t_said, .ref h_t_many, .long t_when, .long t_then, .ref h_t_grades, .ref h_t_doubts, .int t_at, .int t_token, .int t_start, .ref h_t_vals, .ref h_t_waits, .int t_valMany, .int t_waitMany, .int t_open, .long t_saying, .ref h_t_fresh, .ref h_t_freshMany, .int t_quarrel])), (h_t_vals, .inl (G.2.1.2.2, 410, .inr (.inl (vp_updL t_vals (t_valMany - (1 : Int32)).toNatClampNeg ((t_vals (t_valMany - (1 : Int32)).toNatClampNeg) ^^^ (-1 : Int64)))))), (h_t_waits, .inl (G.2.1.2.1, 410, .inl t_waits))] := hD
          refine lv_aload_n hx hb dX8_turns_49 rfl (lv_at hl 0 rfl) ?_
          refine lv_dup hx hb dX8_turns_50 rfl ?_
          refine va_get (D := G.1) (ci := 8) (v := .int t_waitMany) (C := RX8) (T := TX8) (N := 21) hx hb hts hiX8 hown hg.1 hP 0 rfl rfl 15 (by decide) (hts (.fieldLink RX8 103 "AsARuleModel" "waitMany" "I") (by decide +kernel)) (fun _ h9 => h9) rfl dX8_turns_51 ?_
          refine lv_iconst (v := (1 : Int32)) hx hb dX8_turns_54 (by decide) ?_
          refine lv_isub hx hb dX8_turns_55 ?_
          refine lv_topi (fun x3 ex3 => ?_)
          have hf := lt_n hf x3 ex3
          refine va_put (D := G.1) (ci := 8) (v := .int x3) (ty := .int) (C := RX8) (T := TX8) (N := 21) hx hb hts hiX8 tyX8 tyX8_ok nmX8 hown hg.1 hP hD hS 0 rfl rfl 15 (by decide) (hts (.fieldLink RX8 103 "AsARuleModel" "waitMany" "I") (by decide +kernel)) (fun _ h9 => h9) rfl (by decide +kernel) rfl rfl (Nat.le_of_ble_eq_true rfl) dX8_turns_56 (fun H locs hP hD hS => ?_)
          have hP : va_P G.1 vwCl [(h_t, .inr (8, [.long t_trace, .ref h_t_text, .int t_typed, .ref h_t_said, .ref h_t_many, .long t_when, .long t_then, .ref h_t_grades, .ref h_t_doubts, .int t_at, .int t_token, .int t_start, .ref h_t_vals, .ref h_t_waits, .int t_valMany, .int x3, .int t_open, .long t_saying, .ref h_t_fresh, .ref h_t_freshMany, .int t_quarrel])), (h_t_vals, .inl (G.2.1.2.2, 410, .inr (.inl (vp_updL t_vals (t_valMany - (1 : Int32)).toNatClampNeg ((t_vals (t_valMany - (1 : Int32)).toNatClampNeg) ^^^ (-1 : Int64)))))), (h_t_waits, .inl (G.2.1.2.1, 410, .inl t_waits))] H := hP
          have hD : va_D A [(h_t, .inr (8, [.long t_trace, .ref h_t_text, .int t_typed, .ref h_t_said, .ref h_t_many, .long t_when, .long t_then, .ref h_t_grades, .ref h_t_doubts, .int t_at, .int t_token, .int t_start, .ref h_t_vals, .ref h_t_waits, .int t_valMany, .int x3, .int t_open, .long t_saying, .ref h_t_fresh, .ref h_t_freshMany, .int t_quarrel])), (h_t_vals, .inl (G.2.1.2.2, 410, .inr (.inl (vp_updL t_vals (t_valMany - (1 : Int32)).toNatClampNeg ((t_vals (t_valMany - (1 : Int32)).toNatClampNeg) ^^^ (-1 : Int64)))))), (h_t_waits, .inl (G.2.1.2.1, 410, .inl t_waits))] := hD
          refine lv_aload_n hx hb dX8_turns_59 rfl (lv_at hl 0 rfl) ?_
          refine lv_dup hx hb dX8_turns_60 rfl ?_
          refine va_get (D := G.1) (ci := 8) (v := .int t_open) (C := RX8) (T := TX8) (N := 21) hx hb hts hiX8 hown hg.1 hP 0 rfl rfl 16 (by decide) (hts (.fieldLink RX8 109 "AsARuleModel" "open" "I") (by decide +kernel)) (fun _ h9 => h9) rfl dX8_turns_61 ?_
          refine lv_iconst (v := (1 : Int32)) hx hb dX8_turns_64 (by decide) ?_
          refine lv_isub hx hb dX8_turns_65 ?_
          refine lv_topi (fun x4 ex4 => ?_)
          have hf := lt_n hf x4 ex4
          refine va_put (D := G.1) (ci := 8) (v := .int x4) (ty := .int) (C := RX8) (T := TX8) (N := 21) hx hb hts hiX8 tyX8 tyX8_ok nmX8 hown hg.1 hP hD hS 0 rfl rfl 16 (by decide) (hts (.fieldLink RX8 109 "AsARuleModel" "open" "I") (by decide +kernel)) (fun _ h9 => h9) rfl (by decide +kernel) rfl rfl (Nat.le_of_ble_eq_true rfl) dX8_turns_66 (fun H locs hP hD hS => ?_)
          have hP : va_P G.1 vwCl [(h_t, .inr (8, [.long t_trace, .ref h_t_text, .int t_typed, .ref h_t_said, .ref h_t_many, .long t_when, .long t_then, .ref h_t_grades, .ref h_t_doubts, .int t_at, .int t_token, .int t_start, .ref h_t_vals, .ref h_t_waits, .int t_valMany, .int x3, .int x4, .long t_saying, .ref h_t_fresh, .ref h_t_freshMany, .int t_quarrel])), (h_t_vals, .inl (G.2.1.2.2, 410, .inr (.inl (vp_updL t_vals (t_valMany - (1 : Int32)).toNatClampNeg ((t_vals (t_valMany - (1 : Int32)).toNatClampNeg) ^^^ (-1 : Int64)))))), (h_t_waits, .inl (G.2.1.2.1, 410, .inl t_waits))] H := hP
          have hD : va_D A [(h_t, .inr (8, [.long t_trace, .ref h_t_text, .int t_typed, .ref h_t_said, .ref h_t_many, .long t_when, .long t_then, .ref h_t_grades, .ref h_t_doubts, .int t_at, .int t_token, .int t_start, .ref h_t_vals, .ref h_t_waits, .int t_valMany, .int x3, .int x4, .long t_saying, .ref h_t_fresh, .ref h_t_freshMany, .int t_quarrel])), (h_t_vals, .inl (G.2.1.2.2, 410, .inr (.inl (vp_updL t_vals (t_valMany - (1 : Int32)).toNatClampNeg ((t_vals (t_valMany - (1 : Int32)).toNatClampNeg) ^^^ (-1 : Int64)))))), (h_t_waits, .inl (G.2.1.2.1, 410, .inl t_waits))] := hD
          refine lv_goto (tgt := 0) hx hb dX8_turns_69 (by decide) ?_
          exact ih x3 x4 (vp_updL t_vals (t_valMany - (1 : Int32)).toNatClampNeg ((t_vals (t_valMany - (1 : Int32)).toNatClampNeg) ^^^ (-1 : Int64))) hf _ _ hP hD hS _ hl
  unfold f_X8_turns at hf
  refine en (fun H locs hP hD hS => ?_) hP hD
  exact hw_0 fu t_waitMany t_open t_vals hf _ _ hP hD hS _ hl
-- method X8_isInner
def lp_X8_isInner_4 (t_waitMany : Int32) (t_waits : Nat → Int32) : Nat → Int32 → Int32 → Option (Int32)
  | 0, _, _ => none
  | n + 1, v1, v2 => if t_waitMany ≤ v2 then gd (zb v1) (some (v1)) else if v1 = (0 : Int32) then gd (ib v2 410) (if (t_waits v2.toNatClampNeg) = (23 : Int32) then lt (v2 + (1 : Int32)) (fun x7 => lp_X8_isInner_4 t_waitMany t_waits n (1 : Int32) x7) else lt (v2 + (1 : Int32)) (fun x6 => lp_X8_isInner_4 t_waitMany t_waits n (0 : Int32) x6)) else lt (v2 + (1 : Int32)) (fun x4 => lp_X8_isInner_4 t_waitMany t_waits n (1 : Int32) x4)
def f_X8_isInner (t_waitMany : Int32) (t_waits : Nat → Int32) : Option (Int32) :=
  lp_X8_isInner_4 t_waitMany t_waits fu (0 : Int32) (0 : Int32)
set_option maxHeartbeats 4000000 in
set_option maxRecDepth 100000 in
theorem c_X8_isInner (l : Launch) (G : GG) (h_t h_t_text h_t_said h_t_many h_t_grades h_t_doubts h_t_vals h_t_waits h_t_fresh h_t_freshMany : Nat) (sz : Nat) (t_trace : Int64) (t_typed : Int32) (t_when : Int64) (t_then : Int64) (t_at : Int32) (t_token : Int32) (t_start : Int32) (t_valMany : Int32) (t_waitMany : Int32) (t_open : Int32) (t_saying : Int64) (t_quarrel : Int32) (t_waits : Nat → Int32)  (o : Int32) (ho : f_X8_isInner t_waitMany t_waits = some o)  : Met l yX8_isInner wsX8_isInner ({ frames := 0, cells := 0, slots := 0, locals := 0 } : Room) (pcA G [.ref h_t] [(h_t, .inr (8, [.long t_trace, .ref h_t_text, .int t_typed, .ref h_t_said, .ref h_t_many, .long t_when, .long t_then, .ref h_t_grades, .ref h_t_doubts, .int t_at, .int t_token, .int t_start, .ref h_t_vals, .ref h_t_waits, .int t_valMany, .int t_waitMany, .int t_open, .long t_saying, .ref h_t_fresh, .ref h_t_freshMany, .int t_quarrel])), (h_t_waits, .inl (G.2.1.2.1, 410, .inl t_waits))] sz) (qcI Unit G o (fun _ => True) (fun _ => [(h_t, .inr (8, [.long t_trace, .ref h_t_text, .int t_typed, .ref h_t_said, .ref h_t_many, .long t_when, .long t_then, .ref h_t_grades, .ref h_t_doubts, .int t_at, .int t_token, .int t_start, .ref h_t_vals, .ref h_t_waits, .int t_valMany, .int t_waitMany, .int t_open, .long t_saying, .ref h_t_fresh, .ref h_t_freshMany, .int t_quarrel])), (h_t_waits, .inl (G.2.1.2.1, 410, .inl t_waits))]) (va_A [(h_t, .inr (8, [.long t_trace, .ref h_t_text, .int t_typed, .ref h_t_said, .ref h_t_many, .long t_when, .long t_then, .ref h_t_grades, .ref h_t_doubts, .int t_at, .int t_token, .int t_start, .ref h_t_vals, .ref h_t_waits, .int t_valMany, .int t_waitMany, .int t_open, .long t_saying, .ref h_t_fresh, .ref h_t_freshMany, .int t_quarrel])), (h_t_waits, .inl (G.2.1.2.1, 410, .inl t_waits))] sz)) 0 0 (va_A [(h_t, .inr (8, [.long t_trace, .ref h_t_text, .int t_typed, .ref h_t_said, .ref h_t_many, .long t_when, .long t_then, .ref h_t_grades, .ref h_t_doubts, .int t_at, .int t_token, .int t_start, .ref h_t_vals, .ref h_t_waits, .int t_valMany, .int t_waitMany, .int t_open, .long t_saying, .ref h_t_fresh, .ref h_t_freshMany, .int t_quarrel])), (h_t_waits, .inl (G.2.1.2.1, 410, .inl t_waits))] sz) := by
  refine Met.ofW (cc := cX8_isInner) (maxL := 3) (ret := (some .boolean)) (by decide) rfl ?_
  intro p e s m args below meth c s₁ B hml hv
  obtain ⟨rfl, hsz, hP, hg, hD0, hc⟩ := hv
  have hx := B.exec
  have hb := B.bytes
  have hr := B.returns
  have hts := atoms_spec (ws := wsX8_isInner) B.pre
  have hown : s.vm.findClass RX8 = some m.cls := findClass_of_methodNamed B.named
  have hlocks := B.notSynchronized
  subst hsz
  have hD := hD0.self (sz := s.heap.size)
  generalize hAe : va_A [(h_t, .inr (8, [.long t_trace, .ref h_t_text, .int t_typed, .ref h_t_said, .ref h_t_many, .long t_when, .long t_then, .ref h_t_grades, .ref h_t_doubts, .int t_at, .int t_token, .int t_start, .ref h_t_vals, .ref h_t_waits, .int t_valMany, .int t_waitMany, .int t_open, .long t_saying, .ref h_t_fresh, .ref h_t_freshMany, .int t_quarrel])), (h_t_waits, .inl (G.2.1.2.1, 410, .inl t_waits))] s.heap.size = A at hD hc ⊢
  have hA : ∀ q : Nat, s.heap.size ≤ q → A q := fun q h => by rw [← hAe]; exact Or.inr h
  have hiX8 : ∀ w ∈ wsX80, w ∈ wsX8_isInner := by decide +kernel
  have hl := lv_entry ([.ref h_t]) (n := 3) (Nat.le_of_ble_eq_true rfl)
  rw [lg_entry_eq]
  generalize (lg_sl ([.ref h_t]) ++ List.replicate (3 - (lg_sl ([.ref h_t])).length) Slot.unset).toArray = ls at hl ⊢
  have hl : lv_has ls 3 [(0, .ref h_t)] := hl
  have hf := ho
  have hw_4 : ∀  (n : Nat) (v1 : Int32) (v2 : Int32), lp_X8_isInner_4 t_waitMany t_waits n v1 v2 = some o → ∀ (H : Heap) (locs : List Loc), va_P G.1 vwCl [(h_t, .inr (8, [.long t_trace, .ref h_t_text, .int t_typed, .ref h_t_said, .ref h_t_many, .long t_when, .long t_then, .ref h_t_grades, .ref h_t_doubts, .int t_at, .int t_token, .int t_start, .ref h_t_vals, .ref h_t_waits, .int t_valMany, .int t_waitMany, .int t_open, .long t_saying, .ref h_t_fresh, .ref h_t_freshMany, .int t_quarrel])), (h_t_waits, .inl (G.2.1.2.1, 410, .inl t_waits))] H → va_D A [(h_t, .inr (8, [.long t_trace, .ref h_t_text, .int t_typed, .ref h_t_said, .ref h_t_many, .long t_when, .long t_then, .ref h_t_grades, .ref h_t_doubts, .int t_at, .int t_token, .int t_start, .ref h_t_vals, .ref h_t_waits, .int t_valMany, .int t_waitMany, .int t_open, .long t_saying, .ref h_t_fresh, .ref h_t_freshMany, .int t_quarrel])), (h_t_waits, .inl (G.2.1.2.1, 410, .inl t_waits))] → va_S A s.heap H locs → ∀ (ls : Array Slot), lv_has ls 3 [(0, .ref h_t), (1, .int v1), (2, .int v2)] → W p l e (headSpec wsX8_isInner ({ frames := 0, cells := 0, slots := 0, locals := 0 } : Room)).room s m ([.ref h_t] : List Value).toArray below meth c H locs 0 0 (MQ below (qcI Unit G o (fun _ => True) (fun _ => [(h_t, .inr (8, [.long t_trace, .ref h_t_text, .int t_typed, .ref h_t_said, .ref h_t_many, .long t_when, .long t_then, .ref h_t_grades, .ref h_t_doubts, .int t_at, .int t_token, .int t_start, .ref h_t_vals, .ref h_t_waits, .int t_valMany, .int t_waitMany, .int t_open, .long t_saying, .ref h_t_fresh, .ref h_t_freshMany, .int t_quarrel])), (h_t_waits, .inl (G.2.1.2.1, 410, .inl t_waits))]) A) ([.ref h_t] : List Value).toArray s 0 0 A) (F0 m 4 ls []) := by
    intro n
    induction n with
    | zero =>
      intro v1 v2 hf
      exact absurd hf (by rw [lp_X8_isInner_4]; intro h; cases h)
    | succ n ih =>
      intro v1 v2 hf H locs hP hD hS ls hl
      rw [lp_X8_isInner_4] at hf
      refine lv_iload_n hx hb dX8_isInner_4 rfl (lv_at hl 2 rfl) ?_
      refine lv_aload_n hx hb dX8_isInner_5 rfl (lv_at hl 0 rfl) ?_
      refine va_get (D := G.1) (ci := 8) (v := .int t_waitMany) (C := RX8) (T := TX8) (N := 21) hx hb hts hiX8 hown hg.1 hP 0 rfl rfl 15 (by decide) (hts (.fieldLink RX8 103 "AsARuleModel" "waitMany" "I") (by decide +kernel)) (fun _ h9 => h9) rfl dX8_isInner_6 ?_
      refine lv_icmp_ge (tgt := 39) hx hb dX8_isInner_9 (by decide) (fun c1 => ?_) (fun c1 => ?_)
      · have hf := it_t c1 hf
        refine lv_iload_n hx hb dX8_isInner_39 rfl (lv_at hl 1 rfl) ?_
        have z2 := gd_t hf
        have hf := gd_x hf
        rw [← Option.some.inj hf]
        exact rt_z (u := ()) hx hb hr z2 hlocks hP hD trivial hS dX8_isInner_40
      · have hf := it_f c1 hf
        refine lv_iload_n hx hb dX8_isInner_12 rfl (lv_at hl 1 rfl) ?_
        refine lv_if_ne (tgt := 27) hx hb dX8_isInner_13 (by decide) (fun c3 => ?_) (fun c3 => ?_)
        · have hf := it_f c3 hf
          refine lv_iconst (v := (1 : Int32)) hx hb dX8_isInner_27 (by decide) ?_
          refine lv_goto (tgt := 32) hx hb dX8_isInner_28 (by decide) ?_
          refine lv_istore_n (lv' := [(1, .int (1 : Int32)), (0, .ref h_t), (2, .int v2)]) hx hb dX8_isInner_32 rfl hl (by decide) rfl (fun ls hl => ?_)
          obtain ⟨x4, ex4⟩ : ∃ y : Int32, y = (v2 + (1 : Int32)) := ⟨_, rfl⟩
          have hf := lt_n hf x4 ex4
          refine lv_iinc (v := x4) (lv' := [(2, .int x4), (1, .int (1 : Int32)), (0, .ref h_t)]) hx hb dX8_isInner_33 hl (k := 2) rfl (by rw [ex4]; rfl) (by decide) rfl (fun ls hl => ?_)
          refine lv_goto (tgt := 4) hx hb dX8_isInner_36 (by decide) ?_
          exact ih (1 : Int32) x4 hf _ _ hP hD hS _ (lv_sub hl [2, 1, 0] rfl)
        · have hf := it_t c3 hf
          refine lv_aload_n hx hb dX8_isInner_16 rfl (lv_at hl 0 rfl) ?_
          refine va_get (D := G.1) (ci := 8) (v := .ref h_t_waits) (C := RX8) (T := TX8) (N := 21) hx hb hts hiX8 hown hg.1 hP 0 rfl rfl 13 (by decide) (hts (.fieldLink RX8 29 "AsARuleModel" "waits" "[I") (by decide +kernel)) (fun _ h9 => h9) rfl dX8_isInner_17 ?_
          refine lv_iload_n hx hb dX8_isInner_20 rfl (lv_at hl 2 rfl) ?_
          refine va_iald hx hb hg.1 hP 1 1 rfl rfl (ib_in (gd_t hf)) dX8_isInner_21 ?_
          have hf := gd_x hf
          refine lv_bipush (v := (23 : Int32)) hx hb dX8_isInner_22 (by decide) ?_
          refine lv_icmp_ne (tgt := 31) hx hb dX8_isInner_24 (by decide) (fun c5 => ?_) (fun c5 => ?_)
          · have hf := it_f c5 hf
            refine lv_iconst (v := (0 : Int32)) hx hb dX8_isInner_31 (by decide) ?_
            refine lv_istore_n (lv' := [(1, .int (0 : Int32)), (0, .ref h_t), (2, .int v2)]) hx hb dX8_isInner_32 rfl hl (by decide) rfl (fun ls hl => ?_)
            obtain ⟨x6, ex6⟩ : ∃ y : Int32, y = (v2 + (1 : Int32)) := ⟨_, rfl⟩
            have hf := lt_n hf x6 ex6
            refine lv_iinc (v := x6) (lv' := [(2, .int x6), (1, .int (0 : Int32)), (0, .ref h_t)]) hx hb dX8_isInner_33 hl (k := 2) rfl (by rw [ex6]; rfl) (by decide) rfl (fun ls hl => ?_)
            refine lv_goto (tgt := 4) hx hb dX8_isInner_36 (by decide) ?_
            exact ih (0 : Int32) x6 hf _ _ hP hD hS _ (lv_sub hl [2, 1, 0] rfl)
          · have hf := it_t c5 hf
            refine lv_iconst (v := (1 : Int32)) hx hb dX8_isInner_27 (by decide) ?_
            refine lv_goto (tgt := 32) hx hb dX8_isInner_28 (by decide) ?_
            refine lv_istore_n (lv' := [(1, .int (1 : Int32)), (0, .ref h_t), (2, .int v2)]) hx hb dX8_isInner_32 rfl hl (by decide) rfl (fun ls hl => ?_)
            obtain ⟨x7, ex7⟩ : ∃ y : Int32, y = (v2 + (1 : Int32)) := ⟨_, rfl⟩
            have hf := lt_n hf x7 ex7
            refine lv_iinc (v := x7) (lv' := [(2, .int x7), (1, .int (1 : Int32)), (0, .ref h_t)]) hx hb dX8_isInner_33 hl (k := 2) rfl (by rw [ex7]; rfl) (by decide) rfl (fun ls hl => ?_)
            refine lv_goto (tgt := 4) hx hb dX8_isInner_36 (by decide) ?_
            exact ih (1 : Int32) x7 hf _ _ hP hD hS _ (lv_sub hl [2, 1, 0] rfl)
  unfold f_X8_isInner at hf
  refine en (fun H locs hP hD hS => ?_) hP hD
  refine lv_iconst (v := (0 : Int32)) hx hb dX8_isInner_0 (by decide) ?_
  refine lv_istore_n (lv' := [(1, .int (0 : Int32)), (0, .ref h_t)]) hx hb dX8_isInner_1 rfl hl (by decide) rfl (fun ls hl => ?_)
  refine lv_iconst (v := (0 : Int32)) hx hb dX8_isInner_2 (by decide) ?_
  refine lv_istore_n (lv' := [(2, .int (0 : Int32)), (1, .int (0 : Int32)), (0, .ref h_t)]) hx hb dX8_isInner_3 rfl hl (by decide) rfl (fun ls hl => ?_)
  exact hw_4 fu (0 : Int32) (0 : Int32) hf _ _ hP hD hS _ (lv_sub hl [2, 1, 0] rfl)
-- method X8_isOne
def f_X8_isOne (t_token : Int32) : Option (Int32) :=
  bd (f_X8_in ((t_token).toInt64) (10 : Int64) (15 : Int64)) (fun o1 => if o1 = (0 : Int32) then if t_token = (17 : Int32) then some ((1 : Int32)) else if t_token = (18 : Int32) then some ((1 : Int32)) else some ((0 : Int32)) else some ((1 : Int32)))
set_option maxHeartbeats 4000000 in
set_option maxRecDepth 100000 in
theorem c_X8_isOne (l : Launch) (G : GG) (h_t h_t_text h_t_said h_t_many h_t_grades h_t_doubts h_t_vals h_t_waits h_t_fresh h_t_freshMany : Nat) (sz : Nat) (t_trace : Int64) (t_typed : Int32) (t_when : Int64) (t_then : Int64) (t_at : Int32) (t_token : Int32) (t_start : Int32) (t_valMany : Int32) (t_waitMany : Int32) (t_open : Int32) (t_saying : Int64) (t_quarrel : Int32)  (o : Int32) (ho : f_X8_isOne t_token = some o)  : Met l yX8_isOne wsX8_isOne ({ frames := 1, cells := 0, slots := 0, locals := 25 } : Room) (pcA G [.ref h_t] [(h_t, .inr (8, [.long t_trace, .ref h_t_text, .int t_typed, .ref h_t_said, .ref h_t_many, .long t_when, .long t_then, .ref h_t_grades, .ref h_t_doubts, .int t_at, .int t_token, .int t_start, .ref h_t_vals, .ref h_t_waits, .int t_valMany, .int t_waitMany, .int t_open, .long t_saying, .ref h_t_fresh, .ref h_t_freshMany, .int t_quarrel]))] sz) (qcI Unit G o (fun _ => True) (fun _ => [(h_t, .inr (8, [.long t_trace, .ref h_t_text, .int t_typed, .ref h_t_said, .ref h_t_many, .long t_when, .long t_then, .ref h_t_grades, .ref h_t_doubts, .int t_at, .int t_token, .int t_start, .ref h_t_vals, .ref h_t_waits, .int t_valMany, .int t_waitMany, .int t_open, .long t_saying, .ref h_t_fresh, .ref h_t_freshMany, .int t_quarrel]))]) (va_A [(h_t, .inr (8, [.long t_trace, .ref h_t_text, .int t_typed, .ref h_t_said, .ref h_t_many, .long t_when, .long t_then, .ref h_t_grades, .ref h_t_doubts, .int t_at, .int t_token, .int t_start, .ref h_t_vals, .ref h_t_waits, .int t_valMany, .int t_waitMany, .int t_open, .long t_saying, .ref h_t_fresh, .ref h_t_freshMany, .int t_quarrel]))] sz)) 0 0 (va_A [(h_t, .inr (8, [.long t_trace, .ref h_t_text, .int t_typed, .ref h_t_said, .ref h_t_many, .long t_when, .long t_then, .ref h_t_grades, .ref h_t_doubts, .int t_at, .int t_token, .int t_start, .ref h_t_vals, .ref h_t_waits, .int t_valMany, .int t_waitMany, .int t_open, .long t_saying, .ref h_t_fresh, .ref h_t_freshMany, .int t_quarrel]))] sz) := by
  refine Met.ofW (cc := cX8_isOne) (maxL := 1) (ret := (some .boolean)) (by decide) rfl ?_
  intro p e s m args below meth c s₁ B hml hv
  obtain ⟨rfl, hsz, hP, hg, hD0, hc⟩ := hv
  have hx := B.exec
  have hb := B.bytes
  have hr := B.returns
  have hts := atoms_spec (ws := wsX8_isOne) B.pre
  have hown : s.vm.findClass RX8 = some m.cls := findClass_of_methodNamed B.named
  have hlocks := B.notSynchronized
  subst hsz
  have hD := hD0.self (sz := s.heap.size)
  generalize hAe : va_A [(h_t, .inr (8, [.long t_trace, .ref h_t_text, .int t_typed, .ref h_t_said, .ref h_t_many, .long t_when, .long t_then, .ref h_t_grades, .ref h_t_doubts, .int t_at, .int t_token, .int t_start, .ref h_t_vals, .ref h_t_waits, .int t_valMany, .int t_waitMany, .int t_open, .long t_saying, .ref h_t_fresh, .ref h_t_freshMany, .int t_quarrel]))] s.heap.size = A at hD hc ⊢
  have hA : ∀ q : Nat, s.heap.size ≤ q → A q := fun q h => by rw [← hAe]; exact Or.inr h
  have hiX8 : ∀ w ∈ wsX80, w ∈ wsX8_isOne := by decide +kernel
  have hl := lv_entry ([.ref h_t]) (n := 1) (Nat.le_of_ble_eq_true rfl)
  rw [lg_entry_eq]
  generalize (lg_sl ([.ref h_t]) ++ List.replicate (1 - (lg_sl ([.ref h_t])).length) Slot.unset).toArray = ls at hl ⊢
  have hl : lv_has ls 1 [(0, .ref h_t)] := hl
  have hf := ho
  unfold f_X8_isOne at hf
  refine en (fun H locs hP hD hS => ?_) hP hD
  refine lv_aload_n hx hb dX8_isOne_0 rfl (lv_at hl 0 rfl) ?_
  refine va_get (D := G.1) (ci := 8) (v := .int t_token) (C := RX8) (T := TX8) (N := 21) hx hb hts hiX8 hown hg.1 hP 0 rfl rfl 10 (by decide) (hts (.fieldLink RX8 89 "AsARuleModel" "token" "I") (by decide +kernel)) (fun _ h9 => h9) rfl dX8_isOne_1 ?_
  refine lv_i2l (v := (t_token).toInt64) hx hb dX8_isOne_4 rfl ?_
  refine lv_ldc2 (v := (10 : Int64)) hx hb hown (hts (.constantLong RX8 112 (10 : Int64)) (by decide +kernel)) dX8_isOne_5 ?_
  refine lv_ldc2 (v := (15 : Int64)) hx hb hown (hts (.constantLong RX8 114 (15 : Int64)) (by decide +kernel)) dX8_isOne_8 ?_
  obtain ⟨o1, ho1, hf⟩ := bd_e hf
  refine af0_i (va_runS (As := [.long ((t_token).toInt64), .long (10 : Int64), .long (15 : Int64)]) (rest := []) ⟨hx, hb, hml, hown, hts⟩ (c_X8_in l G H.size ((t_token).toInt64) (10 : Int64) (15 : Int64) o1 ho1) (va_cwS 3 hts gX8_isOne_X8_in rfl rfl rfl (by decide +kernel) ⟨Nat.le_of_ble_eq_true rfl, Nat.le_of_ble_eq_true rfl⟩) (pcA_pre hg hc hP hD hS hA [] rfl rfl [.long ((t_token).toInt64), .long (10 : Int64), .long (15 : Int64)]) rfl rfl hl.1 rfl (lv_room (Nat.le_of_ble_eq_true rfl)) dX8_isOne_11 ⟨Nat.zero_le _, Nat.zero_le _⟩) hP hD hS hA (fun H locs hP hD hS => ?_)
  refine lv_if_ne (tgt := 35) hx hb dX8_isOne_14 (by decide) (fun c2 => ?_) (fun c2 => ?_)
  · have hf := it_f c2 hf
    refine lv_iconst (v := (1 : Int32)) hx hb dX8_isOne_35 (by decide) ?_
    refine lv_goto (tgt := 40) hx hb dX8_isOne_36 (by decide) ?_
    rw [← Option.some.inj hf]
    exact rt_z (u := ()) hx hb hr zb_1 hlocks hP hD trivial hS dX8_isOne_40
  · have hf := it_t c2 hf
    refine lv_aload_n hx hb dX8_isOne_17 rfl (lv_at hl 0 rfl) ?_
    refine va_get (D := G.1) (ci := 8) (v := .int t_token) (C := RX8) (T := TX8) (N := 21) hx hb hts hiX8 hown hg.1 hP 0 rfl rfl 10 (by decide) (hts (.fieldLink RX8 89 "AsARuleModel" "token" "I") (by decide +kernel)) (fun _ h9 => h9) rfl dX8_isOne_18 ?_
    refine lv_bipush (v := (17 : Int32)) hx hb dX8_isOne_21 (by decide) ?_
    refine lv_icmp_eq (tgt := 35) hx hb dX8_isOne_23 (by decide) (fun c3 => ?_) (fun c3 => ?_)
    · have hf := it_t c3 hf
      refine lv_iconst (v := (1 : Int32)) hx hb dX8_isOne_35 (by decide) ?_
      refine lv_goto (tgt := 40) hx hb dX8_isOne_36 (by decide) ?_
      rw [← Option.some.inj hf]
      exact rt_z (u := ()) hx hb hr zb_1 hlocks hP hD trivial hS dX8_isOne_40
    · have hf := it_f c3 hf
      refine lv_aload_n hx hb dX8_isOne_26 rfl (lv_at hl 0 rfl) ?_
      refine va_get (D := G.1) (ci := 8) (v := .int t_token) (C := RX8) (T := TX8) (N := 21) hx hb hts hiX8 hown hg.1 hP 0 rfl rfl 10 (by decide) (hts (.fieldLink RX8 89 "AsARuleModel" "token" "I") (by decide +kernel)) (fun _ h9 => h9) rfl dX8_isOne_27 ?_
      refine lv_bipush (v := (18 : Int32)) hx hb dX8_isOne_30 (by decide) ?_
      refine lv_icmp_ne (tgt := 39) hx hb dX8_isOne_32 (by decide) (fun c4 => ?_) (fun c4 => ?_)
      · have hf := it_f c4 hf
        refine lv_iconst (v := (0 : Int32)) hx hb dX8_isOne_39 (by decide) ?_
        rw [← Option.some.inj hf]
        exact rt_z (u := ()) hx hb hr zb_0 hlocks hP hD trivial hS dX8_isOne_40
      · have hf := it_t c4 hf
        refine lv_iconst (v := (1 : Int32)) hx hb dX8_isOne_35 (by decide) ?_
        refine lv_goto (tgt := 40) hx hb dX8_isOne_36 (by decide) ?_
        rw [← Option.some.inj hf]
        exact rt_z (u := ()) hx hb hr zb_1 hlocks hP hD trivial hS dX8_isOne_40
-- method X8_says
def jn_X8_says_264 (t_typed : Int32) (t_text : Nat → Int32) (t_at : Int32) (t_token : Int32) (t_start : Int32) (t_valMany : Int32) (t_waitMany : Int32) (t_open : Int32) (t_saying : Int64) (t_vals : Nat → Int64) (t_waits : Nat → Int32) : Option (Int32 × Int32 × Int32 × Int32 × Int32 × Int32 × Int32 × Int64 × (Nat → Int64) × (Nat → Int32)) :=
  bd (f_X8_isInner t_waitMany t_waits) (fun o1 => if o1 = (0 : Int32) then bd (f_X8_works t_valMany t_waitMany t_vals t_waits (20 : Int32)) (fun o3 => gd (ib (0 : Int32) 410) (lt (o3.2.2 (0 : Int32).toNatClampNeg) (fun x4 => some ((1 : Int32), t_at, t_token, t_start, o3.1, o3.2.1, t_open, x4, o3.2.2, t_waits)))) else some ((0 : Int32), t_at, t_token, t_start, t_valMany, t_waitMany, t_open, t_saying, t_vals, t_waits))
def jn_X8_says_179 (t_typed : Int32) (t_text : Nat → Int32) (t_saying : Int64) (k_17 : Int32 → Int32 → Int32 → Int32 → Int32 → Int32 → (Nat → Int64) → (Nat → Int32) → Int32 → Option (Int32 × Int32 × Int32 × Int32 × Int32 × Int32 × Int32 × Int64 × (Nat → Int64) × (Nat → Int32))) (t_at : Int32) (t_token : Int32) (t_start : Int32) (t_valMany : Int32) (t_waitMany : Int32) (t_open : Int32) (t_vals : Nat → Int64) (t_waits : Nat → Int32) : Option (Int32 × Int32 × Int32 × Int32 × Int32 × Int32 × Int32 × Int64 × (Nat → Int64) × (Nat → Int32)) :=
  bd (f_X8_works t_valMany t_waitMany t_vals t_waits t_token) (fun o5 => gd (ib o5.2.1 410) (lt (o5.2.1 + (1 : Int32)) (fun x6 => bd (f_X8_scans t_typed t_at t_token t_start t_text) (fun o7 => k_17 o7.1 o7.2.1 o7.2.2 o5.1 x6 t_open o5.2.2 ((upd t_waits o5.2.1.toNatClampNeg t_token)) (1 : Int32)))))
def jn_X8_says_139 (t_typed : Int32) (t_text : Nat → Int32) (t_saying : Int64) (k_17 : Int32 → Int32 → Int32 → Int32 → Int32 → Int32 → (Nat → Int64) → (Nat → Int32) → Int32 → Option (Int32 × Int32 × Int32 × Int32 × Int32 × Int32 × Int32 × Int64 × (Nat → Int64) × (Nat → Int32))) (t_at : Int32) (t_token : Int32) (t_start : Int32) (t_valMany : Int32) (t_waitMany : Int32) (t_open : Int32) (t_vals : Nat → Int64) (t_waits : Nat → Int32) (s1 : Int32) (s2 : Int64) : Option (Int32 × Int32 × Int32 × Int32 × Int32 × Int32 × Int32 × Int64 × (Nat → Int64) × (Nat → Int32)) :=
  gd (ib s1 410) (lt (t_valMany + (1 : Int32)) (fun x8 => bd (f_X8_turns x8 t_waitMany t_open (vp_updL t_vals s1.toNatClampNeg s2) t_waits) (fun o9 => bd (f_X8_scans t_typed t_at t_token t_start t_text) (fun o10 => k_17 o10.1 o10.2.1 o10.2.2 x8 o9.1 o9.2.1 o9.2.2 t_waits (0 : Int32)))))
def jn_X8_says_39 (t_typed : Int32) (t_text : Nat → Int32) (t_saying : Int64) (k_17 : Int32 → Int32 → Int32 → Int32 → Int32 → Int32 → (Nat → Int64) → (Nat → Int32) → Int32 → Option (Int32 × Int32 × Int32 × Int32 × Int32 × Int32 × Int32 × Int64 × (Nat → Int64) × (Nat → Int32))) (t_at : Int32) (t_token : Int32) (t_start : Int32) (t_valMany : Int32) (t_waitMany : Int32) (t_open : Int32) (t_vals : Nat → Int64) (t_waits : Nat → Int32) (v1 : Int32) : Option (Int32 × Int32 × Int32 × Int32 × Int32 × Int32 × Int32 × Int64 × (Nat → Int64) × (Nat → Int32)) :=
  if t_open = (8 : Int32) then some ((0 : Int32), t_at, t_token, t_start, t_valMany, t_waitMany, t_open, t_saying, t_vals, t_waits) else lt (t_open + (1 : Int32)) (fun x12 => gd (ib t_waitMany 410) (lt (t_waitMany + (1 : Int32)) (fun x13 => bd (f_X8_scans t_typed t_at t_token t_start t_text) (fun o14 => k_17 o14.1 o14.2.1 o14.2.2 t_valMany x13 x12 t_vals ((upd t_waits t_waitMany.toNatClampNeg t_token)) v1))))
def lp_X8_says_17 (t_typed : Int32) (t_text : Nat → Int32) (t_saying : Int64) : Nat → Int32 → Int32 → Int32 → Int32 → Int32 → Int32 → (Nat → Int64) → (Nat → Int32) → Int32 → Option (Int32 × Int32 × Int32 × Int32 × Int32 × Int32 × Int32 × Int64 × (Nat → Int64) × (Nat → Int32))
  | 0, _, _, _, _, _, _, _, _, _ => none
  | n + 1, t_at, t_token, t_start, t_valMany, t_waitMany, t_open, t_vals, t_waits, v1 => if v1 = (0 : Int32) then if t_token = (21 : Int32) then jn_X8_says_179 t_typed t_text t_saying (fun t_at t_token t_start t_valMany t_waitMany t_open t_vals t_waits v1 => lp_X8_says_17 t_typed t_text t_saying n t_at t_token t_start t_valMany t_waitMany t_open t_vals t_waits v1) t_at t_token t_start t_valMany t_waitMany t_open t_vals t_waits else if t_token = (20 : Int32) then jn_X8_says_179 t_typed t_text t_saying (fun t_at t_token t_start t_valMany t_waitMany t_open t_vals t_waits v1 => lp_X8_says_17 t_typed t_text t_saying n t_at t_token t_start t_valMany t_waitMany t_open t_vals t_waits v1) t_at t_token t_start t_valMany t_waitMany t_open t_vals t_waits else if t_token = (24 : Int32) then bd (f_X8_isInner t_waitMany t_waits) (fun o19 => if o19 = (0 : Int32) then jn_X8_says_264 t_typed t_text t_at t_token t_start t_valMany t_waitMany t_open t_saying t_vals t_waits else bd (f_X8_works t_valMany t_waitMany t_vals t_waits (20 : Int32)) (fun o21 => lt (o21.2.1 - (1 : Int32)) (fun x22 => lt (t_open - (1 : Int32)) (fun x23 => bd (f_X8_turns o21.1 x22 x23 o21.2.2 t_waits) (fun o24 => bd (f_X8_scans t_typed t_at t_token t_start t_text) (fun o25 => lp_X8_says_17 t_typed t_text t_saying n o25.1 o25.2.1 o25.2.2 o21.1 o24.1 o24.2.1 o24.2.2 t_waits v1)))))) else jn_X8_says_264 t_typed t_text t_at t_token t_start t_valMany t_waitMany t_open t_saying t_vals t_waits else if t_token = (22 : Int32) then jn_X8_says_39 t_typed t_text t_saying (fun t_at t_token t_start t_valMany t_waitMany t_open t_vals t_waits v1 => lp_X8_says_17 t_typed t_text t_saying n t_at t_token t_start t_valMany t_waitMany t_open t_vals t_waits v1) t_at t_token t_start t_valMany t_waitMany t_open t_vals t_waits v1 else if t_token = (23 : Int32) then jn_X8_says_39 t_typed t_text t_saying (fun t_at t_token t_start t_valMany t_waitMany t_open t_vals t_waits v1 => lp_X8_says_17 t_typed t_text t_saying n t_at t_token t_start t_valMany t_waitMany t_open t_vals t_waits v1) t_at t_token t_start t_valMany t_waitMany t_open t_vals t_waits v1 else bd (f_X8_isOne t_token) (fun o28 => if o28 = (0 : Int32) then some ((0 : Int32), t_at, t_token, t_start, t_valMany, t_waitMany, t_open, t_saying, t_vals, t_waits) else if t_token = (17 : Int32) then jn_X8_says_139 t_typed t_text t_saying (fun t_at t_token t_start t_valMany t_waitMany t_open t_vals t_waits v1 => lp_X8_says_17 t_typed t_text t_saying n t_at t_token t_start t_valMany t_waitMany t_open t_vals t_waits v1) t_at t_token t_start t_valMany t_waitMany t_open t_vals t_waits t_valMany (0 : Int64) else if t_token = (18 : Int32) then jn_X8_says_139 t_typed t_text t_saying (fun t_at t_token t_start t_valMany t_waitMany t_open t_vals t_waits v1 => lp_X8_says_17 t_typed t_text t_saying n t_at t_token t_start t_valMany t_waitMany t_open t_vals t_waits v1) t_at t_token t_start t_valMany t_waitMany t_open t_vals t_waits t_valMany (-1 : Int64) else bd (f_X8_letter (t_token - (10 : Int32))) (fun o32 => jn_X8_says_139 t_typed t_text t_saying (fun t_at t_token t_start t_valMany t_waitMany t_open t_vals t_waits v1 => lp_X8_says_17 t_typed t_text t_saying n t_at t_token t_start t_valMany t_waitMany t_open t_vals t_waits v1) t_at t_token t_start t_valMany t_waitMany t_open t_vals t_waits t_valMany o32))
def f_X8_says (t_typed : Int32) (t_at : Int32) (t_token : Int32) (t_start : Int32) (t_valMany : Int32) (t_waitMany : Int32) (t_open : Int32) (t_saying : Int64) (t_text : Nat → Int32) (t_vals : Nat → Int64) (t_waits : Nat → Int32) : Option (Int32 × Int32 × Int32 × Int32 × Int32 × Int32 × Int32 × Int64 × (Nat → Int64) × (Nat → Int32)) :=
  lp_X8_says_17 t_typed t_text t_saying fu t_at t_token t_start (0 : Int32) (0 : Int32) (0 : Int32) t_vals t_waits (1 : Int32)
set_option maxHeartbeats 4000000 in
set_option maxRecDepth 100000 in
theorem c_X8_says (l : Launch) (G : GG) (h_t h_t_text h_t_said h_t_many h_t_grades h_t_doubts h_t_vals h_t_waits h_t_fresh h_t_freshMany : Nat) (sz : Nat) (t_trace : Int64) (t_typed : Int32) (t_when : Int64) (t_then : Int64) (t_at : Int32) (t_token : Int32) (t_start : Int32) (t_valMany : Int32) (t_waitMany : Int32) (t_open : Int32) (t_saying : Int64) (t_quarrel : Int32) (t_text : Nat → Int32) (t_vals : Nat → Int64) (t_waits : Nat → Int32)  (o : Int32 × Int32 × Int32 × Int32 × Int32 × Int32 × Int32 × Int64 × (Nat → Int64) × (Nat → Int32)) (ho : f_X8_says t_typed t_at t_token t_start t_valMany t_waitMany t_open t_saying t_text t_vals t_waits = some o)  : Met l yX8_says wsX8_says ({ frames := 3, cells := 0, slots := 0, locals := 65 } : Room) (pcA G [.ref h_t] [(h_t, .inr (8, [.long t_trace, .ref h_t_text, .int t_typed, .ref h_t_said, .ref h_t_many, .long t_when, .long t_then, .ref h_t_grades, .ref h_t_doubts, .int t_at, .int t_token, .int t_start, .ref h_t_vals, .ref h_t_waits, .int t_valMany, .int t_waitMany, .int t_open, .long t_saying, .ref h_t_fresh, .ref h_t_freshMany, .int t_quarrel])), (h_t_text, .inl (G.2.1.2.1, 400, .inl t_text)), (h_t_vals, .inl (G.2.1.2.2, 410, .inr (.inl t_vals))), (h_t_waits, .inl (G.2.1.2.1, 410, .inl t_waits))] sz) (qcI Unit G o.1 (fun _ => True) (fun _ => [(h_t, .inr (8, [.long t_trace, .ref h_t_text, .int t_typed, .ref h_t_said, .ref h_t_many, .long t_when, .long t_then, .ref h_t_grades, .ref h_t_doubts, .int o.2.1, .int o.2.2.1, .int o.2.2.2.1, .ref h_t_vals, .ref h_t_waits, .int o.2.2.2.2.1, .int o.2.2.2.2.2.1, .int o.2.2.2.2.2.2.1, .long o.2.2.2.2.2.2.2.1, .ref h_t_fresh, .ref h_t_freshMany, .int t_quarrel])), (h_t_text, .inl (G.2.1.2.1, 400, .inl t_text)), (h_t_vals, .inl (G.2.1.2.2, 410, .inr (.inl o.2.2.2.2.2.2.2.2.1))), (h_t_waits, .inl (G.2.1.2.1, 410, .inl o.2.2.2.2.2.2.2.2.2))]) (va_A [(h_t, .inr (8, [.long t_trace, .ref h_t_text, .int t_typed, .ref h_t_said, .ref h_t_many, .long t_when, .long t_then, .ref h_t_grades, .ref h_t_doubts, .int t_at, .int t_token, .int t_start, .ref h_t_vals, .ref h_t_waits, .int t_valMany, .int t_waitMany, .int t_open, .long t_saying, .ref h_t_fresh, .ref h_t_freshMany, .int t_quarrel])), (h_t_text, .inl (G.2.1.2.1, 400, .inl t_text)), (h_t_vals, .inl (G.2.1.2.2, 410, .inr (.inl t_vals))), (h_t_waits, .inl (G.2.1.2.1, 410, .inl t_waits))] sz)) 0 0 (va_A [(h_t, .inr (8, [.long t_trace, .ref h_t_text, .int t_typed, .ref h_t_said, .ref h_t_many, .long t_when, .long t_then, .ref h_t_grades, .ref h_t_doubts, .int t_at, .int t_token, .int t_start, .ref h_t_vals, .ref h_t_waits, .int t_valMany, .int t_waitMany, .int t_open, .long t_saying, .ref h_t_fresh, .ref h_t_freshMany, .int t_quarrel])), (h_t_text, .inl (G.2.1.2.1, 400, .inl t_text)), (h_t_vals, .inl (G.2.1.2.2, 410, .inr (.inl t_vals))), (h_t_waits, .inl (G.2.1.2.1, 410, .inl t_waits))] sz) := by
  refine Met.ofW (cc := cX8_says) (maxL := 2) (ret := (some .boolean)) (by decide) rfl ?_
  intro p e s m args below meth c s₁ B hml hv
  obtain ⟨rfl, hsz, hP, hg, hD0, hc⟩ := hv
  have hx := B.exec
  have hb := B.bytes
  have hr := B.returns
  have hts := atoms_spec (ws := wsX8_says) B.pre
  have hown : s.vm.findClass RX8 = some m.cls := findClass_of_methodNamed B.named
  have hlocks := B.notSynchronized
  subst hsz
  have hD := hD0.self (sz := s.heap.size)
  generalize hAe : va_A [(h_t, .inr (8, [.long t_trace, .ref h_t_text, .int t_typed, .ref h_t_said, .ref h_t_many, .long t_when, .long t_then, .ref h_t_grades, .ref h_t_doubts, .int t_at, .int t_token, .int t_start, .ref h_t_vals, .ref h_t_waits, .int t_valMany, .int t_waitMany, .int t_open, .long t_saying, .ref h_t_fresh, .ref h_t_freshMany, .int t_quarrel])), (h_t_text, .inl (G.2.1.2.1, 400, .inl t_text)), (h_t_vals, .inl (G.2.1.2.2, 410, .inr (.inl t_vals))), (h_t_waits, .inl (G.2.1.2.1, 410, .inl t_waits))] s.heap.size = A at hD hc ⊢
  have hA : ∀ q : Nat, s.heap.size ≤ q → A q := fun q h => by rw [← hAe]; exact Or.inr h
  have hiX8 : ∀ w ∈ wsX80, w ∈ wsX8_says := by decide +kernel
  have hl := lv_entry ([.ref h_t]) (n := 2) (Nat.le_of_ble_eq_true rfl)
  rw [lg_entry_eq]
  generalize (lg_sl ([.ref h_t]) ++ List.replicate (2 - (lg_sl ([.ref h_t])).length) Slot.unset).toArray = ls at hl ⊢
  have hl : lv_has ls 2 [(0, .ref h_t)] := hl
  have hf := ho
  have hw_264 : ∀ (t_at : Int32) (t_token : Int32) (t_start : Int32) (t_valMany : Int32) (t_waitMany : Int32) (t_open : Int32) (t_saying : Int64) (t_vals : Nat → Int64) (t_waits : Nat → Int32), jn_X8_says_264 t_typed t_text t_at t_token t_start t_valMany t_waitMany t_open t_saying t_vals t_waits = some o → ∀ (H : Heap) (locs : List Loc), va_P G.1 vwCl [(h_t, .inr (8, [.long t_trace, .ref h_t_text, .int t_typed, .ref h_t_said, .ref h_t_many, .long t_when, .long t_then, .ref h_t_grades, .ref h_t_doubts, .int t_at, .int t_token, .int t_start, .ref h_t_vals, .ref h_t_waits, .int t_valMany, .int t_waitMany, .int t_open, .long t_saying, .ref h_t_fresh, .ref h_t_freshMany, .int t_quarrel])), (h_t_text, .inl (G.2.1.2.1, 400, .inl t_text)), (h_t_vals, .inl (G.2.1.2.2, 410, .inr (.inl t_vals))), (h_t_waits, .inl (G.2.1.2.1, 410, .inl t_waits))] H → va_D A [(h_t, .inr (8, [.long t_trace, .ref h_t_text, .int t_typed, .ref h_t_said, .ref h_t_many, .long t_when, .long t_then, .ref h_t_grades, .ref h_t_doubts, .int t_at, .int t_token, .int t_start, .ref h_t_vals, .ref h_t_waits, .int t_valMany, .int t_waitMany, .int t_open, .long t_saying, .ref h_t_fresh, .ref h_t_freshMany, .int t_quarrel])), (h_t_text, .inl (G.2.1.2.1, 400, .inl t_text)), (h_t_vals, .inl (G.2.1.2.2, 410, .inr (.inl t_vals))), (h_t_waits, .inl (G.2.1.2.1, 410, .inl t_waits))] → va_S A s.heap H locs → ∀ (ls : Array Slot), lv_has ls 2 [(0, .ref h_t)] → W p l e (headSpec wsX8_says ({ frames := 3, cells := 0, slots := 0, locals := 65 } : Room)).room s m ([.ref h_t] : List Value).toArray below meth c H locs 0 0 (MQ below (qcI Unit G o.1 (fun _ => True) (fun _ => [(h_t, .inr (8, [.long t_trace, .ref h_t_text, .int t_typed, .ref h_t_said, .ref h_t_many, .long t_when, .long t_then, .ref h_t_grades, .ref h_t_doubts, .int o.2.1, .int o.2.2.1, .int o.2.2.2.1, .ref h_t_vals, .ref h_t_waits, .int o.2.2.2.2.1, .int o.2.2.2.2.2.1, .int o.2.2.2.2.2.2.1, .long o.2.2.2.2.2.2.2.1, .ref h_t_fresh, .ref h_t_freshMany, .int t_quarrel])), (h_t_text, .inl (G.2.1.2.1, 400, .inl t_text)), (h_t_vals, .inl (G.2.1.2.2, 410, .inr (.inl o.2.2.2.2.2.2.2.2.1))), (h_t_waits, .inl (G.2.1.2.1, 410, .inl o.2.2.2.2.2.2.2.2.2))]) A) ([.ref h_t] : List Value).toArray s 0 0 A) (F0 m 264 ls []) := by
    intro t_at t_token t_start t_valMany t_waitMany t_open t_saying t_vals t_waits hf H locs hP hD hS ls hl
    unfold jn_X8_says_264 at hf
    refine lv_aload_n hx hb dX8_says_264 rfl (lv_at hl 0 rfl) ?_
    obtain ⟨o1, ho1, hf⟩ := bd_e hf
    refine af_i (wr := [(h_t_text, .inl (G.2.1.2.1, 400, .inl t_text)), (h_t_vals, .inl (G.2.1.2.2, 410, .inr (.inl t_vals)))]) (va_runV (As := []) (rest := []) ⟨hx, hb, hml, hown, hts⟩ (c_X8_isInner l G h_t h_t_text h_t_said h_t_many h_t_grades h_t_doubts h_t_vals h_t_waits h_t_fresh h_t_freshMany H.size t_trace t_typed t_when t_then t_at t_token t_start t_valMany t_waitMany t_open t_saying t_quarrel t_waits o1 ho1) (cwV 0 hts gX8_says_X8_isInner rfl rfl rfl (by decide +kernel) ⟨Nat.le_of_ble_eq_true rfl, Nat.le_of_ble_eq_true rfl⟩) (pcA_preV hg hc hP hD hS hA [0, 3] rfl (by decide) (q0 := 0) (ci := 8) rfl rfl rfl) rfl rfl hl.1 rfl (lv_room (Nat.le_of_ble_eq_true rfl)) dX8_says_265 ⟨Nat.zero_le _, Nat.zero_le _⟩) hP hD hS hA [0, 3] [1, 2] rfl rfl (by decide) (by decide) (fun _ H locs _ hP hD hS => ?_)
    have hP : va_P G.1 vwCl [(h_t, .inr (8, [.long t_trace, .ref h_t_text, .int t_typed, .ref h_t_said, .ref h_t_many, .long t_when, .long t_then, .ref h_t_grades, .ref h_t_doubts, .int t_at, .int t_token, .int t_start, .ref h_t_vals, .ref h_t_waits, .int t_valMany, .int t_waitMany, .int t_open, .long t_saying, .ref h_t_fresh, .ref h_t_freshMany, .int t_quarrel])), (h_t_text, .inl (G.2.1.2.1, 400, .inl t_text)), (h_t_vals, .inl (G.2.1.2.2, 410, .inr (.inl t_vals))), (h_t_waits, .inl (G.2.1.2.1, 410, .inl t_waits))] H := hP.sub [2, 0, 1, 3] rfl
    have hD : va_D A [(h_t, .inr (8, [.long t_trace, .ref h_t_text, .int t_typed, .ref h_t_said, .ref h_t_many, .long t_when, .long t_then, .ref h_t_grades, .ref h_t_doubts, .int t_at, .int t_token, .int t_start, .ref h_t_vals, .ref h_t_waits, .int t_valMany, .int t_waitMany, .int t_open, .long t_saying, .ref h_t_fresh, .ref h_t_freshMany, .int t_quarrel])), (h_t_text, .inl (G.2.1.2.1, 400, .inl t_text)), (h_t_vals, .inl (G.2.1.2.2, 410, .inr (.inl t_vals))), (h_t_waits, .inl (G.2.1.2.1, 410, .inl t_waits))] := hD.sub [2, 0, 1, 3] (by decide) rfl
    refine lv_if_eq (tgt := 273) hx hb dX8_says_268 (by decide) (fun c2 => ?_) (fun c2 => ?_)
    · have hf := it_t c2 hf
      refine lv_aload_n hx hb dX8_says_273 rfl (lv_at hl 0 rfl) ?_
      refine lv_bipush (v := (20 : Int32)) hx hb dX8_says_274 (by decide) ?_
      obtain ⟨o3, ho3, hf⟩ := bd_e hf
      refine af_v (wr := [(h_t_text, .inl (G.2.1.2.1, 400, .inl t_text))]) (va_runV (As := [.int (20 : Int32)]) (rest := []) ⟨hx, hb, hml, hown, hts⟩ (c_X8_works l G h_t h_t_text h_t_said h_t_many h_t_grades h_t_doubts h_t_vals h_t_waits h_t_fresh h_t_freshMany H.size t_trace t_typed t_when t_then t_at t_token t_start t_valMany t_waitMany t_open t_saying t_quarrel t_vals t_waits (20 : Int32) o3 ho3) (cwV 1 hts gX8_says_X8_works rfl rfl rfl (by decide +kernel) ⟨Nat.le_of_ble_eq_true rfl, Nat.le_of_ble_eq_true rfl⟩) (pcA_preV hg hc hP hD hS hA [0, 2, 3] rfl (by decide) (q0 := 0) (ci := 8) rfl rfl rfl) rfl rfl hl.1 rfl (lv_room (Nat.le_of_ble_eq_true rfl)) dX8_says_276 ⟨Nat.zero_le _, Nat.zero_le _⟩) hP hD hS hA [0, 2, 3] [1] rfl rfl (by decide) (by decide) (fun _ H locs _ hP hD hS => ?_)
      have hP : va_P G.1 vwCl [(h_t, .inr (8, [.long t_trace, .ref h_t_text, .int t_typed, .ref h_t_said, .ref h_t_many, .long t_when, .long t_then, .ref h_t_grades, .ref h_t_doubts, .int t_at, .int t_token, .int t_start, .ref h_t_vals, .ref h_t_waits, .int o3.1, .int o3.2.1, .int t_open, .long t_saying, .ref h_t_fresh, .ref h_t_freshMany, .int t_quarrel])), (h_t_text, .inl (G.2.1.2.1, 400, .inl t_text)), (h_t_vals, .inl (G.2.1.2.2, 410, .inr (.inl o3.2.2))), (h_t_waits, .inl (G.2.1.2.1, 410, .inl t_waits))] H := hP.sub [1, 0, 2, 3] rfl
      have hD : va_D A [(h_t, .inr (8, [.long t_trace, .ref h_t_text, .int t_typed, .ref h_t_said, .ref h_t_many, .long t_when, .long t_then, .ref h_t_grades, .ref h_t_doubts, .int t_at, .int t_token, .int t_start, .ref h_t_vals, .ref h_t_waits, .int o3.1, .int o3.2.1, .int t_open, .long t_saying, .ref h_t_fresh, .ref h_t_freshMany, .int t_quarrel])), (h_t_text, .inl (G.2.1.2.1, 400, .inl t_text)), (h_t_vals, .inl (G.2.1.2.2, 410, .inr (.inl o3.2.2))), (h_t_waits, .inl (G.2.1.2.1, 410, .inl t_waits))] := hD.sub [1, 0, 2, 3] (by decide) rfl
      refine lv_aload_n hx hb dX8_says_279 rfl (lv_at hl 0 rfl) ?_
      refine lv_aload_n hx hb dX8_says_280 rfl (lv_at hl 0 rfl) ?_
      refine va_get (D := G.1) (ci := 8) (v := .ref h_t_vals) (C := RX8) (T := TX8) (N := 21) hx hb hts hiX8 hown hg.1 hP 0 rfl rfl 12 (by decide) (hts (.fieldLink RX8 26 "AsARuleModel" "vals" "[J") (by decide +kernel)) (fun _ h9 => h9) rfl dX8_says_281 ?_
      refine lv_iconst (v := (0 : Int32)) hx hb dX8_says_284 (by decide) ?_
      refine va_lald hx hb hg.1 hP 2 2 rfl rfl (ib_in (gd_t hf)) dX8_says_285 ?_
      have hf := gd_x hf
      refine lv_topl (fun x4 ex4 => ?_)
      have hf := lt_n hf x4 ex4
      refine va_put (D := G.1) (ci := 8) (v := .long x4) (ty := .long) (C := RX8) (T := TX8) (N := 21) hx hb hts hiX8 tyX8 tyX8_ok nmX8 hown hg.1 hP hD hS 0 rfl rfl 17 (by decide) (hts (.fieldLink RX8 134 "AsARuleModel" "saying" "J") (by decide +kernel)) (fun _ h9 => h9) rfl (by decide +kernel) rfl rfl (Nat.le_of_ble_eq_true rfl) dX8_says_286 (fun H locs hP hD hS => ?_)
      have hP : va_P G.1 vwCl [(h_t, .inr (8, [.long t_trace, .ref h_t_text, .int t_typed, .ref h_t_said, .ref h_t_many, .long t_when, .long t_then, .ref h_t_grades, .ref h_t_doubts, .int t_at, .int t_token, .int t_start, .ref h_t_vals, .ref h_t_waits, .int o3.1, .int o3.2.1, .int t_open, .long x4, .ref h_t_fresh, .ref h_t_freshMany, .int t_quarrel])), (h_t_text, .inl (G.2.1.2.1, 400, .inl t_text)), (h_t_vals, .inl (G.2.1.2.2, 410, .inr (.inl o3.2.2))), (h_t_waits, .inl (G.2.1.2.1, 410, .inl t_waits))] H := hP
      have hD : va_D A [(h_t, .inr (8, [.long t_trace, .ref h_t_text, .int t_typed, .ref h_t_said, .ref h_t_many, .long t_when, .long t_then, .ref h_t_grades, .ref h_t_doubts, .int t_at, .int t_token, .int t_start, .ref h_t_vals, .ref h_t_waits, .int o3.1, .int o3.2.1, .int t_open, .long x4, .ref h_t_fresh, .ref h_t_freshMany, .int t_quarrel])), (h_t_text, .inl (G.2.1.2.1, 400, .inl t_text)), (h_t_vals, .inl (G.2.1.2.2, 410, .inr (.inl o3.2.2))), (h_t_waits, .inl (G.2.1.2.1, 410, .inl t_waits))] := hD
      refine lv_iconst (v := (1 : Int32)) hx hb dX8_says_289 (by decide) ?_
      rw [← Option.some.inj hf]
      exact rt_z (u := ()) hx hb hr zb_1 hlocks hP hD trivial hS dX8_says_290
    · have hf := it_f c2 hf
      refine lv_iconst (v := (0 : Int32)) hx hb dX8_says_271 (by decide) ?_
      rw [← Option.some.inj hf]
      exact rt_z (u := ()) hx hb hr zb_0 hlocks hP hD trivial hS dX8_says_272
  have hw_179 : ∀ (t_saying : Int64) (k_17 : Int32 → Int32 → Int32 → Int32 → Int32 → Int32 → (Nat → Int64) → (Nat → Int32) → Int32 → Option (Int32 × Int32 × Int32 × Int32 × Int32 × Int32 × Int32 × Int64 × (Nat → Int64) × (Nat → Int32))) (hk_17 : ∀ (t_at : Int32) (t_token : Int32) (t_start : Int32) (t_valMany : Int32) (t_waitMany : Int32) (t_open : Int32) (t_vals : Nat → Int64) (t_waits : Nat → Int32) (v1 : Int32), k_17 t_at t_token t_start t_valMany t_waitMany t_open t_vals t_waits v1 = some o → ∀ (H : Heap) (locs : List Loc), va_P G.1 vwCl [(h_t, .inr (8, [.long t_trace, .ref h_t_text, .int t_typed, .ref h_t_said, .ref h_t_many, .long t_when, .long t_then, .ref h_t_grades, .ref h_t_doubts, .int t_at, .int t_token, .int t_start, .ref h_t_vals, .ref h_t_waits, .int t_valMany, .int t_waitMany, .int t_open, .long t_saying, .ref h_t_fresh, .ref h_t_freshMany, .int t_quarrel])), (h_t_text, .inl (G.2.1.2.1, 400, .inl t_text)), (h_t_vals, .inl (G.2.1.2.2, 410, .inr (.inl t_vals))), (h_t_waits, .inl (G.2.1.2.1, 410, .inl t_waits))] H → va_D A [(h_t, .inr (8, [.long t_trace, .ref h_t_text, .int t_typed, .ref h_t_said, .ref h_t_many, .long t_when, .long t_then, .ref h_t_grades, .ref h_t_doubts, .int t_at, .int t_token, .int t_start, .ref h_t_vals, .ref h_t_waits, .int t_valMany, .int t_waitMany, .int t_open, .long t_saying, .ref h_t_fresh, .ref h_t_freshMany, .int t_quarrel])), (h_t_text, .inl (G.2.1.2.1, 400, .inl t_text)), (h_t_vals, .inl (G.2.1.2.2, 410, .inr (.inl t_vals))), (h_t_waits, .inl (G.2.1.2.1, 410, .inl t_waits))] → va_S A s.heap H locs → ∀ (ls : Array Slot), lv_has ls 2 [(0, .ref h_t), (1, .int v1)] → W p l e (headSpec wsX8_says ({ frames := 3, cells := 0, slots := 0, locals := 65 } : Room)).room s m ([.ref h_t] : List Value).toArray below meth c H locs 0 0 (MQ below (qcI Unit G o.1 (fun _ => True) (fun _ => [(h_t, .inr (8, [.long t_trace, .ref h_t_text, .int t_typed, .ref h_t_said, .ref h_t_many, .long t_when, .long t_then, .ref h_t_grades, .ref h_t_doubts, .int o.2.1, .int o.2.2.1, .int o.2.2.2.1, .ref h_t_vals, .ref h_t_waits, .int o.2.2.2.2.1, .int o.2.2.2.2.2.1, .int o.2.2.2.2.2.2.1, .long o.2.2.2.2.2.2.2.1, .ref h_t_fresh, .ref h_t_freshMany, .int t_quarrel])), (h_t_text, .inl (G.2.1.2.1, 400, .inl t_text)), (h_t_vals, .inl (G.2.1.2.2, 410, .inr (.inl o.2.2.2.2.2.2.2.2.1))), (h_t_waits, .inl (G.2.1.2.1, 410, .inl o.2.2.2.2.2.2.2.2.2))]) A) ([.ref h_t] : List Value).toArray s 0 0 A) (F0 m 17 ls [])) (t_at : Int32) (t_token : Int32) (t_start : Int32) (t_valMany : Int32) (t_waitMany : Int32) (t_open : Int32) (t_vals : Nat → Int64) (t_waits : Nat → Int32), jn_X8_says_179 t_typed t_text t_saying k_17 t_at t_token t_start t_valMany t_waitMany t_open t_vals t_waits = some o → ∀ (H : Heap) (locs : List Loc), va_P G.1 vwCl [(h_t, .inr (8, [.long t_trace, .ref h_t_text, .int t_typed, .ref h_t_said, .ref h_t_many, .long t_when, .long t_then, .ref h_t_grades, .ref h_t_doubts, .int t_at, .int t_token, .int t_start, .ref h_t_vals, .ref h_t_waits, .int t_valMany, .int t_waitMany, .int t_open, .long t_saying, .ref h_t_fresh, .ref h_t_freshMany, .int t_quarrel])), (h_t_text, .inl (G.2.1.2.1, 400, .inl t_text)), (h_t_vals, .inl (G.2.1.2.2, 410, .inr (.inl t_vals))), (h_t_waits, .inl (G.2.1.2.1, 410, .inl t_waits))] H → va_D A [(h_t, .inr (8, [.long t_trace, .ref h_t_text, .int t_typed, .ref h_t_said, .ref h_t_many, .long t_when, .long t_then, .ref h_t_grades, .ref h_t_doubts, .int t_at, .int t_token, .int t_start, .ref h_t_vals, .ref h_t_waits, .int t_valMany, .int t_waitMany, .int t_open, .long t_saying, .ref h_t_fresh, .ref h_t_freshMany, .int t_quarrel])), (h_t_text, .inl (G.2.1.2.1, 400, .inl t_text)), (h_t_vals, .inl (G.2.1.2.2, 410, .inr (.inl t_vals))), (h_t_waits, .inl (G.2.1.2.1, 410, .inl t_waits))] → va_S A s.heap H locs → ∀ (ls : Array Slot), lv_has ls 2 [(0, .ref h_t)] → W p l e (headSpec wsX8_says ({ frames := 3, cells := 0, slots := 0, locals := 65 } : Room)).room s m ([.ref h_t] : List Value).toArray below meth c H locs 0 0 (MQ below (qcI Unit G o.1 (fun _ => True) (fun _ => [(h_t, .inr (8, [.long t_trace, .ref h_t_text, .int t_typed, .ref h_t_said, .ref h_t_many, .long t_when, .long t_then, .ref h_t_grades, .ref h_t_doubts, .int o.2.1, .int o.2.2.1, .int o.2.2.2.1, .ref h_t_vals, .ref h_t_waits, .int o.2.2.2.2.1, .int o.2.2.2.2.2.1, .int o.2.2.2.2.2.2.1, .long o.2.2.2.2.2.2.2.1, .ref h_t_fresh, .ref h_t_freshMany, .int t_quarrel])), (h_t_text, .inl (G.2.1.2.1, 400, .inl t_text)), (h_t_vals, .inl (G.2.1.2.2, 410, .inr (.inl o.2.2.2.2.2.2.2.2.1))), (h_t_waits, .inl (G.2.1.2.1, 410, .inl o.2.2.2.2.2.2.2.2.2))]) A) ([.ref h_t] : List Value).toArray s 0 0 A) (F0 m 179 ls []) := by
    intro t_saying k_17 hk_17 t_at t_token t_start t_valMany t_waitMany t_open t_vals t_waits hf H locs hP hD hS ls hl
    unfold jn_X8_says_179 at hf
    refine lv_aload_n hx hb dX8_says_179 rfl (lv_at hl 0 rfl) ?_
    refine lv_aload_n hx hb dX8_says_180 rfl (lv_at hl 0 rfl) ?_
    refine va_get (D := G.1) (ci := 8) (v := .int t_token) (C := RX8) (T := TX8) (N := 21) hx hb hts hiX8 hown hg.1 hP 0 rfl rfl 10 (by decide) (hts (.fieldLink RX8 89 "AsARuleModel" "token" "I") (by decide +kernel)) (fun _ h9 => h9) rfl dX8_says_181 ?_
    obtain ⟨o5, ho5, hf⟩ := bd_e hf
    refine af_v (wr := [(h_t_text, .inl (G.2.1.2.1, 400, .inl t_text))]) (va_runV (As := [.int t_token]) (rest := []) ⟨hx, hb, hml, hown, hts⟩ (c_X8_works l G h_t h_t_text h_t_said h_t_many h_t_grades h_t_doubts h_t_vals h_t_waits h_t_fresh h_t_freshMany H.size t_trace t_typed t_when t_then t_at t_token t_start t_valMany t_waitMany t_open t_saying t_quarrel t_vals t_waits t_token o5 ho5) (cwV 1 hts gX8_says_X8_works rfl rfl rfl (by decide +kernel) ⟨Nat.le_of_ble_eq_true rfl, Nat.le_of_ble_eq_true rfl⟩) (pcA_preV hg hc hP hD hS hA [0, 2, 3] rfl (by decide) (q0 := 0) (ci := 8) rfl rfl rfl) rfl rfl hl.1 rfl (lv_room (Nat.le_of_ble_eq_true rfl)) dX8_says_184 ⟨Nat.zero_le _, Nat.zero_le _⟩) hP hD hS hA [0, 2, 3] [1] rfl rfl (by decide) (by decide) (fun _ H locs _ hP hD hS => ?_)
    have hP : va_P G.1 vwCl [(h_t, .inr (8, [.long t_trace, .ref h_t_text, .int t_typed, .ref h_t_said, .ref h_t_many, .long t_when, .long t_then, .ref h_t_grades, .ref h_t_doubts, .int t_at, .int t_token, .int t_start, .ref h_t_vals, .ref h_t_waits, .int o5.1, .int o5.2.1, .int t_open, .long t_saying, .ref h_t_fresh, .ref h_t_freshMany, .int t_quarrel])), (h_t_text, .inl (G.2.1.2.1, 400, .inl t_text)), (h_t_vals, .inl (G.2.1.2.2, 410, .inr (.inl o5.2.2))), (h_t_waits, .inl (G.2.1.2.1, 410, .inl t_waits))] H := hP.sub [1, 0, 2, 3] rfl
    have hD : va_D A [(h_t, .inr (8, [.long t_trace, .ref h_t_text, .int t_typed, .ref h_t_said, .ref h_t_many, .long t_when, .long t_then, .ref h_t_grades, .ref h_t_doubts, .int t_at, .int t_token, .int t_start, .ref h_t_vals, .ref h_t_waits, .int o5.1, .int o5.2.1, .int t_open, .long t_saying, .ref h_t_fresh, .ref h_t_freshMany, .int t_quarrel])), (h_t_text, .inl (G.2.1.2.1, 400, .inl t_text)), (h_t_vals, .inl (G.2.1.2.2, 410, .inr (.inl o5.2.2))), (h_t_waits, .inl (G.2.1.2.1, 410, .inl t_waits))] := hD.sub [1, 0, 2, 3] (by decide) rfl
    refine lv_aload_n hx hb dX8_says_187 rfl (lv_at hl 0 rfl) ?_
    refine va_get (D := G.1) (ci := 8) (v := .ref h_t_waits) (C := RX8) (T := TX8) (N := 21) hx hb hts hiX8 hown hg.1 hP 0 rfl rfl 13 (by decide) (hts (.fieldLink RX8 29 "AsARuleModel" "waits" "[I") (by decide +kernel)) (fun _ h9 => h9) rfl dX8_says_188 ?_
    refine lv_aload_n hx hb dX8_says_191 rfl (lv_at hl 0 rfl) ?_
    refine va_get (D := G.1) (ci := 8) (v := .int o5.2.1) (C := RX8) (T := TX8) (N := 21) hx hb hts hiX8 hown hg.1 hP 0 rfl rfl 15 (by decide) (hts (.fieldLink RX8 103 "AsARuleModel" "waitMany" "I") (by decide +kernel)) (fun _ h9 => h9) rfl dX8_says_192 ?_
    refine lv_aload_n hx hb dX8_says_195 rfl (lv_at hl 0 rfl) ?_
    refine va_get (D := G.1) (ci := 8) (v := .int t_token) (C := RX8) (T := TX8) (N := 21) hx hb hts hiX8 hown hg.1 hP 0 rfl rfl 10 (by decide) (hts (.fieldLink RX8 89 "AsARuleModel" "token" "I") (by decide +kernel)) (fun _ h9 => h9) rfl dX8_says_196 ?_
    refine va_iast hx hb hg.1 hP hD hS 3 1 rfl rfl (ib_in (gd_t hf)) dX8_says_199 (fun H locs hP hD hS => ?_)
    have hf := gd_x hf
    have hP : va_P G.1 vwCl [(h_t, .inr (8, [.long t_trace, .ref h_t_text, .int t_typed, .ref h_t_said, .ref h_t_many, .long t_when, .long t_then, .ref h_t_grades, .ref h_t_doubts, .int t_at, .int t_token, .int t_start, .ref h_t_vals, .ref h_t_waits, .int o5.1, .int o5.2.1, .int t_open, .long t_saying, .ref h_t_fresh, .ref h_t_freshMany, .int t_quarrel])), (h_t_text, .inl (G.2.1.2.1, 400, .inl t_text)), (h_t_vals, .inl (G.2.1.2.2, 410, .inr (.inl o5.2.2))), (h_t_waits, .inl (G.2.1.2.1, 410, .inl (upd t_waits o5.2.1.toNatClampNeg t_token)))] H := hP
    have hD : va_D A [(h_t, .inr (8, [.long t_trace, .ref h_t_text, .int t_typed, .ref h_t_said, .ref h_t_many, .long t_when, .long t_then, .ref h_t_grades, .ref h_t_doubts, .int t_at, .int t_token, .int t_start, .ref h_t_vals, .ref h_t_waits, .int o5.1, .int o5.2.1, .int t_open, .long t_saying, .ref h_t_fresh, .ref h_t_freshMany, .int t_quarrel])), (h_t_text, .inl (G.2.1.2.1, 400, .inl t_text)), (h_t_vals, .inl (G.2.1.2.2, 410, .inr (.inl o5.2.2))), (h_t_waits, .inl (G.2.1.2.1, 410, .inl (upd t_waits o5.2.1.toNatClampNeg t_token)))] := hD
    refine lv_aload_n hx hb dX8_says_200 rfl (lv_at hl 0 rfl) ?_
    refine lv_dup hx hb dX8_says_201 rfl ?_
    refine va_get (D := G.1) (ci := 8) (v := .int o5.2.1) (C := RX8) (T := TX8) (N := 21) hx hb hts hiX8 hown hg.1 hP 0 rfl rfl 15 (by decide) (hts (.fieldLink RX8 103 "AsARuleModel" "waitMany" "I") (by decide +kernel)) (fun _ h9 => h9) rfl dX8_says_202 ?_
    refine lv_iconst (v := (1 : Int32)) hx hb dX8_says_205 (by decide) ?_
    refine lv_iadd hx hb dX8_says_206 ?_
    refine lv_topi (fun x6 ex6 => ?_)
    have hf := lt_n hf x6 ex6
    refine va_put (D := G.1) (ci := 8) (v := .int x6) (ty := .int) (C := RX8) (T := TX8) (N := 21) hx hb hts hiX8 tyX8 tyX8_ok nmX8 hown hg.1 hP hD hS 0 rfl rfl 15 (by decide) (hts (.fieldLink RX8 103 "AsARuleModel" "waitMany" "I") (by decide +kernel)) (fun _ h9 => h9) rfl (by decide +kernel) rfl rfl (Nat.le_of_ble_eq_true rfl) dX8_says_207 (fun H locs hP hD hS => ?_)
    have hP : va_P G.1 vwCl [(h_t, .inr (8, [.long t_trace, .ref h_t_text, .int t_typed, .ref h_t_said, .ref h_t_many, .long t_when, .long t_then, .ref h_t_grades, .ref h_t_doubts, .int t_at, .int t_token, .int t_start, .ref h_t_vals, .ref h_t_waits, .int o5.1, .int x6, .int t_open, .long t_saying, .ref h_t_fresh, .ref h_t_freshMany, .int t_quarrel])), (h_t_text, .inl (G.2.1.2.1, 400, .inl t_text)), (h_t_vals, .inl (G.2.1.2.2, 410, .inr (.inl o5.2.2))), (h_t_waits, .inl (G.2.1.2.1, 410, .inl (upd t_waits o5.2.1.toNatClampNeg t_token)))] H := hP
    have hD : va_D A [(h_t, .inr (8, [.long t_trace, .ref h_t_text, .int t_typed, .ref h_t_said, .ref h_t_many, .long t_when, .long t_then, .ref h_t_grades, .ref h_t_doubts, .int t_at, .int t_token, .int t_start, .ref h_t_vals, .ref h_t_waits, .int o5.1, .int x6, .int t_open, .long t_saying, .ref h_t_fresh, .ref h_t_freshMany, .int t_quarrel])), (h_t_text, .inl (G.2.1.2.1, 400, .inl t_text)), (h_t_vals, .inl (G.2.1.2.2, 410, .inr (.inl o5.2.2))), (h_t_waits, .inl (G.2.1.2.1, 410, .inl (upd t_waits o5.2.1.toNatClampNeg t_token)))] := hD
    refine lv_iconst (v := (1 : Int32)) hx hb dX8_says_210 (by decide) ?_
    refine lv_istore_n (lv' := [(1, .int (1 : Int32)), (0, .ref h_t)]) hx hb dX8_says_211 rfl hl (by decide) rfl (fun ls hl => ?_)
    refine lv_goto (tgt := 291) hx hb dX8_says_212 (by decide) ?_
    refine lv_aload_n hx hb dX8_says_291 rfl (lv_at hl 1 rfl) ?_
    obtain ⟨o7, ho7, hf⟩ := bd_e hf
    refine af_v (wr := [(h_t_vals, .inl (G.2.1.2.2, 410, .inr (.inl o5.2.2))), (h_t_waits, .inl (G.2.1.2.1, 410, .inl (upd t_waits o5.2.1.toNatClampNeg t_token)))]) (va_runV (As := []) (rest := []) ⟨hx, hb, hml, hown, hts⟩ (c_X8_scans l G h_t h_t_text h_t_said h_t_many h_t_grades h_t_doubts h_t_vals h_t_waits h_t_fresh h_t_freshMany H.size t_trace t_typed t_when t_then t_at t_token t_start o5.1 x6 t_open t_saying t_quarrel t_text o7 ho7) (cwV 0 hts gX8_says_X8_scans rfl rfl rfl (by decide +kernel) ⟨Nat.le_of_ble_eq_true rfl, Nat.le_of_ble_eq_true rfl⟩) (pcA_preV hg hc hP hD hS hA [0, 1] rfl (by decide) (q0 := 0) (ci := 8) rfl rfl rfl) rfl rfl hl.1 rfl (lv_room (Nat.le_of_ble_eq_true rfl)) dX8_says_292 ⟨Nat.zero_le _, Nat.zero_le _⟩) hP hD hS hA [0, 1] [2, 3] rfl rfl (by decide) (by decide) (fun _ H locs _ hP hD hS => ?_)
    have hP : va_P G.1 vwCl [(h_t, .inr (8, [.long t_trace, .ref h_t_text, .int t_typed, .ref h_t_said, .ref h_t_many, .long t_when, .long t_then, .ref h_t_grades, .ref h_t_doubts, .int o7.1, .int o7.2.1, .int o7.2.2, .ref h_t_vals, .ref h_t_waits, .int o5.1, .int x6, .int t_open, .long t_saying, .ref h_t_fresh, .ref h_t_freshMany, .int t_quarrel])), (h_t_text, .inl (G.2.1.2.1, 400, .inl t_text)), (h_t_vals, .inl (G.2.1.2.2, 410, .inr (.inl o5.2.2))), (h_t_waits, .inl (G.2.1.2.1, 410, .inl (upd t_waits o5.2.1.toNatClampNeg t_token)))] H := hP.sub [2, 3, 0, 1] rfl
    have hD : va_D A [(h_t, .inr (8, [.long t_trace, .ref h_t_text, .int t_typed, .ref h_t_said, .ref h_t_many, .long t_when, .long t_then, .ref h_t_grades, .ref h_t_doubts, .int o7.1, .int o7.2.1, .int o7.2.2, .ref h_t_vals, .ref h_t_waits, .int o5.1, .int x6, .int t_open, .long t_saying, .ref h_t_fresh, .ref h_t_freshMany, .int t_quarrel])), (h_t_text, .inl (G.2.1.2.1, 400, .inl t_text)), (h_t_vals, .inl (G.2.1.2.2, 410, .inr (.inl o5.2.2))), (h_t_waits, .inl (G.2.1.2.1, 410, .inl (upd t_waits o5.2.1.toNatClampNeg t_token)))] := hD.sub [2, 3, 0, 1] (by decide) rfl
    refine lv_goto (tgt := 17) hx hb dX8_says_295 (by decide) ?_
    exact hk_17 o7.1 o7.2.1 o7.2.2 o5.1 x6 t_open o5.2.2 ((upd t_waits o5.2.1.toNatClampNeg t_token)) (1 : Int32) hf _ _ hP hD hS _ (lv_sub hl [1, 0] rfl)
  have hw_139 : ∀ (t_saying : Int64) (k_17 : Int32 → Int32 → Int32 → Int32 → Int32 → Int32 → (Nat → Int64) → (Nat → Int32) → Int32 → Option (Int32 × Int32 × Int32 × Int32 × Int32 × Int32 × Int32 × Int64 × (Nat → Int64) × (Nat → Int32))) (hk_17 : ∀ (t_at : Int32) (t_token : Int32) (t_start : Int32) (t_valMany : Int32) (t_waitMany : Int32) (t_open : Int32) (t_vals : Nat → Int64) (t_waits : Nat → Int32) (v1 : Int32), k_17 t_at t_token t_start t_valMany t_waitMany t_open t_vals t_waits v1 = some o → ∀ (H : Heap) (locs : List Loc), va_P G.1 vwCl [(h_t, .inr (8, [.long t_trace, .ref h_t_text, .int t_typed, .ref h_t_said, .ref h_t_many, .long t_when, .long t_then, .ref h_t_grades, .ref h_t_doubts, .int t_at, .int t_token, .int t_start, .ref h_t_vals, .ref h_t_waits, .int t_valMany, .int t_waitMany, .int t_open, .long t_saying, .ref h_t_fresh, .ref h_t_freshMany, .int t_quarrel])), (h_t_text, .inl (G.2.1.2.1, 400, .inl t_text)), (h_t_vals, .inl (G.2.1.2.2, 410, .inr (.inl t_vals))), (h_t_waits, .inl (G.2.1.2.1, 410, .inl t_waits))] H → va_D A [(h_t, .inr (8, [.long t_trace, .ref h_t_text, .int t_typed, .ref h_t_said, .ref h_t_many, .long t_when, .long t_then, .ref h_t_grades, .ref h_t_doubts, .int t_at, .int t_token, .int t_start, .ref h_t_vals, .ref h_t_waits, .int t_valMany, .int t_waitMany, .int t_open, .long t_saying, .ref h_t_fresh, .ref h_t_freshMany, .int t_quarrel])), (h_t_text, .inl (G.2.1.2.1, 400, .inl t_text)), (h_t_vals, .inl (G.2.1.2.2, 410, .inr (.inl t_vals))), (h_t_waits, .inl (G.2.1.2.1, 410, .inl t_waits))] → va_S A s.heap H locs → ∀ (ls : Array Slot), lv_has ls 2 [(0, .ref h_t), (1, .int v1)] → W p l e (headSpec wsX8_says ({ frames := 3, cells := 0, slots := 0, locals := 65 } : Room)).room s m ([.ref h_t] : List Value).toArray below meth c H locs 0 0 (MQ below (qcI Unit G o.1 (fun _ => True) (fun _ => [(h_t, .inr (8, [.long t_trace, .ref h_t_text, .int t_typed, .ref h_t_said, .ref h_t_many, .long t_when, .long t_then, .ref h_t_grades, .ref h_t_doubts, .int o.2.1, .int o.2.2.1, .int o.2.2.2.1, .ref h_t_vals, .ref h_t_waits, .int o.2.2.2.2.1, .int o.2.2.2.2.2.1, .int o.2.2.2.2.2.2.1, .long o.2.2.2.2.2.2.2.1, .ref h_t_fresh, .ref h_t_freshMany, .int t_quarrel])), (h_t_text, .inl (G.2.1.2.1, 400, .inl t_text)), (h_t_vals, .inl (G.2.1.2.2, 410, .inr (.inl o.2.2.2.2.2.2.2.2.1))), (h_t_waits, .inl (G.2.1.2.1, 410, .inl o.2.2.2.2.2.2.2.2.2))]) A) ([.ref h_t] : List Value).toArray s 0 0 A) (F0 m 17 ls [])) (t_at : Int32) (t_token : Int32) (t_start : Int32) (t_valMany : Int32) (t_waitMany : Int32) (t_open : Int32) (t_vals : Nat → Int64) (t_waits : Nat → Int32) (s1 : Int32) (s2 : Int64), jn_X8_says_139 t_typed t_text t_saying k_17 t_at t_token t_start t_valMany t_waitMany t_open t_vals t_waits s1 s2 = some o → ∀ (H : Heap) (locs : List Loc), va_P G.1 vwCl [(h_t, .inr (8, [.long t_trace, .ref h_t_text, .int t_typed, .ref h_t_said, .ref h_t_many, .long t_when, .long t_then, .ref h_t_grades, .ref h_t_doubts, .int t_at, .int t_token, .int t_start, .ref h_t_vals, .ref h_t_waits, .int t_valMany, .int t_waitMany, .int t_open, .long t_saying, .ref h_t_fresh, .ref h_t_freshMany, .int t_quarrel])), (h_t_text, .inl (G.2.1.2.1, 400, .inl t_text)), (h_t_vals, .inl (G.2.1.2.2, 410, .inr (.inl t_vals))), (h_t_waits, .inl (G.2.1.2.1, 410, .inl t_waits))] H → va_D A [(h_t, .inr (8, [.long t_trace, .ref h_t_text, .int t_typed, .ref h_t_said, .ref h_t_many, .long t_when, .long t_then, .ref h_t_grades, .ref h_t_doubts, .int t_at, .int t_token, .int t_start, .ref h_t_vals, .ref h_t_waits, .int t_valMany, .int t_waitMany, .int t_open, .long t_saying, .ref h_t_fresh, .ref h_t_freshMany, .int t_quarrel])), (h_t_text, .inl (G.2.1.2.1, 400, .inl t_text)), (h_t_vals, .inl (G.2.1.2.2, 410, .inr (.inl t_vals))), (h_t_waits, .inl (G.2.1.2.1, 410, .inl t_waits))] → va_S A s.heap H locs → ∀ (ls : Array Slot), lv_has ls 2 [(0, .ref h_t)] → W p l e (headSpec wsX8_says ({ frames := 3, cells := 0, slots := 0, locals := 65 } : Room)).room s m ([.ref h_t] : List Value).toArray below meth c H locs 0 0 (MQ below (qcI Unit G o.1 (fun _ => True) (fun _ => [(h_t, .inr (8, [.long t_trace, .ref h_t_text, .int t_typed, .ref h_t_said, .ref h_t_many, .long t_when, .long t_then, .ref h_t_grades, .ref h_t_doubts, .int o.2.1, .int o.2.2.1, .int o.2.2.2.1, .ref h_t_vals, .ref h_t_waits, .int o.2.2.2.2.1, .int o.2.2.2.2.2.1, .int o.2.2.2.2.2.2.1, .long o.2.2.2.2.2.2.2.1, .ref h_t_fresh, .ref h_t_freshMany, .int t_quarrel])), (h_t_text, .inl (G.2.1.2.1, 400, .inl t_text)), (h_t_vals, .inl (G.2.1.2.2, 410, .inr (.inl o.2.2.2.2.2.2.2.2.1))), (h_t_waits, .inl (G.2.1.2.1, 410, .inl o.2.2.2.2.2.2.2.2.2))]) A) ([.ref h_t] : List Value).toArray s 0 0 A) (F0 m 139 ls [.long s2, .int s1, .ref h_t_vals]) := by
    intro t_saying k_17 hk_17 t_at t_token t_start t_valMany t_waitMany t_open t_vals t_waits s1 s2 hf H locs hP hD hS ls hl
    unfold jn_X8_says_139 at hf
    refine va_last hx hb hg.1 hP hD hS 2 2 rfl rfl (ib_in (gd_t hf)) dX8_says_139 (fun H locs hP hD hS => ?_)
    have hf := gd_x hf
    have hP : va_P G.1 vwCl [(h_t, .inr (8, [.long t_trace, .ref h_t_text, .int t_typed, .ref h_t_said, .ref h_t_many, .long t_when, .long t_then, .ref h_t_grades, .ref h_t_doubts, .int t_at, .int t_token, .int t_start, .ref h_t_vals, .ref h_t_waits, .int t_valMany, .int t_waitMany, .int t_open, .long t_saying, .ref h_t_fresh, .ref h_t_freshMany, .int t_quarrel])), (h_t_text, .inl (G.2.1.2.1, 400, .inl t_text)), (h_t_vals, .inl (G.2.1.2.2, 410, .inr (.inl (vp_updL t_vals s1.toNatClampNeg s2)))), (h_t_waits, .inl (G.2.1.2.1, 410, .inl t_waits))] H := hP
    have hD : va_D A [(h_t, .inr (8, [.long t_trace, .ref h_t_text, .int t_typed, .ref h_t_said, .ref h_t_many, .long t_when, .long t_then, .ref h_t_grades, .ref h_t_doubts, .int t_at, .int t_token, .int t_start, .ref h_t_vals, .ref h_t_waits, .int t_valMany, .int t_waitMany, .int t_open, .long t_saying, .ref h_t_fresh, .ref h_t_freshMany, .int t_quarrel])), (h_t_text, .inl (G.2.1.2.1, 400, .inl t_text)), (h_t_vals, .inl (G.2.1.2.2, 410, .inr (.inl (vp_updL t_vals s1.toNatClampNeg s2)))), (h_t_waits, .inl (G.2.1.2.1, 410, .inl t_waits))] := hD
    refine lv_aload_n hx hb dX8_says_140 rfl (lv_at hl 0 rfl) ?_
    refine lv_dup hx hb dX8_says_141 rfl ?_
    refine va_get (D := G.1) (ci := 8) (v := .int t_valMany) (C := RX8) (T := TX8) (N := 21) hx hb hts hiX8 hown hg.1 hP 0 rfl rfl 14 (by decide) (hts (.fieldLink RX8 106 "AsARuleModel" "valMany" "I") (by decide +kernel)) (fun _ h9 => h9) rfl dX8_says_142 ?_
    refine lv_iconst (v := (1 : Int32)) hx hb dX8_says_145 (by decide) ?_
    refine lv_iadd hx hb dX8_says_146 ?_
    refine lv_topi (fun x8 ex8 => ?_)
    have hf := lt_n hf x8 ex8
    refine va_put (D := G.1) (ci := 8) (v := .int x8) (ty := .int) (C := RX8) (T := TX8) (N := 21) hx hb hts hiX8 tyX8 tyX8_ok nmX8 hown hg.1 hP hD hS 0 rfl rfl 14 (by decide) (hts (.fieldLink RX8 106 "AsARuleModel" "valMany" "I") (by decide +kernel)) (fun _ h9 => h9) rfl (by decide +kernel) rfl rfl (Nat.le_of_ble_eq_true rfl) dX8_says_147 (fun H locs hP hD hS => ?_)
    have hP : va_P G.1 vwCl [(h_t, .inr (8, [.long t_trace, .ref h_t_text, .int t_typed, .ref h_t_said, .ref h_t_many, .long t_when, .long t_then, .ref h_t_grades, .ref h_t_doubts, .int t_at, .int t_token, .int t_start, .ref h_t_vals, .ref h_t_waits, .int x8, .int t_waitMany, .int t_open, .long t_saying, .ref h_t_fresh, .ref h_t_freshMany, .int t_quarrel])), (h_t_text, .inl (G.2.1.2.1, 400, .inl t_text)), (h_t_vals, .inl (G.2.1.2.2, 410, .inr (.inl (vp_updL t_vals s1.toNatClampNeg s2)))), (h_t_waits, .inl (G.2.1.2.1, 410, .inl t_waits))] H := hP
    have hD : va_D A [(h_t, .inr (8, [.long t_trace, .ref h_t_text, .int t_typed, .ref h_t_said, .ref h_t_many, .long t_when, .long t_then, .ref h_t_grades, .ref h_t_doubts, .int t_at, .int t_token, .int t_start, .ref h_t_vals, .ref h_t_waits, .int x8, .int t_waitMany, .int t_open, .long t_saying, .ref h_t_fresh, .ref h_t_freshMany, .int t_quarrel])), (h_t_text, .inl (G.2.1.2.1, 400, .inl t_text)), (h_t_vals, .inl (G.2.1.2.2, 410, .inr (.inl (vp_updL t_vals s1.toNatClampNeg s2)))), (h_t_waits, .inl (G.2.1.2.1, 410, .inl t_waits))] := hD
    refine lv_aload_n hx hb dX8_says_150 rfl (lv_at hl 0 rfl) ?_
    obtain ⟨o9, ho9, hf⟩ := bd_e hf
    refine af_v (wr := [(h_t_text, .inl (G.2.1.2.1, 400, .inl t_text))]) (va_runV (As := []) (rest := []) ⟨hx, hb, hml, hown, hts⟩ (c_X8_turns l G h_t h_t_text h_t_said h_t_many h_t_grades h_t_doubts h_t_vals h_t_waits h_t_fresh h_t_freshMany H.size t_trace t_typed t_when t_then t_at t_token t_start x8 t_waitMany t_open t_saying t_quarrel (vp_updL t_vals s1.toNatClampNeg s2) t_waits o9 ho9) (cwV 0 hts gX8_says_X8_turns rfl rfl rfl (by decide +kernel) ⟨Nat.le_of_ble_eq_true rfl, Nat.le_of_ble_eq_true rfl⟩) (pcA_preV hg hc hP hD hS hA [0, 2, 3] rfl (by decide) (q0 := 0) (ci := 8) rfl rfl rfl) rfl rfl hl.1 rfl (lv_room (Nat.le_of_ble_eq_true rfl)) dX8_says_151 ⟨Nat.zero_le _, Nat.zero_le _⟩) hP hD hS hA [0, 2, 3] [1] rfl rfl (by decide) (by decide) (fun _ H locs _ hP hD hS => ?_)
    have hP : va_P G.1 vwCl [(h_t, .inr (8, [.long t_trace, .ref h_t_text, .int t_typed, .ref h_t_said, .ref h_t_many, .long t_when, .long t_then, .ref h_t_grades, .ref h_t_doubts, .int t_at, .int t_token, .int t_start, .ref h_t_vals, .ref h_t_waits, .int x8, .int o9.1, .int o9.2.1, .long t_saying, .ref h_t_fresh, .ref h_t_freshMany, .int t_quarrel])), (h_t_text, .inl (G.2.1.2.1, 400, .inl t_text)), (h_t_vals, .inl (G.2.1.2.2, 410, .inr (.inl o9.2.2))), (h_t_waits, .inl (G.2.1.2.1, 410, .inl t_waits))] H := hP.sub [1, 0, 2, 3] rfl
    have hD : va_D A [(h_t, .inr (8, [.long t_trace, .ref h_t_text, .int t_typed, .ref h_t_said, .ref h_t_many, .long t_when, .long t_then, .ref h_t_grades, .ref h_t_doubts, .int t_at, .int t_token, .int t_start, .ref h_t_vals, .ref h_t_waits, .int x8, .int o9.1, .int o9.2.1, .long t_saying, .ref h_t_fresh, .ref h_t_freshMany, .int t_quarrel])), (h_t_text, .inl (G.2.1.2.1, 400, .inl t_text)), (h_t_vals, .inl (G.2.1.2.2, 410, .inr (.inl o9.2.2))), (h_t_waits, .inl (G.2.1.2.1, 410, .inl t_waits))] := hD.sub [1, 0, 2, 3] (by decide) rfl
    refine lv_iconst (v := (0 : Int32)) hx hb dX8_says_154 (by decide) ?_
    refine lv_istore_n (lv' := [(1, .int (0 : Int32)), (0, .ref h_t)]) hx hb dX8_says_155 rfl hl (by decide) rfl (fun ls hl => ?_)
    refine lv_goto (tgt := 291) hx hb dX8_says_156 (by decide) ?_
    refine lv_aload_n hx hb dX8_says_291 rfl (lv_at hl 1 rfl) ?_
    obtain ⟨o10, ho10, hf⟩ := bd_e hf
    refine af_v (wr := [(h_t_vals, .inl (G.2.1.2.2, 410, .inr (.inl o9.2.2))), (h_t_waits, .inl (G.2.1.2.1, 410, .inl t_waits))]) (va_runV (As := []) (rest := []) ⟨hx, hb, hml, hown, hts⟩ (c_X8_scans l G h_t h_t_text h_t_said h_t_many h_t_grades h_t_doubts h_t_vals h_t_waits h_t_fresh h_t_freshMany H.size t_trace t_typed t_when t_then t_at t_token t_start x8 o9.1 o9.2.1 t_saying t_quarrel t_text o10 ho10) (cwV 0 hts gX8_says_X8_scans rfl rfl rfl (by decide +kernel) ⟨Nat.le_of_ble_eq_true rfl, Nat.le_of_ble_eq_true rfl⟩) (pcA_preV hg hc hP hD hS hA [0, 1] rfl (by decide) (q0 := 0) (ci := 8) rfl rfl rfl) rfl rfl hl.1 rfl (lv_room (Nat.le_of_ble_eq_true rfl)) dX8_says_292 ⟨Nat.zero_le _, Nat.zero_le _⟩) hP hD hS hA [0, 1] [2, 3] rfl rfl (by decide) (by decide) (fun _ H locs _ hP hD hS => ?_)
    have hP : va_P G.1 vwCl [(h_t, .inr (8, [.long t_trace, .ref h_t_text, .int t_typed, .ref h_t_said, .ref h_t_many, .long t_when, .long t_then, .ref h_t_grades, .ref h_t_doubts, .int o10.1, .int o10.2.1, .int o10.2.2, .ref h_t_vals, .ref h_t_waits, .int x8, .int o9.1, .int o9.2.1, .long t_saying, .ref h_t_fresh, .ref h_t_freshMany, .int t_quarrel])), (h_t_text, .inl (G.2.1.2.1, 400, .inl t_text)), (h_t_vals, .inl (G.2.1.2.2, 410, .inr (.inl o9.2.2))), (h_t_waits, .inl (G.2.1.2.1, 410, .inl t_waits))] H := hP.sub [2, 3, 0, 1] rfl
    have hD : va_D A [(h_t, .inr (8, [.long t_trace, .ref h_t_text, .int t_typed, .ref h_t_said, .ref h_t_many, .long t_when, .long t_then, .ref h_t_grades, .ref h_t_doubts, .int o10.1, .int o10.2.1, .int o10.2.2, .ref h_t_vals, .ref h_t_waits, .int x8, .int o9.1, .int o9.2.1, .long t_saying, .ref h_t_fresh, .ref h_t_freshMany, .int t_quarrel])), (h_t_text, .inl (G.2.1.2.1, 400, .inl t_text)), (h_t_vals, .inl (G.2.1.2.2, 410, .inr (.inl o9.2.2))), (h_t_waits, .inl (G.2.1.2.1, 410, .inl t_waits))] := hD.sub [2, 3, 0, 1] (by decide) rfl
    refine lv_goto (tgt := 17) hx hb dX8_says_295 (by decide) ?_
    exact hk_17 o10.1 o10.2.1 o10.2.2 x8 o9.1 o9.2.1 o9.2.2 t_waits (0 : Int32) hf _ _ hP hD hS _ (lv_sub hl [1, 0] rfl)
  have hw_39 : ∀ (t_saying : Int64) (k_17 : Int32 → Int32 → Int32 → Int32 → Int32 → Int32 → (Nat → Int64) → (Nat → Int32) → Int32 → Option (Int32 × Int32 × Int32 × Int32 × Int32 × Int32 × Int32 × Int64 × (Nat → Int64) × (Nat → Int32))) (hk_17 : ∀ (t_at : Int32) (t_token : Int32) (t_start : Int32) (t_valMany : Int32) (t_waitMany : Int32) (t_open : Int32) (t_vals : Nat → Int64) (t_waits : Nat → Int32) (v1 : Int32), k_17 t_at t_token t_start t_valMany t_waitMany t_open t_vals t_waits v1 = some o → ∀ (H : Heap) (locs : List Loc), va_P G.1 vwCl [(h_t, .inr (8, [.long t_trace, .ref h_t_text, .int t_typed, .ref h_t_said, .ref h_t_many, .long t_when, .long t_then, .ref h_t_grades, .ref h_t_doubts, .int t_at, .int t_token, .int t_start, .ref h_t_vals, .ref h_t_waits, .int t_valMany, .int t_waitMany, .int t_open, .long t_saying, .ref h_t_fresh, .ref h_t_freshMany, .int t_quarrel])), (h_t_text, .inl (G.2.1.2.1, 400, .inl t_text)), (h_t_vals, .inl (G.2.1.2.2, 410, .inr (.inl t_vals))), (h_t_waits, .inl (G.2.1.2.1, 410, .inl t_waits))] H → va_D A [(h_t, .inr (8, [.long t_trace, .ref h_t_text, .int t_typed, .ref h_t_said, .ref h_t_many, .long t_when, .long t_then, .ref h_t_grades, .ref h_t_doubts, .int t_at, .int t_token, .int t_start, .ref h_t_vals, .ref h_t_waits, .int t_valMany, .int t_waitMany, .int t_open, .long t_saying, .ref h_t_fresh, .ref h_t_freshMany, .int t_quarrel])), (h_t_text, .inl (G.2.1.2.1, 400, .inl t_text)), (h_t_vals, .inl (G.2.1.2.2, 410, .inr (.inl t_vals))), (h_t_waits, .inl (G.2.1.2.1, 410, .inl t_waits))] → va_S A s.heap H locs → ∀ (ls : Array Slot), lv_has ls 2 [(0, .ref h_t), (1, .int v1)] → W p l e (headSpec wsX8_says ({ frames := 3, cells := 0, slots := 0, locals := 65 } : Room)).room s m ([.ref h_t] : List Value).toArray below meth c H locs 0 0 (MQ below (qcI Unit G o.1 (fun _ => True) (fun _ => [(h_t, .inr (8, [.long t_trace, .ref h_t_text, .int t_typed, .ref h_t_said, .ref h_t_many, .long t_when, .long t_then, .ref h_t_grades, .ref h_t_doubts, .int o.2.1, .int o.2.2.1, .int o.2.2.2.1, .ref h_t_vals, .ref h_t_waits, .int o.2.2.2.2.1, .int o.2.2.2.2.2.1, .int o.2.2.2.2.2.2.1, .long o.2.2.2.2.2.2.2.1, .ref h_t_fresh, .ref h_t_freshMany, .int t_quarrel])), (h_t_text, .inl (G.2.1.2.1, 400, .inl t_text)), (h_t_vals, .inl (G.2.1.2.2, 410, .inr (.inl o.2.2.2.2.2.2.2.2.1))), (h_t_waits, .inl (G.2.1.2.1, 410, .inl o.2.2.2.2.2.2.2.2.2))]) A) ([.ref h_t] : List Value).toArray s 0 0 A) (F0 m 17 ls [])) (t_at : Int32) (t_token : Int32) (t_start : Int32) (t_valMany : Int32) (t_waitMany : Int32) (t_open : Int32) (t_vals : Nat → Int64) (t_waits : Nat → Int32) (v1 : Int32), jn_X8_says_39 t_typed t_text t_saying k_17 t_at t_token t_start t_valMany t_waitMany t_open t_vals t_waits v1 = some o → ∀ (H : Heap) (locs : List Loc), va_P G.1 vwCl [(h_t, .inr (8, [.long t_trace, .ref h_t_text, .int t_typed, .ref h_t_said, .ref h_t_many, .long t_when, .long t_then, .ref h_t_grades, .ref h_t_doubts, .int t_at, .int t_token, .int t_start, .ref h_t_vals, .ref h_t_waits, .int t_valMany, .int t_waitMany, .int t_open, .long t_saying, .ref h_t_fresh, .ref h_t_freshMany, .int t_quarrel])), (h_t_text, .inl (G.2.1.2.1, 400, .inl t_text)), (h_t_vals, .inl (G.2.1.2.2, 410, .inr (.inl t_vals))), (h_t_waits, .inl (G.2.1.2.1, 410, .inl t_waits))] H → va_D A [(h_t, .inr (8, [.long t_trace, .ref h_t_text, .int t_typed, .ref h_t_said, .ref h_t_many, .long t_when, .long t_then, .ref h_t_grades, .ref h_t_doubts, .int t_at, .int t_token, .int t_start, .ref h_t_vals, .ref h_t_waits, .int t_valMany, .int t_waitMany, .int t_open, .long t_saying, .ref h_t_fresh, .ref h_t_freshMany, .int t_quarrel])), (h_t_text, .inl (G.2.1.2.1, 400, .inl t_text)), (h_t_vals, .inl (G.2.1.2.2, 410, .inr (.inl t_vals))), (h_t_waits, .inl (G.2.1.2.1, 410, .inl t_waits))] → va_S A s.heap H locs → ∀ (ls : Array Slot), lv_has ls 2 [(0, .ref h_t), (1, .int v1)] → W p l e (headSpec wsX8_says ({ frames := 3, cells := 0, slots := 0, locals := 65 } : Room)).room s m ([.ref h_t] : List Value).toArray below meth c H locs 0 0 (MQ below (qcI Unit G o.1 (fun _ => True) (fun _ => [(h_t, .inr (8, [.long t_trace, .ref h_t_text, .int t_typed, .ref h_t_said, .ref h_t_many, .long t_when, .long t_then, .ref h_t_grades, .ref h_t_doubts, .int o.2.1, .int o.2.2.1, .int o.2.2.2.1, .ref h_t_vals, .ref h_t_waits, .int o.2.2.2.2.1, .int o.2.2.2.2.2.1, .int o.2.2.2.2.2.2.1, .long o.2.2.2.2.2.2.2.1, .ref h_t_fresh, .ref h_t_freshMany, .int t_quarrel])), (h_t_text, .inl (G.2.1.2.1, 400, .inl t_text)), (h_t_vals, .inl (G.2.1.2.2, 410, .inr (.inl o.2.2.2.2.2.2.2.2.1))), (h_t_waits, .inl (G.2.1.2.1, 410, .inl o.2.2.2.2.2.2.2.2.2))]) A) ([.ref h_t] : List Value).toArray s 0 0 A) (F0 m 39 ls []) := by
    intro t_saying k_17 hk_17 t_at t_token t_start t_valMany t_waitMany t_open t_vals t_waits v1 hf H locs hP hD hS ls hl
    unfold jn_X8_says_39 at hf
    refine lv_aload_n hx hb dX8_says_39 rfl (lv_at hl 0 rfl) ?_
    refine va_get (D := G.1) (ci := 8) (v := .int t_open) (C := RX8) (T := TX8) (N := 21) hx hb hts hiX8 hown hg.1 hP 0 rfl rfl 16 (by decide) (hts (.fieldLink RX8 109 "AsARuleModel" "open" "I") (by decide +kernel)) (fun _ h9 => h9) rfl dX8_says_40 ?_
    refine lv_bipush (v := (8 : Int32)) hx hb dX8_says_43 (by decide) ?_
    refine lv_icmp_ne (tgt := 50) hx hb dX8_says_45 (by decide) (fun c11 => ?_) (fun c11 => ?_)
    · have hf := it_f c11 hf
      refine lv_aload_n hx hb dX8_says_50 rfl (lv_at hl 0 rfl) ?_
      refine lv_dup hx hb dX8_says_51 rfl ?_
      refine va_get (D := G.1) (ci := 8) (v := .int t_open) (C := RX8) (T := TX8) (N := 21) hx hb hts hiX8 hown hg.1 hP 0 rfl rfl 16 (by decide) (hts (.fieldLink RX8 109 "AsARuleModel" "open" "I") (by decide +kernel)) (fun _ h9 => h9) rfl dX8_says_52 ?_
      refine lv_iconst (v := (1 : Int32)) hx hb dX8_says_55 (by decide) ?_
      refine lv_iadd hx hb dX8_says_56 ?_
      refine lv_topi (fun x12 ex12 => ?_)
      have hf := lt_n hf x12 ex12
      refine va_put (D := G.1) (ci := 8) (v := .int x12) (ty := .int) (C := RX8) (T := TX8) (N := 21) hx hb hts hiX8 tyX8 tyX8_ok nmX8 hown hg.1 hP hD hS 0 rfl rfl 16 (by decide) (hts (.fieldLink RX8 109 "AsARuleModel" "open" "I") (by decide +kernel)) (fun _ h9 => h9) rfl (by decide +kernel) rfl rfl (Nat.le_of_ble_eq_true rfl) dX8_says_57 (fun H locs hP hD hS => ?_)
      have hP : va_P G.1 vwCl [(h_t, .inr (8, [.long t_trace, .ref h_t_text, .int t_typed, .ref h_t_said, .ref h_t_many, .long t_when, .long t_then, .ref h_t_grades, .ref h_t_doubts, .int t_at, .int t_token, .int t_start, .ref h_t_vals, .ref h_t_waits, .int t_valMany, .int t_waitMany, .int x12, .long t_saying, .ref h_t_fresh, .ref h_t_freshMany, .int t_quarrel])), (h_t_text, .inl (G.2.1.2.1, 400, .inl t_text)), (h_t_vals, .inl (G.2.1.2.2, 410, .inr (.inl t_vals))), (h_t_waits, .inl (G.2.1.2.1, 410, .inl t_waits))] H := hP
      have hD : va_D A [(h_t, .inr (8, [.long t_trace, .ref h_t_text, .int t_typed, .ref h_t_said, .ref h_t_many, .long t_when, .long t_then, .ref h_t_grades, .ref h_t_doubts, .int t_at, .int t_token, .int t_start, .ref h_t_vals, .ref h_t_waits, .int t_valMany, .int t_waitMany, .int x12, .long t_saying, .ref h_t_fresh, .ref h_t_freshMany, .int t_quarrel])), (h_t_text, .inl (G.2.1.2.1, 400, .inl t_text)), (h_t_vals, .inl (G.2.1.2.2, 410, .inr (.inl t_vals))), (h_t_waits, .inl (G.2.1.2.1, 410, .inl t_waits))] := hD
      refine lv_aload_n hx hb dX8_says_60 rfl (lv_at hl 0 rfl) ?_
      refine va_get (D := G.1) (ci := 8) (v := .ref h_t_waits) (C := RX8) (T := TX8) (N := 21) hx hb hts hiX8 hown hg.1 hP 0 rfl rfl 13 (by decide) (hts (.fieldLink RX8 29 "AsARuleModel" "waits" "[I") (by decide +kernel)) (fun _ h9 => h9) rfl dX8_says_61 ?_
      refine lv_aload_n hx hb dX8_says_64 rfl (lv_at hl 0 rfl) ?_
      refine va_get (D := G.1) (ci := 8) (v := .int t_waitMany) (C := RX8) (T := TX8) (N := 21) hx hb hts hiX8 hown hg.1 hP 0 rfl rfl 15 (by decide) (hts (.fieldLink RX8 103 "AsARuleModel" "waitMany" "I") (by decide +kernel)) (fun _ h9 => h9) rfl dX8_says_65 ?_
      refine lv_aload_n hx hb dX8_says_68 rfl (lv_at hl 0 rfl) ?_
      refine va_get (D := G.1) (ci := 8) (v := .int t_token) (C := RX8) (T := TX8) (N := 21) hx hb hts hiX8 hown hg.1 hP 0 rfl rfl 10 (by decide) (hts (.fieldLink RX8 89 "AsARuleModel" "token" "I") (by decide +kernel)) (fun _ h9 => h9) rfl dX8_says_69 ?_
      refine va_iast hx hb hg.1 hP hD hS 3 1 rfl rfl (ib_in (gd_t hf)) dX8_says_72 (fun H locs hP hD hS => ?_)
      have hf := gd_x hf
      have hP : va_P G.1 vwCl [(h_t, .inr (8, [.long t_trace, .ref h_t_text, .int t_typed, .ref h_t_said, .ref h_t_many, .long t_when, .long t_then, .ref h_t_grades, .ref h_t_doubts, .int t_at, .int t_token, .int t_start, .ref h_t_vals, .ref h_t_waits, .int t_valMany, .int t_waitMany, .int x12, .long t_saying, .ref h_t_fresh, .ref h_t_freshMany, .int t_quarrel])), (h_t_text, .inl (G.2.1.2.1, 400, .inl t_text)), (h_t_vals, .inl (G.2.1.2.2, 410, .inr (.inl t_vals))), (h_t_waits, .inl (G.2.1.2.1, 410, .inl (upd t_waits t_waitMany.toNatClampNeg t_token)))] H := hP
      have hD : va_D A [(h_t, .inr (8, [.long t_trace, .ref h_t_text, .int t_typed, .ref h_t_said, .ref h_t_many, .long t_when, .long t_then, .ref h_t_grades, .ref h_t_doubts, .int t_at, .int t_token, .int t_start, .ref h_t_vals, .ref h_t_waits, .int t_valMany, .int t_waitMany, .int x12, .long t_saying, .ref h_t_fresh, .ref h_t_freshMany, .int t_quarrel])), (h_t_text, .inl (G.2.1.2.1, 400, .inl t_text)), (h_t_vals, .inl (G.2.1.2.2, 410, .inr (.inl t_vals))), (h_t_waits, .inl (G.2.1.2.1, 410, .inl (upd t_waits t_waitMany.toNatClampNeg t_token)))] := hD
      refine lv_aload_n hx hb dX8_says_73 rfl (lv_at hl 0 rfl) ?_
      refine lv_dup hx hb dX8_says_74 rfl ?_
      refine va_get (D := G.1) (ci := 8) (v := .int t_waitMany) (C := RX8) (T := TX8) (N := 21) hx hb hts hiX8 hown hg.1 hP 0 rfl rfl 15 (by decide) (hts (.fieldLink RX8 103 "AsARuleModel" "waitMany" "I") (by decide +kernel)) (fun _ h9 => h9) rfl dX8_says_75 ?_
      refine lv_iconst (v := (1 : Int32)) hx hb dX8_says_78 (by decide) ?_
      refine lv_iadd hx hb dX8_says_79 ?_
      refine lv_topi (fun x13 ex13 => ?_)
      have hf := lt_n hf x13 ex13
      refine va_put (D := G.1) (ci := 8) (v := .int x13) (ty := .int) (C := RX8) (T := TX8) (N := 21) hx hb hts hiX8 tyX8 tyX8_ok nmX8 hown hg.1 hP hD hS 0 rfl rfl 15 (by decide) (hts (.fieldLink RX8 103 "AsARuleModel" "waitMany" "I") (by decide +kernel)) (fun _ h9 => h9) rfl (by decide +kernel) rfl rfl (Nat.le_of_ble_eq_true rfl) dX8_says_80 (fun H locs hP hD hS => ?_)
      have hP : va_P G.1 vwCl [(h_t, .inr (8, [.long t_trace, .ref h_t_text, .int t_typed, .ref h_t_said, .ref h_t_many, .long t_when, .long t_then, .ref h_t_grades, .ref h_t_doubts, .int t_at, .int t_token, .int t_start, .ref h_t_vals, .ref h_t_waits, .int t_valMany, .int x13, .int x12, .long t_saying, .ref h_t_fresh, .ref h_t_freshMany, .int t_quarrel])), (h_t_text, .inl (G.2.1.2.1, 400, .inl t_text)), (h_t_vals, .inl (G.2.1.2.2, 410, .inr (.inl t_vals))), (h_t_waits, .inl (G.2.1.2.1, 410, .inl (upd t_waits t_waitMany.toNatClampNeg t_token)))] H := hP
      have hD : va_D A [(h_t, .inr (8, [.long t_trace, .ref h_t_text, .int t_typed, .ref h_t_said, .ref h_t_many, .long t_when, .long t_then, .ref h_t_grades, .ref h_t_doubts, .int t_at, .int t_token, .int t_start, .ref h_t_vals, .ref h_t_waits, .int t_valMany, .int x13, .int x12, .long t_saying, .ref h_t_fresh, .ref h_t_freshMany, .int t_quarrel])), (h_t_text, .inl (G.2.1.2.1, 400, .inl t_text)), (h_t_vals, .inl (G.2.1.2.2, 410, .inr (.inl t_vals))), (h_t_waits, .inl (G.2.1.2.1, 410, .inl (upd t_waits t_waitMany.toNatClampNeg t_token)))] := hD
      refine lv_goto (tgt := 291) hx hb dX8_says_83 (by decide) ?_
      refine lv_aload_n hx hb dX8_says_291 rfl (lv_at hl 0 rfl) ?_
      obtain ⟨o14, ho14, hf⟩ := bd_e hf
      refine af_v (wr := [(h_t_vals, .inl (G.2.1.2.2, 410, .inr (.inl t_vals))), (h_t_waits, .inl (G.2.1.2.1, 410, .inl (upd t_waits t_waitMany.toNatClampNeg t_token)))]) (va_runV (As := []) (rest := []) ⟨hx, hb, hml, hown, hts⟩ (c_X8_scans l G h_t h_t_text h_t_said h_t_many h_t_grades h_t_doubts h_t_vals h_t_waits h_t_fresh h_t_freshMany H.size t_trace t_typed t_when t_then t_at t_token t_start t_valMany x13 x12 t_saying t_quarrel t_text o14 ho14) (cwV 0 hts gX8_says_X8_scans rfl rfl rfl (by decide +kernel) ⟨Nat.le_of_ble_eq_true rfl, Nat.le_of_ble_eq_true rfl⟩) (pcA_preV hg hc hP hD hS hA [0, 1] rfl (by decide) (q0 := 0) (ci := 8) rfl rfl rfl) rfl rfl hl.1 rfl (lv_room (Nat.le_of_ble_eq_true rfl)) dX8_says_292 ⟨Nat.zero_le _, Nat.zero_le _⟩) hP hD hS hA [0, 1] [2, 3] rfl rfl (by decide) (by decide) (fun _ H locs _ hP hD hS => ?_)
      have hP : va_P G.1 vwCl [(h_t, .inr (8, [.long t_trace, .ref h_t_text, .int t_typed, .ref h_t_said, .ref h_t_many, .long t_when, .long t_then, .ref h_t_grades, .ref h_t_doubts, .int o14.1, .int o14.2.1, .int o14.2.2, .ref h_t_vals, .ref h_t_waits, .int t_valMany, .int x13, .int x12, .long t_saying, .ref h_t_fresh, .ref h_t_freshMany, .int t_quarrel])), (h_t_text, .inl (G.2.1.2.1, 400, .inl t_text)), (h_t_vals, .inl (G.2.1.2.2, 410, .inr (.inl t_vals))), (h_t_waits, .inl (G.2.1.2.1, 410, .inl (upd t_waits t_waitMany.toNatClampNeg t_token)))] H := hP.sub [2, 3, 0, 1] rfl
      have hD : va_D A [(h_t, .inr (8, [.long t_trace, .ref h_t_text, .int t_typed, .ref h_t_said, .ref h_t_many, .long t_when, .long t_then, .ref h_t_grades, .ref h_t_doubts, .int o14.1, .int o14.2.1, .int o14.2.2, .ref h_t_vals, .ref h_t_waits, .int t_valMany, .int x13, .int x12, .long t_saying, .ref h_t_fresh, .ref h_t_freshMany, .int t_quarrel])), (h_t_text, .inl (G.2.1.2.1, 400, .inl t_text)), (h_t_vals, .inl (G.2.1.2.2, 410, .inr (.inl t_vals))), (h_t_waits, .inl (G.2.1.2.1, 410, .inl (upd t_waits t_waitMany.toNatClampNeg t_token)))] := hD.sub [2, 3, 0, 1] (by decide) rfl
      refine lv_goto (tgt := 17) hx hb dX8_says_295 (by decide) ?_
      exact hk_17 o14.1 o14.2.1 o14.2.2 t_valMany x13 x12 t_vals ((upd t_waits t_waitMany.toNatClampNeg t_token)) v1 hf _ _ hP hD hS _ hl
    · have hf := it_t c11 hf
      refine lv_iconst (v := (0 : Int32)) hx hb dX8_says_48 (by decide) ?_
      rw [← Option.some.inj hf]
      exact rt_z (u := ()) hx hb hr zb_0 hlocks hP hD trivial hS dX8_says_49
  have hw_17 : ∀ (t_saying : Int64) (n : Nat) (t_at : Int32) (t_token : Int32) (t_start : Int32) (t_valMany : Int32) (t_waitMany : Int32) (t_open : Int32) (t_vals : Nat → Int64) (t_waits : Nat → Int32) (v1 : Int32), lp_X8_says_17 t_typed t_text t_saying n t_at t_token t_start t_valMany t_waitMany t_open t_vals t_waits v1 = some o → ∀ (H : Heap) (locs : List Loc), va_P G.1 vwCl [(h_t, .inr (8, [.long t_trace, .ref h_t_text, .int t_typed, .ref h_t_said, .ref h_t_many, .long t_when, .long t_then, .ref h_t_grades, .ref h_t_doubts, .int t_at, .int t_token, .int t_start, .ref h_t_vals, .ref h_t_waits, .int t_valMany, .int t_waitMany, .int t_open, .long t_saying, .ref h_t_fresh, .ref h_t_freshMany, .int t_quarrel])), (h_t_text, .inl (G.2.1.2.1, 400, .inl t_text)), (h_t_vals, .inl (G.2.1.2.2, 410, .inr (.inl t_vals))), (h_t_waits, .inl (G.2.1.2.1, 410, .inl t_waits))] H → va_D A [(h_t, .inr (8, [.long t_trace, .ref h_t_text, .int t_typed, .ref h_t_said, .ref h_t_many, .long t_when, .long t_then, .ref h_t_grades, .ref h_t_doubts, .int t_at, .int t_token, .int t_start, .ref h_t_vals, .ref h_t_waits, .int t_valMany, .int t_waitMany, .int t_open, .long t_saying, .ref h_t_fresh, .ref h_t_freshMany, .int t_quarrel])), (h_t_text, .inl (G.2.1.2.1, 400, .inl t_text)), (h_t_vals, .inl (G.2.1.2.2, 410, .inr (.inl t_vals))), (h_t_waits, .inl (G.2.1.2.1, 410, .inl t_waits))] → va_S A s.heap H locs → ∀ (ls : Array Slot), lv_has ls 2 [(0, .ref h_t), (1, .int v1)] → W p l e (headSpec wsX8_says ({ frames := 3, cells := 0, slots := 0, locals := 65 } : Room)).room s m ([.ref h_t] : List Value).toArray below meth c H locs 0 0 (MQ below (qcI Unit G o.1 (fun _ => True) (fun _ => [(h_t, .inr (8, [.long t_trace, .ref h_t_text, .int t_typed, .ref h_t_said, .ref h_t_many, .long t_when, .long t_then, .ref h_t_grades, .ref h_t_doubts, .int o.2.1, .int o.2.2.1, .int o.2.2.2.1, .ref h_t_vals, .ref h_t_waits, .int o.2.2.2.2.1, .int o.2.2.2.2.2.1, .int o.2.2.2.2.2.2.1, .long o.2.2.2.2.2.2.2.1, .ref h_t_fresh, .ref h_t_freshMany, .int t_quarrel])), (h_t_text, .inl (G.2.1.2.1, 400, .inl t_text)), (h_t_vals, .inl (G.2.1.2.2, 410, .inr (.inl o.2.2.2.2.2.2.2.2.1))), (h_t_waits, .inl (G.2.1.2.1, 410, .inl o.2.2.2.2.2.2.2.2.2))]) A) ([.ref h_t] : List Value).toArray s 0 0 A) (F0 m 17 ls []) := by
    intro t_saying
    intro n
    induction n with
    | zero =>
      intro t_at t_token t_start t_valMany t_waitMany t_open t_vals t_waits v1 hf
      exact absurd hf (by rw [lp_X8_says_17]; intro h; cases h)
    | succ n ih =>
      intro t_at t_token t_start t_valMany t_waitMany t_open t_vals t_waits v1 hf H locs hP hD hS ls hl
      rw [lp_X8_says_17] at hf
      refine lv_iload_n hx hb dX8_says_17 rfl (lv_at hl 1 rfl) ?_
      refine lv_if_eq (tgt := 161) hx hb dX8_says_18 (by decide) (fun c15 => ?_) (fun c15 => ?_)
      · have hf := it_t c15 hf
        refine lv_aload_n hx hb dX8_says_161 rfl (lv_at hl 0 rfl) ?_
        refine va_get (D := G.1) (ci := 8) (v := .int t_token) (C := RX8) (T := TX8) (N := 21) hx hb hts hiX8 hown hg.1 hP 0 rfl rfl 10 (by decide) (hts (.fieldLink RX8 89 "AsARuleModel" "token" "I") (by decide +kernel)) (fun _ h9 => h9) rfl dX8_says_162 ?_
        refine lv_bipush (v := (21 : Int32)) hx hb dX8_says_165 (by decide) ?_
        refine lv_icmp_eq (tgt := 179) hx hb dX8_says_167 (by decide) (fun c16 => ?_) (fun c16 => ?_)
        · have hf := it_t c16 hf
          exact hw_179 t_saying _ ih t_at t_token t_start t_valMany t_waitMany t_open t_vals t_waits hf _ _ hP hD hS _ (lv_sub hl [0] rfl)
        · have hf := it_f c16 hf
          refine lv_aload_n hx hb dX8_says_170 rfl (lv_at hl 0 rfl) ?_
          refine va_get (D := G.1) (ci := 8) (v := .int t_token) (C := RX8) (T := TX8) (N := 21) hx hb hts hiX8 hown hg.1 hP 0 rfl rfl 10 (by decide) (hts (.fieldLink RX8 89 "AsARuleModel" "token" "I") (by decide +kernel)) (fun _ h9 => h9) rfl dX8_says_171 ?_
          refine lv_bipush (v := (20 : Int32)) hx hb dX8_says_174 (by decide) ?_
          refine lv_icmp_ne (tgt := 215) hx hb dX8_says_176 (by decide) (fun c17 => ?_) (fun c17 => ?_)
          · have hf := it_f c17 hf
            refine lv_aload_n hx hb dX8_says_215 rfl (lv_at hl 0 rfl) ?_
            refine va_get (D := G.1) (ci := 8) (v := .int t_token) (C := RX8) (T := TX8) (N := 21) hx hb hts hiX8 hown hg.1 hP 0 rfl rfl 10 (by decide) (hts (.fieldLink RX8 89 "AsARuleModel" "token" "I") (by decide +kernel)) (fun _ h9 => h9) rfl dX8_says_216 ?_
            refine lv_bipush (v := (24 : Int32)) hx hb dX8_says_219 (by decide) ?_
            refine lv_icmp_ne (tgt := 264) hx hb dX8_says_221 (by decide) (fun c18 => ?_) (fun c18 => ?_)
            · have hf := it_f c18 hf
              exact hw_264 t_at t_token t_start t_valMany t_waitMany t_open t_saying t_vals t_waits hf _ _ hP hD hS _ (lv_sub hl [0] rfl)
            · have hf := it_t c18 hf
              refine lv_aload_n hx hb dX8_says_224 rfl (lv_at hl 0 rfl) ?_
              obtain ⟨o19, ho19, hf⟩ := bd_e hf
              refine af_i (wr := [(h_t_text, .inl (G.2.1.2.1, 400, .inl t_text)), (h_t_vals, .inl (G.2.1.2.2, 410, .inr (.inl t_vals)))]) (va_runV (As := []) (rest := []) ⟨hx, hb, hml, hown, hts⟩ (c_X8_isInner l G h_t h_t_text h_t_said h_t_many h_t_grades h_t_doubts h_t_vals h_t_waits h_t_fresh h_t_freshMany H.size t_trace t_typed t_when t_then t_at t_token t_start t_valMany t_waitMany t_open t_saying t_quarrel t_waits o19 ho19) (cwV 0 hts gX8_says_X8_isInner rfl rfl rfl (by decide +kernel) ⟨Nat.le_of_ble_eq_true rfl, Nat.le_of_ble_eq_true rfl⟩) (pcA_preV hg hc hP hD hS hA [0, 3] rfl (by decide) (q0 := 0) (ci := 8) rfl rfl rfl) rfl rfl hl.1 rfl (lv_room (Nat.le_of_ble_eq_true rfl)) dX8_says_225 ⟨Nat.zero_le _, Nat.zero_le _⟩) hP hD hS hA [0, 3] [1, 2] rfl rfl (by decide) (by decide) (fun _ H locs _ hP hD hS => ?_)
              have hP : va_P G.1 vwCl [(h_t, .inr (8, [.long t_trace, .ref h_t_text, .int t_typed, .ref h_t_said, .ref h_t_many, .long t_when, .long t_then, .ref h_t_grades, .ref h_t_doubts, .int t_at, .int t_token, .int t_start, .ref h_t_vals, .ref h_t_waits, .int t_valMany, .int t_waitMany, .int t_open, .long t_saying, .ref h_t_fresh, .ref h_t_freshMany, .int t_quarrel])), (h_t_text, .inl (G.2.1.2.1, 400, .inl t_text)), (h_t_vals, .inl (G.2.1.2.2, 410, .inr (.inl t_vals))), (h_t_waits, .inl (G.2.1.2.1, 410, .inl t_waits))] H := hP.sub [2, 0, 1, 3] rfl
              have hD : va_D A [(h_t, .inr (8, [.long t_trace, .ref h_t_text, .int t_typed, .ref h_t_said, .ref h_t_many, .long t_when, .long t_then, .ref h_t_grades, .ref h_t_doubts, .int t_at, .int t_token, .int t_start, .ref h_t_vals, .ref h_t_waits, .int t_valMany, .int t_waitMany, .int t_open, .long t_saying, .ref h_t_fresh, .ref h_t_freshMany, .int t_quarrel])), (h_t_text, .inl (G.2.1.2.1, 400, .inl t_text)), (h_t_vals, .inl (G.2.1.2.2, 410, .inr (.inl t_vals))), (h_t_waits, .inl (G.2.1.2.1, 410, .inl t_waits))] := hD.sub [2, 0, 1, 3] (by decide) rfl
              refine lv_if_eq (tgt := 264) hx hb dX8_says_228 (by decide) (fun c20 => ?_) (fun c20 => ?_)
              · have hf := it_t c20 hf
                exact hw_264 t_at t_token t_start t_valMany t_waitMany t_open t_saying t_vals t_waits hf _ _ hP hD hS _ (lv_sub hl [0] rfl)
              · have hf := it_f c20 hf
                refine lv_aload_n hx hb dX8_says_231 rfl (lv_at hl 0 rfl) ?_
                refine lv_bipush (v := (20 : Int32)) hx hb dX8_says_232 (by decide) ?_
                obtain ⟨o21, ho21, hf⟩ := bd_e hf
                refine af_v (wr := [(h_t_text, .inl (G.2.1.2.1, 400, .inl t_text))]) (va_runV (As := [.int (20 : Int32)]) (rest := []) ⟨hx, hb, hml, hown, hts⟩ (c_X8_works l G h_t h_t_text h_t_said h_t_many h_t_grades h_t_doubts h_t_vals h_t_waits h_t_fresh h_t_freshMany H.size t_trace t_typed t_when t_then t_at t_token t_start t_valMany t_waitMany t_open t_saying t_quarrel t_vals t_waits (20 : Int32) o21 ho21) (cwV 1 hts gX8_says_X8_works rfl rfl rfl (by decide +kernel) ⟨Nat.le_of_ble_eq_true rfl, Nat.le_of_ble_eq_true rfl⟩) (pcA_preV hg hc hP hD hS hA [0, 2, 3] rfl (by decide) (q0 := 0) (ci := 8) rfl rfl rfl) rfl rfl hl.1 rfl (lv_room (Nat.le_of_ble_eq_true rfl)) dX8_says_234 ⟨Nat.zero_le _, Nat.zero_le _⟩) hP hD hS hA [0, 2, 3] [1] rfl rfl (by decide) (by decide) (fun _ H locs _ hP hD hS => ?_)
                have hP : va_P G.1 vwCl [(h_t, .inr (8, [.long t_trace, .ref h_t_text, .int t_typed, .ref h_t_said, .ref h_t_many, .long t_when, .long t_then, .ref h_t_grades, .ref h_t_doubts, .int t_at, .int t_token, .int t_start, .ref h_t_vals, .ref h_t_waits, .int o21.1, .int o21.2.1, .int t_open, .long t_saying, .ref h_t_fresh, .ref h_t_freshMany, .int t_quarrel])), (h_t_text, .inl (G.2.1.2.1, 400, .inl t_text)), (h_t_vals, .inl (G.2.1.2.2, 410, .inr (.inl o21.2.2))), (h_t_waits, .inl (G.2.1.2.1, 410, .inl t_waits))] H := hP.sub [1, 0, 2, 3] rfl
                have hD : va_D A [(h_t, .inr (8, [.long t_trace, .ref h_t_text, .int t_typed, .ref h_t_said, .ref h_t_many, .long t_when, .long t_then, .ref h_t_grades, .ref h_t_doubts, .int t_at, .int t_token, .int t_start, .ref h_t_vals, .ref h_t_waits, .int o21.1, .int o21.2.1, .int t_open, .long t_saying, .ref h_t_fresh, .ref h_t_freshMany, .int t_quarrel])), (h_t_text, .inl (G.2.1.2.1, 400, .inl t_text)), (h_t_vals, .inl (G.2.1.2.2, 410, .inr (.inl o21.2.2))), (h_t_waits, .inl (G.2.1.2.1, 410, .inl t_waits))] := hD.sub [1, 0, 2, 3] (by decide) rfl
                refine lv_aload_n hx hb dX8_says_237 rfl (lv_at hl 0 rfl) ?_
                refine lv_dup hx hb dX8_says_238 rfl ?_
                refine va_get (D := G.1) (ci := 8) (v := .int o21.2.1) (C := RX8) (T := TX8) (N := 21) hx hb hts hiX8 hown hg.1 hP 0 rfl rfl 15 (by decide) (hts (.fieldLink RX8 103 "AsARuleModel" "waitMany" "I") (by decide +kernel)) (fun _ h9 => h9) rfl dX8_says_239 ?_
                refine lv_iconst (v := (1 : Int32)) hx hb dX8_says_242 (by decide) ?_
                refine lv_isub hx hb dX8_says_243 ?_
                refine lv_topi (fun x22 ex22 => ?_)
                have hf := lt_n hf x22 ex22
                refine va_put (D := G.1) (ci := 8) (v := .int x22) (ty := .int) (C := RX8) (T := TX8) (N := 21) hx hb hts hiX8 tyX8 tyX8_ok nmX8 hown hg.1 hP hD hS 0 rfl rfl 15 (by decide) (hts (.fieldLink RX8 103 "AsARuleModel" "waitMany" "I") (by decide +kernel)) (fun _ h9 => h9) rfl (by decide +kernel) rfl rfl (Nat.le_of_ble_eq_true rfl) dX8_says_244 (fun H locs hP hD hS => ?_)
                have hP : va_P G.1 vwCl [(h_t, .inr (8, [.long t_trace, .ref h_t_text, .int t_typed, .ref h_t_said, .ref h_t_many, .long t_when, .long t_then, .ref h_t_grades, .ref h_t_doubts, .int t_at, .int t_token, .int t_start, .ref h_t_vals, .ref h_t_waits, .int o21.1, .int x22, .int t_open, .long t_saying, .ref h_t_fresh, .ref h_t_freshMany, .int t_quarrel])), (h_t_text, .inl (G.2.1.2.1, 400, .inl t_text)), (h_t_vals, .inl (G.2.1.2.2, 410, .inr (.inl o21.2.2))), (h_t_waits, .inl (G.2.1.2.1, 410, .inl t_waits))] H := hP
                have hD : va_D A [(h_t, .inr (8, [.long t_trace, .ref h_t_text, .int t_typed, .ref h_t_said, .ref h_t_many, .long t_when, .long t_then, .ref h_t_grades, .ref h_t_doubts, .int t_at, .int t_token, .int t_start, .ref h_t_vals, .ref h_t_waits, .int o21.1, .int x22, .int t_open, .long t_saying, .ref h_t_fresh, .ref h_t_freshMany, .int t_quarrel])), (h_t_text, .inl (G.2.1.2.1, 400, .inl t_text)), (h_t_vals, .inl (G.2.1.2.2, 410, .inr (.inl o21.2.2))), (h_t_waits, .inl (G.2.1.2.1, 410, .inl t_waits))] := hD
                refine lv_aload_n hx hb dX8_says_247 rfl (lv_at hl 0 rfl) ?_
                refine lv_dup hx hb dX8_says_248 rfl ?_
                refine va_get (D := G.1) (ci := 8) (v := .int t_open) (C := RX8) (T := TX8) (N := 21) hx hb hts hiX8 hown hg.1 hP 0 rfl rfl 16 (by decide) (hts (.fieldLink RX8 109 "AsARuleModel" "open" "I") (by decide +kernel)) (fun _ h9 => h9) rfl dX8_says_249 ?_
                refine lv_iconst (v := (1 : Int32)) hx hb dX8_says_252 (by decide) ?_
                refine lv_isub hx hb dX8_says_253 ?_
                refine lv_topi (fun x23 ex23 => ?_)
                have hf := lt_n hf x23 ex23
                refine va_put (D := G.1) (ci := 8) (v := .int x23) (ty := .int) (C := RX8) (T := TX8) (N := 21) hx hb hts hiX8 tyX8 tyX8_ok nmX8 hown hg.1 hP hD hS 0 rfl rfl 16 (by decide) (hts (.fieldLink RX8 109 "AsARuleModel" "open" "I") (by decide +kernel)) (fun _ h9 => h9) rfl (by decide +kernel) rfl rfl (Nat.le_of_ble_eq_true rfl) dX8_says_254 (fun H locs hP hD hS => ?_)
                have hP : va_P G.1 vwCl [(h_t, .inr (8, [.long t_trace, .ref h_t_text, .int t_typed, .ref h_t_said, .ref h_t_many, .long t_when, .long t_then, .ref h_t_grades, .ref h_t_doubts, .int t_at, .int t_token, .int t_start, .ref h_t_vals, .ref h_t_waits, .int o21.1, .int x22, .int x23, .long t_saying, .ref h_t_fresh, .ref h_t_freshMany, .int t_quarrel])), (h_t_text, .inl (G.2.1.2.1, 400, .inl t_text)), (h_t_vals, .inl (G.2.1.2.2, 410, .inr (.inl o21.2.2))), (h_t_waits, .inl (G.2.1.2.1, 410, .inl t_waits))] H := hP
                have hD : va_D A [(h_t, .inr (8, [.long t_trace, .ref h_t_text, .int t_typed, .ref h_t_said, .ref h_t_many, .long t_when, .long t_then, .ref h_t_grades, .ref h_t_doubts, .int t_at, .int t_token, .int t_start, .ref h_t_vals, .ref h_t_waits, .int o21.1, .int x22, .int x23, .long t_saying, .ref h_t_fresh, .ref h_t_freshMany, .int t_quarrel])), (h_t_text, .inl (G.2.1.2.1, 400, .inl t_text)), (h_t_vals, .inl (G.2.1.2.2, 410, .inr (.inl o21.2.2))), (h_t_waits, .inl (G.2.1.2.1, 410, .inl t_waits))] := hD
                refine lv_aload_n hx hb dX8_says_257 rfl (lv_at hl 0 rfl) ?_
                obtain ⟨o24, ho24, hf⟩ := bd_e hf
                refine af_v (wr := [(h_t_text, .inl (G.2.1.2.1, 400, .inl t_text))]) (va_runV (As := []) (rest := []) ⟨hx, hb, hml, hown, hts⟩ (c_X8_turns l G h_t h_t_text h_t_said h_t_many h_t_grades h_t_doubts h_t_vals h_t_waits h_t_fresh h_t_freshMany H.size t_trace t_typed t_when t_then t_at t_token t_start o21.1 x22 x23 t_saying t_quarrel o21.2.2 t_waits o24 ho24) (cwV 0 hts gX8_says_X8_turns rfl rfl rfl (by decide +kernel) ⟨Nat.le_of_ble_eq_true rfl, Nat.le_of_ble_eq_true rfl⟩) (pcA_preV hg hc hP hD hS hA [0, 2, 3] rfl (by decide) (q0 := 0) (ci := 8) rfl rfl rfl) rfl rfl hl.1 rfl (lv_room (Nat.le_of_ble_eq_true rfl)) dX8_says_258 ⟨Nat.zero_le _, Nat.zero_le _⟩) hP hD hS hA [0, 2, 3] [1] rfl rfl (by decide) (by decide) (fun _ H locs _ hP hD hS => ?_)
                have hP : va_P G.1 vwCl [(h_t, .inr (8, [.long t_trace, .ref h_t_text, .int t_typed, .ref h_t_said, .ref h_t_many, .long t_when, .long t_then, .ref h_t_grades, .ref h_t_doubts, .int t_at, .int t_token, .int t_start, .ref h_t_vals, .ref h_t_waits, .int o21.1, .int o24.1, .int o24.2.1, .long t_saying, .ref h_t_fresh, .ref h_t_freshMany, .int t_quarrel])), (h_t_text, .inl (G.2.1.2.1, 400, .inl t_text)), (h_t_vals, .inl (G.2.1.2.2, 410, .inr (.inl o24.2.2))), (h_t_waits, .inl (G.2.1.2.1, 410, .inl t_waits))] H := hP.sub [1, 0, 2, 3] rfl
                have hD : va_D A [(h_t, .inr (8, [.long t_trace, .ref h_t_text, .int t_typed, .ref h_t_said, .ref h_t_many, .long t_when, .long t_then, .ref h_t_grades, .ref h_t_doubts, .int t_at, .int t_token, .int t_start, .ref h_t_vals, .ref h_t_waits, .int o21.1, .int o24.1, .int o24.2.1, .long t_saying, .ref h_t_fresh, .ref h_t_freshMany, .int t_quarrel])), (h_t_text, .inl (G.2.1.2.1, 400, .inl t_text)), (h_t_vals, .inl (G.2.1.2.2, 410, .inr (.inl o24.2.2))), (h_t_waits, .inl (G.2.1.2.1, 410, .inl t_waits))] := hD.sub [1, 0, 2, 3] (by decide) rfl
                refine lv_goto (tgt := 291) hx hb dX8_says_261 (by decide) ?_
                refine lv_aload_n hx hb dX8_says_291 rfl (lv_at hl 0 rfl) ?_
                obtain ⟨o25, ho25, hf⟩ := bd_e hf
                refine af_v (wr := [(h_t_vals, .inl (G.2.1.2.2, 410, .inr (.inl o24.2.2))), (h_t_waits, .inl (G.2.1.2.1, 410, .inl t_waits))]) (va_runV (As := []) (rest := []) ⟨hx, hb, hml, hown, hts⟩ (c_X8_scans l G h_t h_t_text h_t_said h_t_many h_t_grades h_t_doubts h_t_vals h_t_waits h_t_fresh h_t_freshMany H.size t_trace t_typed t_when t_then t_at t_token t_start o21.1 o24.1 o24.2.1 t_saying t_quarrel t_text o25 ho25) (cwV 0 hts gX8_says_X8_scans rfl rfl rfl (by decide +kernel) ⟨Nat.le_of_ble_eq_true rfl, Nat.le_of_ble_eq_true rfl⟩) (pcA_preV hg hc hP hD hS hA [0, 1] rfl (by decide) (q0 := 0) (ci := 8) rfl rfl rfl) rfl rfl hl.1 rfl (lv_room (Nat.le_of_ble_eq_true rfl)) dX8_says_292 ⟨Nat.zero_le _, Nat.zero_le _⟩) hP hD hS hA [0, 1] [2, 3] rfl rfl (by decide) (by decide) (fun _ H locs _ hP hD hS => ?_)
                have hP : va_P G.1 vwCl [(h_t, .inr (8, [.long t_trace, .ref h_t_text, .int t_typed, .ref h_t_said, .ref h_t_many, .long t_when, .long t_then, .ref h_t_grades, .ref h_t_doubts, .int o25.1, .int o25.2.1, .int o25.2.2, .ref h_t_vals, .ref h_t_waits, .int o21.1, .int o24.1, .int o24.2.1, .long t_saying, .ref h_t_fresh, .ref h_t_freshMany, .int t_quarrel])), (h_t_text, .inl (G.2.1.2.1, 400, .inl t_text)), (h_t_vals, .inl (G.2.1.2.2, 410, .inr (.inl o24.2.2))), (h_t_waits, .inl (G.2.1.2.1, 410, .inl t_waits))] H := hP.sub [2, 3, 0, 1] rfl
                have hD : va_D A [(h_t, .inr (8, [.long t_trace, .ref h_t_text, .int t_typed, .ref h_t_said, .ref h_t_many, .long t_when, .long t_then, .ref h_t_grades, .ref h_t_doubts, .int o25.1, .int o25.2.1, .int o25.2.2, .ref h_t_vals, .ref h_t_waits, .int o21.1, .int o24.1, .int o24.2.1, .long t_saying, .ref h_t_fresh, .ref h_t_freshMany, .int t_quarrel])), (h_t_text, .inl (G.2.1.2.1, 400, .inl t_text)), (h_t_vals, .inl (G.2.1.2.2, 410, .inr (.inl o24.2.2))), (h_t_waits, .inl (G.2.1.2.1, 410, .inl t_waits))] := hD.sub [2, 3, 0, 1] (by decide) rfl
                refine lv_goto (tgt := 17) hx hb dX8_says_295 (by decide) ?_
                exact ih o25.1 o25.2.1 o25.2.2 o21.1 o24.1 o24.2.1 o24.2.2 t_waits v1 hf _ _ hP hD hS _ hl
          · have hf := it_t c17 hf
            exact hw_179 t_saying _ ih t_at t_token t_start t_valMany t_waitMany t_open t_vals t_waits hf _ _ hP hD hS _ (lv_sub hl [0] rfl)
      · have hf := it_f c15 hf
        refine lv_aload_n hx hb dX8_says_21 rfl (lv_at hl 0 rfl) ?_
        refine va_get (D := G.1) (ci := 8) (v := .int t_token) (C := RX8) (T := TX8) (N := 21) hx hb hts hiX8 hown hg.1 hP 0 rfl rfl 10 (by decide) (hts (.fieldLink RX8 89 "AsARuleModel" "token" "I") (by decide +kernel)) (fun _ h9 => h9) rfl dX8_says_22 ?_
        refine lv_bipush (v := (22 : Int32)) hx hb dX8_says_25 (by decide) ?_
        refine lv_icmp_eq (tgt := 39) hx hb dX8_says_27 (by decide) (fun c26 => ?_) (fun c26 => ?_)
        · have hf := it_t c26 hf
          exact hw_39 t_saying _ ih t_at t_token t_start t_valMany t_waitMany t_open t_vals t_waits v1 hf _ _ hP hD hS _ hl
        · have hf := it_f c26 hf
          refine lv_aload_n hx hb dX8_says_30 rfl (lv_at hl 0 rfl) ?_
          refine va_get (D := G.1) (ci := 8) (v := .int t_token) (C := RX8) (T := TX8) (N := 21) hx hb hts hiX8 hown hg.1 hP 0 rfl rfl 10 (by decide) (hts (.fieldLink RX8 89 "AsARuleModel" "token" "I") (by decide +kernel)) (fun _ h9 => h9) rfl dX8_says_31 ?_
          refine lv_bipush (v := (23 : Int32)) hx hb dX8_says_34 (by decide) ?_
          refine lv_icmp_ne (tgt := 86) hx hb dX8_says_36 (by decide) (fun c27 => ?_) (fun c27 => ?_)
          · have hf := it_f c27 hf
            refine lv_aload_n hx hb dX8_says_86 rfl (lv_at hl 0 rfl) ?_
            obtain ⟨o28, ho28, hf⟩ := bd_e hf
            refine af_i (wr := [(h_t_text, .inl (G.2.1.2.1, 400, .inl t_text)), (h_t_vals, .inl (G.2.1.2.2, 410, .inr (.inl t_vals))), (h_t_waits, .inl (G.2.1.2.1, 410, .inl t_waits))]) (va_runV (As := []) (rest := []) ⟨hx, hb, hml, hown, hts⟩ (c_X8_isOne l G h_t h_t_text h_t_said h_t_many h_t_grades h_t_doubts h_t_vals h_t_waits h_t_fresh h_t_freshMany H.size t_trace t_typed t_when t_then t_at t_token t_start t_valMany t_waitMany t_open t_saying t_quarrel o28 ho28) (cwV 0 hts gX8_says_X8_isOne rfl rfl rfl (by decide +kernel) ⟨Nat.le_of_ble_eq_true rfl, Nat.le_of_ble_eq_true rfl⟩) (pcA_preV hg hc hP hD hS hA [0] rfl (by decide) (q0 := 0) (ci := 8) rfl rfl rfl) rfl rfl hl.1 rfl (lv_room (Nat.le_of_ble_eq_true rfl)) dX8_says_87 ⟨Nat.zero_le _, Nat.zero_le _⟩) hP hD hS hA [0] [1, 2, 3] rfl rfl (by decide) (by decide) (fun _ H locs _ hP hD hS => ?_)
            have hP : va_P G.1 vwCl [(h_t, .inr (8, [.long t_trace, .ref h_t_text, .int t_typed, .ref h_t_said, .ref h_t_many, .long t_when, .long t_then, .ref h_t_grades, .ref h_t_doubts, .int t_at, .int t_token, .int t_start, .ref h_t_vals, .ref h_t_waits, .int t_valMany, .int t_waitMany, .int t_open, .long t_saying, .ref h_t_fresh, .ref h_t_freshMany, .int t_quarrel])), (h_t_text, .inl (G.2.1.2.1, 400, .inl t_text)), (h_t_vals, .inl (G.2.1.2.2, 410, .inr (.inl t_vals))), (h_t_waits, .inl (G.2.1.2.1, 410, .inl t_waits))] H := hP.sub [3, 0, 1, 2] rfl
            have hD : va_D A [(h_t, .inr (8, [.long t_trace, .ref h_t_text, .int t_typed, .ref h_t_said, .ref h_t_many, .long t_when, .long t_then, .ref h_t_grades, .ref h_t_doubts, .int t_at, .int t_token, .int t_start, .ref h_t_vals, .ref h_t_waits, .int t_valMany, .int t_waitMany, .int t_open, .long t_saying, .ref h_t_fresh, .ref h_t_freshMany, .int t_quarrel])), (h_t_text, .inl (G.2.1.2.1, 400, .inl t_text)), (h_t_vals, .inl (G.2.1.2.2, 410, .inr (.inl t_vals))), (h_t_waits, .inl (G.2.1.2.1, 410, .inl t_waits))] := hD.sub [3, 0, 1, 2] (by decide) rfl
            refine lv_if_eq (tgt := 159) hx hb dX8_says_90 (by decide) (fun c29 => ?_) (fun c29 => ?_)
            · have hf := it_t c29 hf
              refine lv_iconst (v := (0 : Int32)) hx hb dX8_says_159 (by decide) ?_
              rw [← Option.some.inj hf]
              exact rt_z (u := ()) hx hb hr zb_0 hlocks hP hD trivial hS dX8_says_160
            · have hf := it_f c29 hf
              refine lv_aload_n hx hb dX8_says_93 rfl (lv_at hl 0 rfl) ?_
              refine va_get (D := G.1) (ci := 8) (v := .ref h_t_vals) (C := RX8) (T := TX8) (N := 21) hx hb hts hiX8 hown hg.1 hP 0 rfl rfl 12 (by decide) (hts (.fieldLink RX8 26 "AsARuleModel" "vals" "[J") (by decide +kernel)) (fun _ h9 => h9) rfl dX8_says_94 ?_
              refine lv_aload_n hx hb dX8_says_97 rfl (lv_at hl 0 rfl) ?_
              refine va_get (D := G.1) (ci := 8) (v := .int t_valMany) (C := RX8) (T := TX8) (N := 21) hx hb hts hiX8 hown hg.1 hP 0 rfl rfl 14 (by decide) (hts (.fieldLink RX8 106 "AsARuleModel" "valMany" "I") (by decide +kernel)) (fun _ h9 => h9) rfl dX8_says_98 ?_
              refine lv_aload_n hx hb dX8_says_101 rfl (lv_at hl 0 rfl) ?_
              refine va_get (D := G.1) (ci := 8) (v := .int t_token) (C := RX8) (T := TX8) (N := 21) hx hb hts hiX8 hown hg.1 hP 0 rfl rfl 10 (by decide) (hts (.fieldLink RX8 89 "AsARuleModel" "token" "I") (by decide +kernel)) (fun _ h9 => h9) rfl dX8_says_102 ?_
              refine lv_bipush (v := (17 : Int32)) hx hb dX8_says_105 (by decide) ?_
              refine lv_icmp_ne (tgt := 114) hx hb dX8_says_107 (by decide) (fun c30 => ?_) (fun c30 => ?_)
              · have hf := it_f c30 hf
                refine lv_aload_n hx hb dX8_says_114 rfl (lv_at hl 0 rfl) ?_
                refine va_get (D := G.1) (ci := 8) (v := .int t_token) (C := RX8) (T := TX8) (N := 21) hx hb hts hiX8 hown hg.1 hP 0 rfl rfl 10 (by decide) (hts (.fieldLink RX8 89 "AsARuleModel" "token" "I") (by decide +kernel)) (fun _ h9 => h9) rfl dX8_says_115 ?_
                refine lv_bipush (v := (18 : Int32)) hx hb dX8_says_118 (by decide) ?_
                refine lv_icmp_ne (tgt := 129) hx hb dX8_says_120 (by decide) (fun c31 => ?_) (fun c31 => ?_)
                · have hf := it_f c31 hf
                  refine lv_aload_n hx hb dX8_says_129 rfl (lv_at hl 0 rfl) ?_
                  refine va_get (D := G.1) (ci := 8) (v := .int t_token) (C := RX8) (T := TX8) (N := 21) hx hb hts hiX8 hown hg.1 hP 0 rfl rfl 10 (by decide) (hts (.fieldLink RX8 89 "AsARuleModel" "token" "I") (by decide +kernel)) (fun _ h9 => h9) rfl dX8_says_130 ?_
                  refine lv_bipush (v := (10 : Int32)) hx hb dX8_says_133 (by decide) ?_
                  refine lv_isub hx hb dX8_says_135 ?_
                  obtain ⟨o32, ho32, hf⟩ := bd_e hf
                  refine af0_l (va_runS (As := [.int (t_token - (10 : Int32))]) (rest := [.int t_valMany, .ref h_t_vals]) ⟨hx, hb, hml, hown, hts⟩ (c_X8_letter l G H.size (t_token - (10 : Int32)) o32 ho32) (va_cwS 1 hts gX8_says_X8_letter rfl rfl rfl (by decide +kernel) ⟨Nat.le_of_ble_eq_true rfl, Nat.le_of_ble_eq_true rfl⟩) (pcA_pre hg hc hP hD hS hA [] rfl rfl [.int (t_token - (10 : Int32))]) rfl rfl hl.1 rfl (lv_room (Nat.le_of_ble_eq_true rfl)) dX8_says_136 ⟨Nat.zero_le _, Nat.zero_le _⟩) hP hD hS hA (fun H locs hP hD hS => ?_)
                  exact hw_139 t_saying _ ih t_at t_token t_start t_valMany t_waitMany t_open t_vals t_waits t_valMany o32 hf _ _ hP hD hS _ (lv_sub hl [0] rfl)
                · have hf := it_t c31 hf
                  refine lv_ldc2 (v := (-1 : Int64)) hx hb hown (hts (.constantLong RX8 38 (-1 : Int64)) (by decide +kernel)) dX8_says_123 ?_
                  refine lv_goto (tgt := 139) hx hb dX8_says_126 (by decide) ?_
                  exact hw_139 t_saying _ ih t_at t_token t_start t_valMany t_waitMany t_open t_vals t_waits t_valMany (-1 : Int64) hf _ _ hP hD hS _ (lv_sub hl [0] rfl)
              · have hf := it_t c30 hf
                refine lv_lconst (v := (0 : Int64)) hx hb dX8_says_110 (by decide) ?_
                refine lv_goto (tgt := 139) hx hb dX8_says_111 (by decide) ?_
                exact hw_139 t_saying _ ih t_at t_token t_start t_valMany t_waitMany t_open t_vals t_waits t_valMany (0 : Int64) hf _ _ hP hD hS _ (lv_sub hl [0] rfl)
          · have hf := it_t c27 hf
            exact hw_39 t_saying _ ih t_at t_token t_start t_valMany t_waitMany t_open t_vals t_waits v1 hf _ _ hP hD hS _ hl
  unfold f_X8_says at hf
  refine en (fun H locs hP hD hS => ?_) hP hD
  refine lv_aload_n hx hb dX8_says_0 rfl (lv_at hl 0 rfl) ?_
  refine lv_iconst (v := (0 : Int32)) hx hb dX8_says_1 (by decide) ?_
  refine va_put (D := G.1) (ci := 8) (v := .int (0 : Int32)) (ty := .int) (C := RX8) (T := TX8) (N := 21) hx hb hts hiX8 tyX8 tyX8_ok nmX8 hown hg.1 hP hD hS 0 rfl rfl 14 (by decide) (hts (.fieldLink RX8 106 "AsARuleModel" "valMany" "I") (by decide +kernel)) (fun _ h9 => h9) rfl (by decide +kernel) rfl rfl (Nat.le_of_ble_eq_true rfl) dX8_says_2 (fun H locs hP hD hS => ?_)
  have hP : va_P G.1 vwCl [(h_t, .inr (8, [.long t_trace, .ref h_t_text, .int t_typed, .ref h_t_said, .ref h_t_many, .long t_when, .long t_then, .ref h_t_grades, .ref h_t_doubts, .int t_at, .int t_token, .int t_start, .ref h_t_vals, .ref h_t_waits, .int (0 : Int32), .int t_waitMany, .int t_open, .long t_saying, .ref h_t_fresh, .ref h_t_freshMany, .int t_quarrel])), (h_t_text, .inl (G.2.1.2.1, 400, .inl t_text)), (h_t_vals, .inl (G.2.1.2.2, 410, .inr (.inl t_vals))), (h_t_waits, .inl (G.2.1.2.1, 410, .inl t_waits))] H := hP
  have hD : va_D A [(h_t, .inr (8, [.long t_trace, .ref h_t_text, .int t_typed, .ref h_t_said, .ref h_t_many, .long t_when, .long t_then, .ref h_t_grades, .ref h_t_doubts, .int t_at, .int t_token, .int t_start, .ref h_t_vals, .ref h_t_waits, .int (0 : Int32), .int t_waitMany, .int t_open, .long t_saying, .ref h_t_fresh, .ref h_t_freshMany, .int t_quarrel])), (h_t_text, .inl (G.2.1.2.1, 400, .inl t_text)), (h_t_vals, .inl (G.2.1.2.2, 410, .inr (.inl t_vals))), (h_t_waits, .inl (G.2.1.2.1, 410, .inl t_waits))] := hD
  refine lv_aload_n hx hb dX8_says_5 rfl (lv_at hl 0 rfl) ?_
  refine lv_iconst (v := (0 : Int32)) hx hb dX8_says_6 (by decide) ?_
  refine va_put (D := G.1) (ci := 8) (v := .int (0 : Int32)) (ty := .int) (C := RX8) (T := TX8) (N := 21) hx hb hts hiX8 tyX8 tyX8_ok nmX8 hown hg.1 hP hD hS 0 rfl rfl 15 (by decide) (hts (.fieldLink RX8 103 "AsARuleModel" "waitMany" "I") (by decide +kernel)) (fun _ h9 => h9) rfl (by decide +kernel) rfl rfl (Nat.le_of_ble_eq_true rfl) dX8_says_7 (fun H locs hP hD hS => ?_)
  have hP : va_P G.1 vwCl [(h_t, .inr (8, [.long t_trace, .ref h_t_text, .int t_typed, .ref h_t_said, .ref h_t_many, .long t_when, .long t_then, .ref h_t_grades, .ref h_t_doubts, .int t_at, .int t_token, .int t_start, .ref h_t_vals, .ref h_t_waits, .int (0 : Int32), .int (0 : Int32), .int t_open, .long t_saying, .ref h_t_fresh, .ref h_t_freshMany, .int t_quarrel])), (h_t_text, .inl (G.2.1.2.1, 400, .inl t_text)), (h_t_vals, .inl (G.2.1.2.2, 410, .inr (.inl t_vals))), (h_t_waits, .inl (G.2.1.2.1, 410, .inl t_waits))] H := hP
  have hD : va_D A [(h_t, .inr (8, [.long t_trace, .ref h_t_text, .int t_typed, .ref h_t_said, .ref h_t_many, .long t_when, .long t_then, .ref h_t_grades, .ref h_t_doubts, .int t_at, .int t_token, .int t_start, .ref h_t_vals, .ref h_t_waits, .int (0 : Int32), .int (0 : Int32), .int t_open, .long t_saying, .ref h_t_fresh, .ref h_t_freshMany, .int t_quarrel])), (h_t_text, .inl (G.2.1.2.1, 400, .inl t_text)), (h_t_vals, .inl (G.2.1.2.2, 410, .inr (.inl t_vals))), (h_t_waits, .inl (G.2.1.2.1, 410, .inl t_waits))] := hD
  refine lv_aload_n hx hb dX8_says_10 rfl (lv_at hl 0 rfl) ?_
  refine lv_iconst (v := (0 : Int32)) hx hb dX8_says_11 (by decide) ?_
  refine va_put (D := G.1) (ci := 8) (v := .int (0 : Int32)) (ty := .int) (C := RX8) (T := TX8) (N := 21) hx hb hts hiX8 tyX8 tyX8_ok nmX8 hown hg.1 hP hD hS 0 rfl rfl 16 (by decide) (hts (.fieldLink RX8 109 "AsARuleModel" "open" "I") (by decide +kernel)) (fun _ h9 => h9) rfl (by decide +kernel) rfl rfl (Nat.le_of_ble_eq_true rfl) dX8_says_12 (fun H locs hP hD hS => ?_)
  have hP : va_P G.1 vwCl [(h_t, .inr (8, [.long t_trace, .ref h_t_text, .int t_typed, .ref h_t_said, .ref h_t_many, .long t_when, .long t_then, .ref h_t_grades, .ref h_t_doubts, .int t_at, .int t_token, .int t_start, .ref h_t_vals, .ref h_t_waits, .int (0 : Int32), .int (0 : Int32), .int (0 : Int32), .long t_saying, .ref h_t_fresh, .ref h_t_freshMany, .int t_quarrel])), (h_t_text, .inl (G.2.1.2.1, 400, .inl t_text)), (h_t_vals, .inl (G.2.1.2.2, 410, .inr (.inl t_vals))), (h_t_waits, .inl (G.2.1.2.1, 410, .inl t_waits))] H := hP
  have hD : va_D A [(h_t, .inr (8, [.long t_trace, .ref h_t_text, .int t_typed, .ref h_t_said, .ref h_t_many, .long t_when, .long t_then, .ref h_t_grades, .ref h_t_doubts, .int t_at, .int t_token, .int t_start, .ref h_t_vals, .ref h_t_waits, .int (0 : Int32), .int (0 : Int32), .int (0 : Int32), .long t_saying, .ref h_t_fresh, .ref h_t_freshMany, .int t_quarrel])), (h_t_text, .inl (G.2.1.2.1, 400, .inl t_text)), (h_t_vals, .inl (G.2.1.2.2, 410, .inr (.inl t_vals))), (h_t_waits, .inl (G.2.1.2.1, 410, .inl t_waits))] := hD
  refine lv_iconst (v := (1 : Int32)) hx hb dX8_says_15 (by decide) ?_
  refine lv_istore_n (lv' := [(1, .int (1 : Int32)), (0, .ref h_t)]) hx hb dX8_says_16 rfl hl (by decide) rfl (fun ls hl => ?_)
  exact hw_17 t_saying fu t_at t_token t_start (0 : Int32) (0 : Int32) (0 : Int32) t_vals t_waits (1 : Int32) hf _ _ hP hD hS _ (lv_sub hl [1, 0] rfl)
-- method X8_rules
def f_X8_rules (t_typed : Int32) (t_at : Int32) (t_token : Int32) (t_start : Int32) (t_valMany : Int32) (t_waitMany : Int32) (t_open : Int32) (t_saying : Int64) (t_text : Nat → Int32) (t_vals : Nat → Int64) (t_waits : Nat → Int32) (t_fresh : Nat → Int64) (a1 : Int32) : Option (Int32 × Int32 × Int32 × Int32 × Int32 × Int32 × Int32 × Int64 × (Nat → Int64) × (Nat → Int32) × (Nat → Int64)) :=
  bd (f_X8_says t_typed t_at t_token t_start t_valMany t_waitMany t_open t_saying t_text t_vals t_waits) (fun o1 => if o1.1 = (0 : Int32) then some ((0 : Int32), o1.2.1, o1.2.2.1, o1.2.2.2.1, o1.2.2.2.2.1, o1.2.2.2.2.2.1, o1.2.2.2.2.2.2.1, o1.2.2.2.2.2.2.2.1, o1.2.2.2.2.2.2.2.2.1, o1.2.2.2.2.2.2.2.2.2, t_fresh) else gd (ib ((9 : Int32) + a1) 45) (if o1.2.2.1 = (4 : Int32) then bd (f_X8_scans t_typed o1.2.1 o1.2.2.1 o1.2.2.2.1 t_text) (fun o4 => bd (f_X8_says t_typed o4.1 o4.2.1 o4.2.2 o1.2.2.2.2.1 o1.2.2.2.2.2.1 o1.2.2.2.2.2.2.1 o1.2.2.2.2.2.2.2.1 t_text o1.2.2.2.2.2.2.2.2.1 o1.2.2.2.2.2.2.2.2.2) (fun o5 => if o5.1 = (0 : Int32) then some ((0 : Int32), o5.2.1, o5.2.2.1, o5.2.2.2.1, o5.2.2.2.2.1, o5.2.2.2.2.2.1, o5.2.2.2.2.2.2.1, o5.2.2.2.2.2.2.2.1, o5.2.2.2.2.2.2.2.2.1, o5.2.2.2.2.2.2.2.2.2, (vp_updL t_fresh ((9 : Int32) + a1).toNatClampNeg o1.2.2.2.2.2.2.2.1)) else gd (ib ((18 : Int32) + a1) 45) (some ((1 : Int32), o5.2.1, o5.2.2.1, o5.2.2.2.1, o5.2.2.2.2.1, o5.2.2.2.2.2.1, o5.2.2.2.2.2.2.1, o5.2.2.2.2.2.2.2.1, o5.2.2.2.2.2.2.2.2.1, o5.2.2.2.2.2.2.2.2.2, (vp_updL (vp_updL t_fresh ((9 : Int32) + a1).toNatClampNeg o1.2.2.2.2.2.2.2.1) ((18 : Int32) + a1).toNatClampNeg o5.2.2.2.2.2.2.2.1))))) else some ((0 : Int32), o1.2.1, o1.2.2.1, o1.2.2.2.1, o1.2.2.2.2.1, o1.2.2.2.2.2.1, o1.2.2.2.2.2.2.1, o1.2.2.2.2.2.2.2.1, o1.2.2.2.2.2.2.2.2.1, o1.2.2.2.2.2.2.2.2.2, (vp_updL t_fresh ((9 : Int32) + a1).toNatClampNeg o1.2.2.2.2.2.2.2.1))))
set_option maxHeartbeats 4000000 in
set_option maxRecDepth 100000 in
theorem c_X8_rules (l : Launch) (G : GG) (h_t h_t_text h_t_said h_t_many h_t_grades h_t_doubts h_t_vals h_t_waits h_t_fresh h_t_freshMany : Nat) (sz : Nat) (t_trace : Int64) (t_typed : Int32) (t_when : Int64) (t_then : Int64) (t_at : Int32) (t_token : Int32) (t_start : Int32) (t_valMany : Int32) (t_waitMany : Int32) (t_open : Int32) (t_saying : Int64) (t_quarrel : Int32) (t_text : Nat → Int32) (t_vals : Nat → Int64) (t_waits : Nat → Int32) (t_fresh : Nat → Int64) (a1 : Int32) (o : Int32 × Int32 × Int32 × Int32 × Int32 × Int32 × Int32 × Int64 × (Nat → Int64) × (Nat → Int32) × (Nat → Int64)) (ho : f_X8_rules t_typed t_at t_token t_start t_valMany t_waitMany t_open t_saying t_text t_vals t_waits t_fresh a1 = some o)  : Met l yX8_rules wsX8_rules ({ frames := 4, cells := 0, slots := 0, locals := 86 } : Room) (pcA G [.ref h_t, .int a1] [(h_t, .inr (8, [.long t_trace, .ref h_t_text, .int t_typed, .ref h_t_said, .ref h_t_many, .long t_when, .long t_then, .ref h_t_grades, .ref h_t_doubts, .int t_at, .int t_token, .int t_start, .ref h_t_vals, .ref h_t_waits, .int t_valMany, .int t_waitMany, .int t_open, .long t_saying, .ref h_t_fresh, .ref h_t_freshMany, .int t_quarrel])), (h_t_text, .inl (G.2.1.2.1, 400, .inl t_text)), (h_t_vals, .inl (G.2.1.2.2, 410, .inr (.inl t_vals))), (h_t_waits, .inl (G.2.1.2.1, 410, .inl t_waits)), (h_t_fresh, .inl (G.2.1.2.2, 45, .inr (.inl t_fresh)))] sz) (qcI Unit G o.1 (fun _ => True) (fun _ => [(h_t, .inr (8, [.long t_trace, .ref h_t_text, .int t_typed, .ref h_t_said, .ref h_t_many, .long t_when, .long t_then, .ref h_t_grades, .ref h_t_doubts, .int o.2.1, .int o.2.2.1, .int o.2.2.2.1, .ref h_t_vals, .ref h_t_waits, .int o.2.2.2.2.1, .int o.2.2.2.2.2.1, .int o.2.2.2.2.2.2.1, .long o.2.2.2.2.2.2.2.1, .ref h_t_fresh, .ref h_t_freshMany, .int t_quarrel])), (h_t_text, .inl (G.2.1.2.1, 400, .inl t_text)), (h_t_vals, .inl (G.2.1.2.2, 410, .inr (.inl o.2.2.2.2.2.2.2.2.1))), (h_t_waits, .inl (G.2.1.2.1, 410, .inl o.2.2.2.2.2.2.2.2.2.1)), (h_t_fresh, .inl (G.2.1.2.2, 45, .inr (.inl o.2.2.2.2.2.2.2.2.2.2)))]) (va_A [(h_t, .inr (8, [.long t_trace, .ref h_t_text, .int t_typed, .ref h_t_said, .ref h_t_many, .long t_when, .long t_then, .ref h_t_grades, .ref h_t_doubts, .int t_at, .int t_token, .int t_start, .ref h_t_vals, .ref h_t_waits, .int t_valMany, .int t_waitMany, .int t_open, .long t_saying, .ref h_t_fresh, .ref h_t_freshMany, .int t_quarrel])), (h_t_text, .inl (G.2.1.2.1, 400, .inl t_text)), (h_t_vals, .inl (G.2.1.2.2, 410, .inr (.inl t_vals))), (h_t_waits, .inl (G.2.1.2.1, 410, .inl t_waits)), (h_t_fresh, .inl (G.2.1.2.2, 45, .inr (.inl t_fresh)))] sz)) 0 0 (va_A [(h_t, .inr (8, [.long t_trace, .ref h_t_text, .int t_typed, .ref h_t_said, .ref h_t_many, .long t_when, .long t_then, .ref h_t_grades, .ref h_t_doubts, .int t_at, .int t_token, .int t_start, .ref h_t_vals, .ref h_t_waits, .int t_valMany, .int t_waitMany, .int t_open, .long t_saying, .ref h_t_fresh, .ref h_t_freshMany, .int t_quarrel])), (h_t_text, .inl (G.2.1.2.1, 400, .inl t_text)), (h_t_vals, .inl (G.2.1.2.2, 410, .inr (.inl t_vals))), (h_t_waits, .inl (G.2.1.2.1, 410, .inl t_waits)), (h_t_fresh, .inl (G.2.1.2.2, 45, .inr (.inl t_fresh)))] sz) := by
  refine Met.ofW (cc := cX8_rules) (maxL := 2) (ret := (some .boolean)) (by decide) rfl ?_
  intro p e s m args below meth c s₁ B hml hv
  obtain ⟨rfl, hsz, hP, hg, hD0, hc⟩ := hv
  have hx := B.exec
  have hb := B.bytes
  have hr := B.returns
  have hts := atoms_spec (ws := wsX8_rules) B.pre
  have hown : s.vm.findClass RX8 = some m.cls := findClass_of_methodNamed B.named
  have hlocks := B.notSynchronized
  subst hsz
  have hD := hD0.self (sz := s.heap.size)
  generalize hAe : va_A [(h_t, .inr (8, [.long t_trace, .ref h_t_text, .int t_typed, .ref h_t_said, .ref h_t_many, .long t_when, .long t_then, .ref h_t_grades, .ref h_t_doubts, .int t_at, .int t_token, .int t_start, .ref h_t_vals, .ref h_t_waits, .int t_valMany, .int t_waitMany, .int t_open, .long t_saying, .ref h_t_fresh, .ref h_t_freshMany, .int t_quarrel])), (h_t_text, .inl (G.2.1.2.1, 400, .inl t_text)), (h_t_vals, .inl (G.2.1.2.2, 410, .inr (.inl t_vals))), (h_t_waits, .inl (G.2.1.2.1, 410, .inl t_waits)), (h_t_fresh, .inl (G.2.1.2.2, 45, .inr (.inl t_fresh)))] s.heap.size = A at hD hc ⊢
  have hA : ∀ q : Nat, s.heap.size ≤ q → A q := fun q h => by rw [← hAe]; exact Or.inr h
  have hiX8 : ∀ w ∈ wsX80, w ∈ wsX8_rules := by decide +kernel
  have hl := lv_entry ([.ref h_t, .int a1]) (n := 2) (Nat.le_of_ble_eq_true rfl)
  rw [lg_entry_eq]
  generalize (lg_sl ([.ref h_t, .int a1]) ++ List.replicate (2 - (lg_sl ([.ref h_t, .int a1])).length) Slot.unset).toArray = ls at hl ⊢
  have hl : lv_has ls 2 [(0, .ref h_t), (1, .int a1)] := hl
  have hf := ho
  unfold f_X8_rules at hf
  refine en (fun H locs hP hD hS => ?_) hP hD
  refine lv_aload_n hx hb dX8_rules_0 rfl (lv_at hl 0 rfl) ?_
  obtain ⟨o1, ho1, hf⟩ := bd_e hf
  refine af_i (wr := [(h_t_fresh, .inl (G.2.1.2.2, 45, .inr (.inl t_fresh)))]) (va_runV (As := []) (rest := []) ⟨hx, hb, hml, hown, hts⟩ (c_X8_says l G h_t h_t_text h_t_said h_t_many h_t_grades h_t_doubts h_t_vals h_t_waits h_t_fresh h_t_freshMany H.size t_trace t_typed t_when t_then t_at t_token t_start t_valMany t_waitMany t_open t_saying t_quarrel t_text t_vals t_waits o1 ho1) (cwV 0 hts gX8_rules_X8_says rfl rfl rfl (by decide +kernel) ⟨Nat.le_of_ble_eq_true rfl, Nat.le_of_ble_eq_true rfl⟩) (pcA_preV hg hc hP hD hS hA [0, 1, 2, 3] rfl (by decide) (q0 := 0) (ci := 8) rfl rfl rfl) rfl rfl hl.1 rfl (lv_room (Nat.le_of_ble_eq_true rfl)) dX8_rules_1 ⟨Nat.zero_le _, Nat.zero_le _⟩) hP hD hS hA [0, 1, 2, 3] [4] rfl rfl (by decide) (by decide) (fun _ H locs _ hP hD hS => ?_)
  have hP : va_P G.1 vwCl [(h_t, .inr (8, [.long t_trace, .ref h_t_text, .int t_typed, .ref h_t_said, .ref h_t_many, .long t_when, .long t_then, .ref h_t_grades, .ref h_t_doubts, .int o1.2.1, .int o1.2.2.1, .int o1.2.2.2.1, .ref h_t_vals, .ref h_t_waits, .int o1.2.2.2.2.1, .int o1.2.2.2.2.2.1, .int o1.2.2.2.2.2.2.1, .long o1.2.2.2.2.2.2.2.1, .ref h_t_fresh, .ref h_t_freshMany, .int t_quarrel])), (h_t_text, .inl (G.2.1.2.1, 400, .inl t_text)), (h_t_vals, .inl (G.2.1.2.2, 410, .inr (.inl o1.2.2.2.2.2.2.2.2.1))), (h_t_waits, .inl (G.2.1.2.1, 410, .inl o1.2.2.2.2.2.2.2.2.2)), (h_t_fresh, .inl (G.2.1.2.2, 45, .inr (.inl t_fresh)))] H := hP.sub [1, 2, 3, 4, 0] rfl
  have hD : va_D A [(h_t, .inr (8, [.long t_trace, .ref h_t_text, .int t_typed, .ref h_t_said, .ref h_t_many, .long t_when, .long t_then, .ref h_t_grades, .ref h_t_doubts, .int o1.2.1, .int o1.2.2.1, .int o1.2.2.2.1, .ref h_t_vals, .ref h_t_waits, .int o1.2.2.2.2.1, .int o1.2.2.2.2.2.1, .int o1.2.2.2.2.2.2.1, .long o1.2.2.2.2.2.2.2.1, .ref h_t_fresh, .ref h_t_freshMany, .int t_quarrel])), (h_t_text, .inl (G.2.1.2.1, 400, .inl t_text)), (h_t_vals, .inl (G.2.1.2.2, 410, .inr (.inl o1.2.2.2.2.2.2.2.2.1))), (h_t_waits, .inl (G.2.1.2.1, 410, .inl o1.2.2.2.2.2.2.2.2.2)), (h_t_fresh, .inl (G.2.1.2.2, 45, .inr (.inl t_fresh)))] := hD.sub [1, 2, 3, 4, 0] (by decide) rfl
  refine lv_if_ne (tgt := 9) hx hb dX8_rules_4 (by decide) (fun c2 => ?_) (fun c2 => ?_)
  · have hf := it_f c2 hf
    refine lv_aload_n hx hb dX8_rules_9 rfl (lv_at hl 0 rfl) ?_
    refine va_get (D := G.1) (ci := 8) (v := .ref h_t_fresh) (C := RX8) (T := TX8) (N := 21) hx hb hts hiX8 hown hg.1 hP 0 rfl rfl 18 (by decide) (hts (.fieldLink RX8 32 "AsARuleModel" "fresh" "[J") (by decide +kernel)) (fun _ h9 => h9) rfl dX8_rules_10 ?_
    refine lv_bipush (v := (9 : Int32)) hx hb dX8_rules_13 (by decide) ?_
    refine lv_iload_n hx hb dX8_rules_15 rfl (lv_at hl 1 rfl) ?_
    refine lv_iadd hx hb dX8_rules_16 ?_
    refine lv_aload_n hx hb dX8_rules_17 rfl (lv_at hl 0 rfl) ?_
    refine va_get (D := G.1) (ci := 8) (v := .long o1.2.2.2.2.2.2.2.1) (C := RX8) (T := TX8) (N := 21) hx hb hts hiX8 hown hg.1 hP 0 rfl rfl 17 (by decide) (hts (.fieldLink RX8 134 "AsARuleModel" "saying" "J") (by decide +kernel)) (fun _ h9 => h9) rfl dX8_rules_18 ?_
    refine va_last hx hb hg.1 hP hD hS 4 2 rfl rfl (ib_in (gd_t hf)) dX8_rules_21 (fun H locs hP hD hS => ?_)
    have hf := gd_x hf
    have hP : va_P G.1 vwCl [(h_t, .inr (8, [.long t_trace, .ref h_t_text, .int t_typed, .ref h_t_said, .ref h_t_many, .long t_when, .long t_then, .ref h_t_grades, .ref h_t_doubts, .int o1.2.1, .int o1.2.2.1, .int o1.2.2.2.1, .ref h_t_vals, .ref h_t_waits, .int o1.2.2.2.2.1, .int o1.2.2.2.2.2.1, .int o1.2.2.2.2.2.2.1, .long o1.2.2.2.2.2.2.2.1, .ref h_t_fresh, .ref h_t_freshMany, .int t_quarrel])), (h_t_text, .inl (G.2.1.2.1, 400, .inl t_text)), (h_t_vals, .inl (G.2.1.2.2, 410, .inr (.inl o1.2.2.2.2.2.2.2.2.1))), (h_t_waits, .inl (G.2.1.2.1, 410, .inl o1.2.2.2.2.2.2.2.2.2)), (h_t_fresh, .inl (G.2.1.2.2, 45, .inr (.inl (vp_updL t_fresh ((9 : Int32) + a1).toNatClampNeg o1.2.2.2.2.2.2.2.1))))] H := hP
    have hD : va_D A [(h_t, .inr (8, [.long t_trace, .ref h_t_text, .int t_typed, .ref h_t_said, .ref h_t_many, .long t_when, .long t_then, .ref h_t_grades, .ref h_t_doubts, .int o1.2.1, .int o1.2.2.1, .int o1.2.2.2.1, .ref h_t_vals, .ref h_t_waits, .int o1.2.2.2.2.1, .int o1.2.2.2.2.2.1, .int o1.2.2.2.2.2.2.1, .long o1.2.2.2.2.2.2.2.1, .ref h_t_fresh, .ref h_t_freshMany, .int t_quarrel])), (h_t_text, .inl (G.2.1.2.1, 400, .inl t_text)), (h_t_vals, .inl (G.2.1.2.2, 410, .inr (.inl o1.2.2.2.2.2.2.2.2.1))), (h_t_waits, .inl (G.2.1.2.1, 410, .inl o1.2.2.2.2.2.2.2.2.2)), (h_t_fresh, .inl (G.2.1.2.2, 45, .inr (.inl (vp_updL t_fresh ((9 : Int32) + a1).toNatClampNeg o1.2.2.2.2.2.2.2.1))))] := hD
    refine lv_aload_n hx hb dX8_rules_22 rfl (lv_at hl 0 rfl) ?_
    refine va_get (D := G.1) (ci := 8) (v := .int o1.2.2.1) (C := RX8) (T := TX8) (N := 21) hx hb hts hiX8 hown hg.1 hP 0 rfl rfl 10 (by decide) (hts (.fieldLink RX8 89 "AsARuleModel" "token" "I") (by decide +kernel)) (fun _ h9 => h9) rfl dX8_rules_23 ?_
    refine lv_iconst (v := (4 : Int32)) hx hb dX8_rules_26 (by decide) ?_
    refine lv_icmp_eq (tgt := 32) hx hb dX8_rules_27 (by decide) (fun c3 => ?_) (fun c3 => ?_)
    · have hf := it_t c3 hf
      refine lv_aload_n hx hb dX8_rules_32 rfl (lv_at hl 0 rfl) ?_
      obtain ⟨o4, ho4, hf⟩ := bd_e hf
      refine af_v (wr := [(h_t_vals, .inl (G.2.1.2.2, 410, .inr (.inl o1.2.2.2.2.2.2.2.2.1))), (h_t_waits, .inl (G.2.1.2.1, 410, .inl o1.2.2.2.2.2.2.2.2.2)), (h_t_fresh, .inl (G.2.1.2.2, 45, .inr (.inl (vp_updL t_fresh ((9 : Int32) + a1).toNatClampNeg o1.2.2.2.2.2.2.2.1))))]) (va_runV (As := []) (rest := []) ⟨hx, hb, hml, hown, hts⟩ (c_X8_scans l G h_t h_t_text h_t_said h_t_many h_t_grades h_t_doubts h_t_vals h_t_waits h_t_fresh h_t_freshMany H.size t_trace t_typed t_when t_then o1.2.1 o1.2.2.1 o1.2.2.2.1 o1.2.2.2.2.1 o1.2.2.2.2.2.1 o1.2.2.2.2.2.2.1 o1.2.2.2.2.2.2.2.1 t_quarrel t_text o4 ho4) (cwV 0 hts gX8_rules_X8_scans rfl rfl rfl (by decide +kernel) ⟨Nat.le_of_ble_eq_true rfl, Nat.le_of_ble_eq_true rfl⟩) (pcA_preV hg hc hP hD hS hA [0, 1] rfl (by decide) (q0 := 0) (ci := 8) rfl rfl rfl) rfl rfl hl.1 rfl (lv_room (Nat.le_of_ble_eq_true rfl)) dX8_rules_33 ⟨Nat.zero_le _, Nat.zero_le _⟩) hP hD hS hA [0, 1] [2, 3, 4] rfl rfl (by decide) (by decide) (fun _ H locs _ hP hD hS => ?_)
      have hP : va_P G.1 vwCl [(h_t, .inr (8, [.long t_trace, .ref h_t_text, .int t_typed, .ref h_t_said, .ref h_t_many, .long t_when, .long t_then, .ref h_t_grades, .ref h_t_doubts, .int o4.1, .int o4.2.1, .int o4.2.2, .ref h_t_vals, .ref h_t_waits, .int o1.2.2.2.2.1, .int o1.2.2.2.2.2.1, .int o1.2.2.2.2.2.2.1, .long o1.2.2.2.2.2.2.2.1, .ref h_t_fresh, .ref h_t_freshMany, .int t_quarrel])), (h_t_text, .inl (G.2.1.2.1, 400, .inl t_text)), (h_t_vals, .inl (G.2.1.2.2, 410, .inr (.inl o1.2.2.2.2.2.2.2.2.1))), (h_t_waits, .inl (G.2.1.2.1, 410, .inl o1.2.2.2.2.2.2.2.2.2)), (h_t_fresh, .inl (G.2.1.2.2, 45, .inr (.inl (vp_updL t_fresh ((9 : Int32) + a1).toNatClampNeg o1.2.2.2.2.2.2.2.1))))] H := hP.sub [3, 4, 0, 1, 2] rfl
      have hD : va_D A [(h_t, .inr (8, [.long t_trace, .ref h_t_text, .int t_typed, .ref h_t_said, .ref h_t_many, .long t_when, .long t_then, .ref h_t_grades, .ref h_t_doubts, .int o4.1, .int o4.2.1, .int o4.2.2, .ref h_t_vals, .ref h_t_waits, .int o1.2.2.2.2.1, .int o1.2.2.2.2.2.1, .int o1.2.2.2.2.2.2.1, .long o1.2.2.2.2.2.2.2.1, .ref h_t_fresh, .ref h_t_freshMany, .int t_quarrel])), (h_t_text, .inl (G.2.1.2.1, 400, .inl t_text)), (h_t_vals, .inl (G.2.1.2.2, 410, .inr (.inl o1.2.2.2.2.2.2.2.2.1))), (h_t_waits, .inl (G.2.1.2.1, 410, .inl o1.2.2.2.2.2.2.2.2.2)), (h_t_fresh, .inl (G.2.1.2.2, 45, .inr (.inl (vp_updL t_fresh ((9 : Int32) + a1).toNatClampNeg o1.2.2.2.2.2.2.2.1))))] := hD.sub [3, 4, 0, 1, 2] (by decide) rfl
      refine lv_aload_n hx hb dX8_rules_36 rfl (lv_at hl 0 rfl) ?_
      obtain ⟨o5, ho5, hf⟩ := bd_e hf
      refine af_i (wr := [(h_t_fresh, .inl (G.2.1.2.2, 45, .inr (.inl (vp_updL t_fresh ((9 : Int32) + a1).toNatClampNeg o1.2.2.2.2.2.2.2.1))))]) (va_runV (As := []) (rest := []) ⟨hx, hb, hml, hown, hts⟩ (c_X8_says l G h_t h_t_text h_t_said h_t_many h_t_grades h_t_doubts h_t_vals h_t_waits h_t_fresh h_t_freshMany H.size t_trace t_typed t_when t_then o4.1 o4.2.1 o4.2.2 o1.2.2.2.2.1 o1.2.2.2.2.2.1 o1.2.2.2.2.2.2.1 o1.2.2.2.2.2.2.2.1 t_quarrel t_text o1.2.2.2.2.2.2.2.2.1 o1.2.2.2.2.2.2.2.2.2 o5 ho5) (cwV 0 hts gX8_rules_X8_says rfl rfl rfl (by decide +kernel) ⟨Nat.le_of_ble_eq_true rfl, Nat.le_of_ble_eq_true rfl⟩) (pcA_preV hg hc hP hD hS hA [0, 1, 2, 3] rfl (by decide) (q0 := 0) (ci := 8) rfl rfl rfl) rfl rfl hl.1 rfl (lv_room (Nat.le_of_ble_eq_true rfl)) dX8_rules_37 ⟨Nat.zero_le _, Nat.zero_le _⟩) hP hD hS hA [0, 1, 2, 3] [4] rfl rfl (by decide) (by decide) (fun _ H locs _ hP hD hS => ?_)
      have hP : va_P G.1 vwCl [(h_t, .inr (8, [.long t_trace, .ref h_t_text, .int t_typed, .ref h_t_said, .ref h_t_many, .long t_when, .long t_then, .ref h_t_grades, .ref h_t_doubts, .int o5.2.1, .int o5.2.2.1, .int o5.2.2.2.1, .ref h_t_vals, .ref h_t_waits, .int o5.2.2.2.2.1, .int o5.2.2.2.2.2.1, .int o5.2.2.2.2.2.2.1, .long o5.2.2.2.2.2.2.2.1, .ref h_t_fresh, .ref h_t_freshMany, .int t_quarrel])), (h_t_text, .inl (G.2.1.2.1, 400, .inl t_text)), (h_t_vals, .inl (G.2.1.2.2, 410, .inr (.inl o5.2.2.2.2.2.2.2.2.1))), (h_t_waits, .inl (G.2.1.2.1, 410, .inl o5.2.2.2.2.2.2.2.2.2)), (h_t_fresh, .inl (G.2.1.2.2, 45, .inr (.inl (vp_updL t_fresh ((9 : Int32) + a1).toNatClampNeg o1.2.2.2.2.2.2.2.1))))] H := hP.sub [1, 2, 3, 4, 0] rfl
      have hD : va_D A [(h_t, .inr (8, [.long t_trace, .ref h_t_text, .int t_typed, .ref h_t_said, .ref h_t_many, .long t_when, .long t_then, .ref h_t_grades, .ref h_t_doubts, .int o5.2.1, .int o5.2.2.1, .int o5.2.2.2.1, .ref h_t_vals, .ref h_t_waits, .int o5.2.2.2.2.1, .int o5.2.2.2.2.2.1, .int o5.2.2.2.2.2.2.1, .long o5.2.2.2.2.2.2.2.1, .ref h_t_fresh, .ref h_t_freshMany, .int t_quarrel])), (h_t_text, .inl (G.2.1.2.1, 400, .inl t_text)), (h_t_vals, .inl (G.2.1.2.2, 410, .inr (.inl o5.2.2.2.2.2.2.2.2.1))), (h_t_waits, .inl (G.2.1.2.1, 410, .inl o5.2.2.2.2.2.2.2.2.2)), (h_t_fresh, .inl (G.2.1.2.2, 45, .inr (.inl (vp_updL t_fresh ((9 : Int32) + a1).toNatClampNeg o1.2.2.2.2.2.2.2.1))))] := hD.sub [1, 2, 3, 4, 0] (by decide) rfl
      refine lv_if_ne (tgt := 45) hx hb dX8_rules_40 (by decide) (fun c6 => ?_) (fun c6 => ?_)
      · have hf := it_f c6 hf
        refine lv_aload_n hx hb dX8_rules_45 rfl (lv_at hl 0 rfl) ?_
        refine va_get (D := G.1) (ci := 8) (v := .ref h_t_fresh) (C := RX8) (T := TX8) (N := 21) hx hb hts hiX8 hown hg.1 hP 0 rfl rfl 18 (by decide) (hts (.fieldLink RX8 32 "AsARuleModel" "fresh" "[J") (by decide +kernel)) (fun _ h9 => h9) rfl dX8_rules_46 ?_
        refine lv_bipush (v := (18 : Int32)) hx hb dX8_rules_49 (by decide) ?_
        refine lv_iload_n hx hb dX8_rules_51 rfl (lv_at hl 1 rfl) ?_
        refine lv_iadd hx hb dX8_rules_52 ?_
        refine lv_aload_n hx hb dX8_rules_53 rfl (lv_at hl 0 rfl) ?_
        refine va_get (D := G.1) (ci := 8) (v := .long o5.2.2.2.2.2.2.2.1) (C := RX8) (T := TX8) (N := 21) hx hb hts hiX8 hown hg.1 hP 0 rfl rfl 17 (by decide) (hts (.fieldLink RX8 134 "AsARuleModel" "saying" "J") (by decide +kernel)) (fun _ h9 => h9) rfl dX8_rules_54 ?_
        refine va_last hx hb hg.1 hP hD hS 4 2 rfl rfl (ib_in (gd_t hf)) dX8_rules_57 (fun H locs hP hD hS => ?_)
        have hf := gd_x hf
        have hP : va_P G.1 vwCl [(h_t, .inr (8, [.long t_trace, .ref h_t_text, .int t_typed, .ref h_t_said, .ref h_t_many, .long t_when, .long t_then, .ref h_t_grades, .ref h_t_doubts, .int o5.2.1, .int o5.2.2.1, .int o5.2.2.2.1, .ref h_t_vals, .ref h_t_waits, .int o5.2.2.2.2.1, .int o5.2.2.2.2.2.1, .int o5.2.2.2.2.2.2.1, .long o5.2.2.2.2.2.2.2.1, .ref h_t_fresh, .ref h_t_freshMany, .int t_quarrel])), (h_t_text, .inl (G.2.1.2.1, 400, .inl t_text)), (h_t_vals, .inl (G.2.1.2.2, 410, .inr (.inl o5.2.2.2.2.2.2.2.2.1))), (h_t_waits, .inl (G.2.1.2.1, 410, .inl o5.2.2.2.2.2.2.2.2.2)), (h_t_fresh, .inl (G.2.1.2.2, 45, .inr (.inl (vp_updL (vp_updL t_fresh ((9 : Int32) + a1).toNatClampNeg o1.2.2.2.2.2.2.2.1) ((18 : Int32) + a1).toNatClampNeg o5.2.2.2.2.2.2.2.1))))] H := hP
        have hD : va_D A [(h_t, .inr (8, [.long t_trace, .ref h_t_text, .int t_typed, .ref h_t_said, .ref h_t_many, .long t_when, .long t_then, .ref h_t_grades, .ref h_t_doubts, .int o5.2.1, .int o5.2.2.1, .int o5.2.2.2.1, .ref h_t_vals, .ref h_t_waits, .int o5.2.2.2.2.1, .int o5.2.2.2.2.2.1, .int o5.2.2.2.2.2.2.1, .long o5.2.2.2.2.2.2.2.1, .ref h_t_fresh, .ref h_t_freshMany, .int t_quarrel])), (h_t_text, .inl (G.2.1.2.1, 400, .inl t_text)), (h_t_vals, .inl (G.2.1.2.2, 410, .inr (.inl o5.2.2.2.2.2.2.2.2.1))), (h_t_waits, .inl (G.2.1.2.1, 410, .inl o5.2.2.2.2.2.2.2.2.2)), (h_t_fresh, .inl (G.2.1.2.2, 45, .inr (.inl (vp_updL (vp_updL t_fresh ((9 : Int32) + a1).toNatClampNeg o1.2.2.2.2.2.2.2.1) ((18 : Int32) + a1).toNatClampNeg o5.2.2.2.2.2.2.2.1))))] := hD
        refine lv_iconst (v := (1 : Int32)) hx hb dX8_rules_58 (by decide) ?_
        rw [← Option.some.inj hf]
        exact rt_z (u := ()) hx hb hr zb_1 hlocks hP hD trivial hS dX8_rules_59
      · have hf := it_t c6 hf
        refine lv_iconst (v := (0 : Int32)) hx hb dX8_rules_43 (by decide) ?_
        rw [← Option.some.inj hf]
        exact rt_z (u := ()) hx hb hr zb_0 hlocks hP hD trivial hS dX8_rules_44
    · have hf := it_f c3 hf
      refine lv_iconst (v := (0 : Int32)) hx hb dX8_rules_30 (by decide) ?_
      rw [← Option.some.inj hf]
      exact rt_z (u := ()) hx hb hr zb_0 hlocks hP hD trivial hS dX8_rules_31
  · have hf := it_t c2 hf
    refine lv_iconst (v := (0 : Int32)) hx hb dX8_rules_7 (by decide) ?_
    rw [← Option.some.inj hf]
    exact rt_z (u := ()) hx hb hr zb_0 hlocks hP hD trivial hS dX8_rules_8
-- method X8_item
def jn_X8_item_77 (t_typed : Int32) (t_text : Nat → Int32) (t_at : Int32) (t_token : Int32) (t_start : Int32) (t_valMany : Int32) (t_waitMany : Int32) (t_open : Int32) (t_saying : Int64) (t_vals : Nat → Int64) (t_waits : Nat → Int32) (t_fresh : Nat → Int64) (t_freshMany : Nat → Int32) (v1 : Int32) : Option (Int32 × Int32 × Int32 × Int32 × Int32 × Int32 × Int32 × Int64 × (Nat → Int64) × (Nat → Int32) × (Nat → Int64) × (Nat → Int32)) :=
  if t_token = (19 : Int32) then gd (ib v1 5) (gd (ib v1 5) (bd (f_X8_scans t_typed t_at t_token t_start t_text) (fun o2 => some ((1 : Int32), o2.1, o2.2.1, o2.2.2, t_valMany, t_waitMany, t_open, t_saying, t_vals, t_waits, t_fresh, (upd t_freshMany v1.toNatClampNeg ((t_freshMany v1.toNatClampNeg) + (1 : Int32))))))) else some ((0 : Int32), t_at, t_token, t_start, t_valMany, t_waitMany, t_open, t_saying, t_vals, t_waits, t_fresh, t_freshMany)
def f_X8_item (t_typed : Int32) (t_at : Int32) (t_token : Int32) (t_start : Int32) (t_valMany : Int32) (t_waitMany : Int32) (t_open : Int32) (t_saying : Int64) (t_text : Nat → Int32) (t_vals : Nat → Int64) (t_waits : Nat → Int32) (t_fresh : Nat → Int64) (t_freshMany : Nat → Int32) : Option (Int32 × Int32 × Int32 × Int32 × Int32 × Int32 × Int32 × Int64 × (Nat → Int64) × (Nat → Int32) × (Nat → Int64) × (Nat → Int32)) :=
  bd (f_X8_sortOf t_token) (fun o3 => if o3 < (0 : Int32) then some ((0 : Int32), t_at, t_token, t_start, t_valMany, t_waitMany, t_open, t_saying, t_vals, t_waits, t_fresh, t_freshMany) else gd (ib o3 5) (bd (f_X8_mostOf o3) (fun o5 => if (t_freshMany o3.toNatClampNeg) = o5 then some ((0 : Int32), t_at, t_token, t_start, t_valMany, t_waitMany, t_open, t_saying, t_vals, t_waits, t_fresh, t_freshMany) else gd (ib o3 5) (lt (t_freshMany o3.toNatClampNeg) (fun x7 => bd (f_X8_scans t_typed t_at t_token t_start t_text) (fun o8 => if o3 = (1 : Int32) then bd (f_X8_rules t_typed o8.1 o8.2.1 o8.2.2 t_valMany t_waitMany t_open t_saying t_text t_vals t_waits t_fresh x7) (fun o12 => if o12.1 = (0 : Int32) then some ((0 : Int32), o12.2.1, o12.2.2.1, o12.2.2.2.1, o12.2.2.2.2.1, o12.2.2.2.2.2.1, o12.2.2.2.2.2.2.1, o12.2.2.2.2.2.2.2.1, o12.2.2.2.2.2.2.2.2.1, o12.2.2.2.2.2.2.2.2.2.1, o12.2.2.2.2.2.2.2.2.2.2, t_freshMany) else jn_X8_item_77 t_typed t_text o12.2.1 o12.2.2.1 o12.2.2.2.1 o12.2.2.2.2.1 o12.2.2.2.2.2.1 o12.2.2.2.2.2.2.1 o12.2.2.2.2.2.2.2.1 o12.2.2.2.2.2.2.2.2.1 o12.2.2.2.2.2.2.2.2.2.1 o12.2.2.2.2.2.2.2.2.2.2 t_freshMany o3) else bd (f_X8_says t_typed o8.1 o8.2.1 o8.2.2 t_valMany t_waitMany t_open t_saying t_text t_vals t_waits) (fun o10 => if o10.1 = (0 : Int32) then some ((0 : Int32), o10.2.1, o10.2.2.1, o10.2.2.2.1, o10.2.2.2.2.1, o10.2.2.2.2.2.1, o10.2.2.2.2.2.2.1, o10.2.2.2.2.2.2.2.1, o10.2.2.2.2.2.2.2.2.1, o10.2.2.2.2.2.2.2.2.2, t_fresh, t_freshMany) else gd (ib (((9 : Int32) * o3) + x7) 45) (jn_X8_item_77 t_typed t_text o10.2.1 o10.2.2.1 o10.2.2.2.1 o10.2.2.2.2.1 o10.2.2.2.2.2.1 o10.2.2.2.2.2.2.1 o10.2.2.2.2.2.2.2.1 o10.2.2.2.2.2.2.2.2.1 o10.2.2.2.2.2.2.2.2.2 (vp_updL t_fresh (((9 : Int32) * o3) + x7).toNatClampNeg o10.2.2.2.2.2.2.2.1) t_freshMany o3))))))))
set_option maxHeartbeats 4000000 in
set_option maxRecDepth 100000 in
theorem c_X8_item (l : Launch) (G : GG) (h_t h_t_text h_t_said h_t_many h_t_grades h_t_doubts h_t_vals h_t_waits h_t_fresh h_t_freshMany : Nat) (sz : Nat) (t_trace : Int64) (t_typed : Int32) (t_when : Int64) (t_then : Int64) (t_at : Int32) (t_token : Int32) (t_start : Int32) (t_valMany : Int32) (t_waitMany : Int32) (t_open : Int32) (t_saying : Int64) (t_quarrel : Int32) (t_text : Nat → Int32) (t_vals : Nat → Int64) (t_waits : Nat → Int32) (t_fresh : Nat → Int64) (t_freshMany : Nat → Int32)  (o : Int32 × Int32 × Int32 × Int32 × Int32 × Int32 × Int32 × Int64 × (Nat → Int64) × (Nat → Int32) × (Nat → Int64) × (Nat → Int32)) (ho : f_X8_item t_typed t_at t_token t_start t_valMany t_waitMany t_open t_saying t_text t_vals t_waits t_fresh t_freshMany = some o)  : Met l yX8_item wsX8_item ({ frames := 5, cells := 0, slots := 0, locals := 107 } : Room) (pcA G [.ref h_t] [(h_t, .inr (8, [.long t_trace, .ref h_t_text, .int t_typed, .ref h_t_said, .ref h_t_many, .long t_when, .long t_then, .ref h_t_grades, .ref h_t_doubts, .int t_at, .int t_token, .int t_start, .ref h_t_vals, .ref h_t_waits, .int t_valMany, .int t_waitMany, .int t_open, .long t_saying, .ref h_t_fresh, .ref h_t_freshMany, .int t_quarrel])), (h_t_text, .inl (G.2.1.2.1, 400, .inl t_text)), (h_t_vals, .inl (G.2.1.2.2, 410, .inr (.inl t_vals))), (h_t_waits, .inl (G.2.1.2.1, 410, .inl t_waits)), (h_t_fresh, .inl (G.2.1.2.2, 45, .inr (.inl t_fresh))), (h_t_freshMany, .inl (G.2.1.2.1, 5, .inl t_freshMany))] sz) (qcI Unit G o.1 (fun _ => True) (fun _ => [(h_t, .inr (8, [.long t_trace, .ref h_t_text, .int t_typed, .ref h_t_said, .ref h_t_many, .long t_when, .long t_then, .ref h_t_grades, .ref h_t_doubts, .int o.2.1, .int o.2.2.1, .int o.2.2.2.1, .ref h_t_vals, .ref h_t_waits, .int o.2.2.2.2.1, .int o.2.2.2.2.2.1, .int o.2.2.2.2.2.2.1, .long o.2.2.2.2.2.2.2.1, .ref h_t_fresh, .ref h_t_freshMany, .int t_quarrel])), (h_t_text, .inl (G.2.1.2.1, 400, .inl t_text)), (h_t_vals, .inl (G.2.1.2.2, 410, .inr (.inl o.2.2.2.2.2.2.2.2.1))), (h_t_waits, .inl (G.2.1.2.1, 410, .inl o.2.2.2.2.2.2.2.2.2.1)), (h_t_fresh, .inl (G.2.1.2.2, 45, .inr (.inl o.2.2.2.2.2.2.2.2.2.2.1))), (h_t_freshMany, .inl (G.2.1.2.1, 5, .inl o.2.2.2.2.2.2.2.2.2.2.2))]) (va_A [(h_t, .inr (8, [.long t_trace, .ref h_t_text, .int t_typed, .ref h_t_said, .ref h_t_many, .long t_when, .long t_then, .ref h_t_grades, .ref h_t_doubts, .int t_at, .int t_token, .int t_start, .ref h_t_vals, .ref h_t_waits, .int t_valMany, .int t_waitMany, .int t_open, .long t_saying, .ref h_t_fresh, .ref h_t_freshMany, .int t_quarrel])), (h_t_text, .inl (G.2.1.2.1, 400, .inl t_text)), (h_t_vals, .inl (G.2.1.2.2, 410, .inr (.inl t_vals))), (h_t_waits, .inl (G.2.1.2.1, 410, .inl t_waits)), (h_t_fresh, .inl (G.2.1.2.2, 45, .inr (.inl t_fresh))), (h_t_freshMany, .inl (G.2.1.2.1, 5, .inl t_freshMany))] sz)) 0 0 (va_A [(h_t, .inr (8, [.long t_trace, .ref h_t_text, .int t_typed, .ref h_t_said, .ref h_t_many, .long t_when, .long t_then, .ref h_t_grades, .ref h_t_doubts, .int t_at, .int t_token, .int t_start, .ref h_t_vals, .ref h_t_waits, .int t_valMany, .int t_waitMany, .int t_open, .long t_saying, .ref h_t_fresh, .ref h_t_freshMany, .int t_quarrel])), (h_t_text, .inl (G.2.1.2.1, 400, .inl t_text)), (h_t_vals, .inl (G.2.1.2.2, 410, .inr (.inl t_vals))), (h_t_waits, .inl (G.2.1.2.1, 410, .inl t_waits)), (h_t_fresh, .inl (G.2.1.2.2, 45, .inr (.inl t_fresh))), (h_t_freshMany, .inl (G.2.1.2.1, 5, .inl t_freshMany))] sz) := by
  refine Met.ofW (cc := cX8_item) (maxL := 3) (ret := (some .boolean)) (by decide) rfl ?_
  intro p e s m args below meth c s₁ B hml hv
  obtain ⟨rfl, hsz, hP, hg, hD0, hc⟩ := hv
  have hx := B.exec
  have hb := B.bytes
  have hr := B.returns
  have hts := atoms_spec (ws := wsX8_item) B.pre
  have hown : s.vm.findClass RX8 = some m.cls := findClass_of_methodNamed B.named
  have hlocks := B.notSynchronized
  subst hsz
  have hD := hD0.self (sz := s.heap.size)
  generalize hAe : va_A [(h_t, .inr (8, [.long t_trace, .ref h_t_text, .int t_typed, .ref h_t_said, .ref h_t_many, .long t_when, .long t_then, .ref h_t_grades, .ref h_t_doubts, .int t_at, .int t_token, .int t_start, .ref h_t_vals, .ref h_t_waits, .int t_valMany, .int t_waitMany, .int t_open, .long t_saying, .ref h_t_fresh, .ref h_t_freshMany, .int t_quarrel])), (h_t_text, .inl (G.2.1.2.1, 400, .inl t_text)), (h_t_vals, .inl (G.2.1.2.2, 410, .inr (.inl t_vals))), (h_t_waits, .inl (G.2.1.2.1, 410, .inl t_waits)), (h_t_fresh, .inl (G.2.1.2.2, 45, .inr (.inl t_fresh))), (h_t_freshMany, .inl (G.2.1.2.1, 5, .inl t_freshMany))] s.heap.size = A at hD hc ⊢
  have hA : ∀ q : Nat, s.heap.size ≤ q → A q := fun q h => by rw [← hAe]; exact Or.inr h
  have hiX8 : ∀ w ∈ wsX80, w ∈ wsX8_item := by decide +kernel
  have hl := lv_entry ([.ref h_t]) (n := 3) (Nat.le_of_ble_eq_true rfl)
  rw [lg_entry_eq]
  generalize (lg_sl ([.ref h_t]) ++ List.replicate (3 - (lg_sl ([.ref h_t])).length) Slot.unset).toArray = ls at hl ⊢
  have hl : lv_has ls 3 [(0, .ref h_t)] := hl
  have hf := ho
  have hw_77 : ∀ (t_at : Int32) (t_token : Int32) (t_start : Int32) (t_valMany : Int32) (t_waitMany : Int32) (t_open : Int32) (t_saying : Int64) (t_vals : Nat → Int64) (t_waits : Nat → Int32) (t_fresh : Nat → Int64) (t_freshMany : Nat → Int32) (v1 : Int32), jn_X8_item_77 t_typed t_text t_at t_token t_start t_valMany t_waitMany t_open t_saying t_vals t_waits t_fresh t_freshMany v1 = some o → ∀ (H : Heap) (locs : List Loc), va_P G.1 vwCl [(h_t, .inr (8, [.long t_trace, .ref h_t_text, .int t_typed, .ref h_t_said, .ref h_t_many, .long t_when, .long t_then, .ref h_t_grades, .ref h_t_doubts, .int t_at, .int t_token, .int t_start, .ref h_t_vals, .ref h_t_waits, .int t_valMany, .int t_waitMany, .int t_open, .long t_saying, .ref h_t_fresh, .ref h_t_freshMany, .int t_quarrel])), (h_t_text, .inl (G.2.1.2.1, 400, .inl t_text)), (h_t_vals, .inl (G.2.1.2.2, 410, .inr (.inl t_vals))), (h_t_waits, .inl (G.2.1.2.1, 410, .inl t_waits)), (h_t_fresh, .inl (G.2.1.2.2, 45, .inr (.inl t_fresh))), (h_t_freshMany, .inl (G.2.1.2.1, 5, .inl t_freshMany))] H → va_D A [(h_t, .inr (8, [.long t_trace, .ref h_t_text, .int t_typed, .ref h_t_said, .ref h_t_many, .long t_when, .long t_then, .ref h_t_grades, .ref h_t_doubts, .int t_at, .int t_token, .int t_start, .ref h_t_vals, .ref h_t_waits, .int t_valMany, .int t_waitMany, .int t_open, .long t_saying, .ref h_t_fresh, .ref h_t_freshMany, .int t_quarrel])), (h_t_text, .inl (G.2.1.2.1, 400, .inl t_text)), (h_t_vals, .inl (G.2.1.2.2, 410, .inr (.inl t_vals))), (h_t_waits, .inl (G.2.1.2.1, 410, .inl t_waits)), (h_t_fresh, .inl (G.2.1.2.2, 45, .inr (.inl t_fresh))), (h_t_freshMany, .inl (G.2.1.2.1, 5, .inl t_freshMany))] → va_S A s.heap H locs → ∀ (ls : Array Slot), lv_has ls 3 [(0, .ref h_t), (1, .int v1)] → W p l e (headSpec wsX8_item ({ frames := 5, cells := 0, slots := 0, locals := 107 } : Room)).room s m ([.ref h_t] : List Value).toArray below meth c H locs 0 0 (MQ below (qcI Unit G o.1 (fun _ => True) (fun _ => [(h_t, .inr (8, [.long t_trace, .ref h_t_text, .int t_typed, .ref h_t_said, .ref h_t_many, .long t_when, .long t_then, .ref h_t_grades, .ref h_t_doubts, .int o.2.1, .int o.2.2.1, .int o.2.2.2.1, .ref h_t_vals, .ref h_t_waits, .int o.2.2.2.2.1, .int o.2.2.2.2.2.1, .int o.2.2.2.2.2.2.1, .long o.2.2.2.2.2.2.2.1, .ref h_t_fresh, .ref h_t_freshMany, .int t_quarrel])), (h_t_text, .inl (G.2.1.2.1, 400, .inl t_text)), (h_t_vals, .inl (G.2.1.2.2, 410, .inr (.inl o.2.2.2.2.2.2.2.2.1))), (h_t_waits, .inl (G.2.1.2.1, 410, .inl o.2.2.2.2.2.2.2.2.2.1)), (h_t_fresh, .inl (G.2.1.2.2, 45, .inr (.inl o.2.2.2.2.2.2.2.2.2.2.1))), (h_t_freshMany, .inl (G.2.1.2.1, 5, .inl o.2.2.2.2.2.2.2.2.2.2.2))]) A) ([.ref h_t] : List Value).toArray s 0 0 A) (F0 m 77 ls []) := by
    intro t_at t_token t_start t_valMany t_waitMany t_open t_saying t_vals t_waits t_fresh t_freshMany v1 hf H locs hP hD hS ls hl
    unfold jn_X8_item_77 at hf
    refine lv_aload_n hx hb dX8_item_77 rfl (lv_at hl 0 rfl) ?_
    refine va_get (D := G.1) (ci := 8) (v := .int t_token) (C := RX8) (T := TX8) (N := 21) hx hb hts hiX8 hown hg.1 hP 0 rfl rfl 10 (by decide) (hts (.fieldLink RX8 89 "AsARuleModel" "token" "I") (by decide +kernel)) (fun _ h9 => h9) rfl dX8_item_78 ?_
    refine lv_bipush (v := (19 : Int32)) hx hb dX8_item_81 (by decide) ?_
    refine lv_icmp_eq (tgt := 88) hx hb dX8_item_83 (by decide) (fun c1 => ?_) (fun c1 => ?_)
    · have hf := it_t c1 hf
      refine lv_aload_n hx hb dX8_item_88 rfl (lv_at hl 0 rfl) ?_
      refine va_get (D := G.1) (ci := 8) (v := .ref h_t_freshMany) (C := RX8) (T := TX8) (N := 21) hx hb hts hiX8 hown hg.1 hP 0 rfl rfl 19 (by decide) (hts (.fieldLink RX8 35 "AsARuleModel" "freshMany" "[I") (by decide +kernel)) (fun _ h9 => h9) rfl dX8_item_89 ?_
      refine lv_iload_n hx hb dX8_item_92 rfl (lv_at hl 1 rfl) ?_
      refine lv_dup2_11 hx hb dX8_item_93 rfl rfl ?_
      refine va_iald hx hb hg.1 hP 5 1 rfl rfl (ib_in (gd_t hf)) dX8_item_94 ?_
      have hf := gd_x hf
      refine lv_iconst (v := (1 : Int32)) hx hb dX8_item_95 (by decide) ?_
      refine lv_iadd hx hb dX8_item_96 ?_
      refine va_iast hx hb hg.1 hP hD hS 5 1 rfl rfl (ib_in (gd_t hf)) dX8_item_97 (fun H locs hP hD hS => ?_)
      have hf := gd_x hf
      have hP : va_P G.1 vwCl [(h_t, .inr (8, [.long t_trace, .ref h_t_text, .int t_typed, .ref h_t_said, .ref h_t_many, .long t_when, .long t_then, .ref h_t_grades, .ref h_t_doubts, .int t_at, .int t_token, .int t_start, .ref h_t_vals, .ref h_t_waits, .int t_valMany, .int t_waitMany, .int t_open, .long t_saying, .ref h_t_fresh, .ref h_t_freshMany, .int t_quarrel])), (h_t_text, .inl (G.2.1.2.1, 400, .inl t_text)), (h_t_vals, .inl (G.2.1.2.2, 410, .inr (.inl t_vals))), (h_t_waits, .inl (G.2.1.2.1, 410, .inl t_waits)), (h_t_fresh, .inl (G.2.1.2.2, 45, .inr (.inl t_fresh))), (h_t_freshMany, .inl (G.2.1.2.1, 5, .inl (upd t_freshMany v1.toNatClampNeg ((t_freshMany v1.toNatClampNeg) + (1 : Int32)))))] H := hP
      have hD : va_D A [(h_t, .inr (8, [.long t_trace, .ref h_t_text, .int t_typed, .ref h_t_said, .ref h_t_many, .long t_when, .long t_then, .ref h_t_grades, .ref h_t_doubts, .int t_at, .int t_token, .int t_start, .ref h_t_vals, .ref h_t_waits, .int t_valMany, .int t_waitMany, .int t_open, .long t_saying, .ref h_t_fresh, .ref h_t_freshMany, .int t_quarrel])), (h_t_text, .inl (G.2.1.2.1, 400, .inl t_text)), (h_t_vals, .inl (G.2.1.2.2, 410, .inr (.inl t_vals))), (h_t_waits, .inl (G.2.1.2.1, 410, .inl t_waits)), (h_t_fresh, .inl (G.2.1.2.2, 45, .inr (.inl t_fresh))), (h_t_freshMany, .inl (G.2.1.2.1, 5, .inl (upd t_freshMany v1.toNatClampNeg ((t_freshMany v1.toNatClampNeg) + (1 : Int32)))))] := hD
      refine lv_aload_n hx hb dX8_item_98 rfl (lv_at hl 0 rfl) ?_
      obtain ⟨o2, ho2, hf⟩ := bd_e hf
      refine af_v (wr := [(h_t_vals, .inl (G.2.1.2.2, 410, .inr (.inl t_vals))), (h_t_waits, .inl (G.2.1.2.1, 410, .inl t_waits)), (h_t_fresh, .inl (G.2.1.2.2, 45, .inr (.inl t_fresh))), (h_t_freshMany, .inl (G.2.1.2.1, 5, .inl (upd t_freshMany v1.toNatClampNeg ((t_freshMany v1.toNatClampNeg) + (1 : Int32)))))]) (va_runV (As := []) (rest := []) ⟨hx, hb, hml, hown, hts⟩ (c_X8_scans l G h_t h_t_text h_t_said h_t_many h_t_grades h_t_doubts h_t_vals h_t_waits h_t_fresh h_t_freshMany H.size t_trace t_typed t_when t_then t_at t_token t_start t_valMany t_waitMany t_open t_saying t_quarrel t_text o2 ho2) (cwV 0 hts gX8_item_X8_scans rfl rfl rfl (by decide +kernel) ⟨Nat.le_of_ble_eq_true rfl, Nat.le_of_ble_eq_true rfl⟩) (pcA_preV hg hc hP hD hS hA [0, 1] rfl (by decide) (q0 := 0) (ci := 8) rfl rfl rfl) rfl rfl hl.1 rfl (lv_room (Nat.le_of_ble_eq_true rfl)) dX8_item_99 ⟨Nat.zero_le _, Nat.zero_le _⟩) hP hD hS hA [0, 1] [2, 3, 4, 5] rfl rfl (by decide) (by decide) (fun _ H locs _ hP hD hS => ?_)
      have hP : va_P G.1 vwCl [(h_t, .inr (8, [.long t_trace, .ref h_t_text, .int t_typed, .ref h_t_said, .ref h_t_many, .long t_when, .long t_then, .ref h_t_grades, .ref h_t_doubts, .int o2.1, .int o2.2.1, .int o2.2.2, .ref h_t_vals, .ref h_t_waits, .int t_valMany, .int t_waitMany, .int t_open, .long t_saying, .ref h_t_fresh, .ref h_t_freshMany, .int t_quarrel])), (h_t_text, .inl (G.2.1.2.1, 400, .inl t_text)), (h_t_vals, .inl (G.2.1.2.2, 410, .inr (.inl t_vals))), (h_t_waits, .inl (G.2.1.2.1, 410, .inl t_waits)), (h_t_fresh, .inl (G.2.1.2.2, 45, .inr (.inl t_fresh))), (h_t_freshMany, .inl (G.2.1.2.1, 5, .inl (upd t_freshMany v1.toNatClampNeg ((t_freshMany v1.toNatClampNeg) + (1 : Int32)))))] H := hP.sub [4, 5, 0, 1, 2, 3] rfl
      have hD : va_D A [(h_t, .inr (8, [.long t_trace, .ref h_t_text, .int t_typed, .ref h_t_said, .ref h_t_many, .long t_when, .long t_then, .ref h_t_grades, .ref h_t_doubts, .int o2.1, .int o2.2.1, .int o2.2.2, .ref h_t_vals, .ref h_t_waits, .int t_valMany, .int t_waitMany, .int t_open, .long t_saying, .ref h_t_fresh, .ref h_t_freshMany, .int t_quarrel])), (h_t_text, .inl (G.2.1.2.1, 400, .inl t_text)), (h_t_vals, .inl (G.2.1.2.2, 410, .inr (.inl t_vals))), (h_t_waits, .inl (G.2.1.2.1, 410, .inl t_waits)), (h_t_fresh, .inl (G.2.1.2.2, 45, .inr (.inl t_fresh))), (h_t_freshMany, .inl (G.2.1.2.1, 5, .inl (upd t_freshMany v1.toNatClampNeg ((t_freshMany v1.toNatClampNeg) + (1 : Int32)))))] := hD.sub [4, 5, 0, 1, 2, 3] (by decide) rfl
      refine lv_iconst (v := (1 : Int32)) hx hb dX8_item_102 (by decide) ?_
      rw [← Option.some.inj hf]
      exact rt_z (u := ()) hx hb hr zb_1 hlocks hP hD trivial hS dX8_item_103
    · have hf := it_f c1 hf
      refine lv_iconst (v := (0 : Int32)) hx hb dX8_item_86 (by decide) ?_
      rw [← Option.some.inj hf]
      exact rt_z (u := ()) hx hb hr zb_0 hlocks hP hD trivial hS dX8_item_87
  unfold f_X8_item at hf
  refine en (fun H locs hP hD hS => ?_) hP hD
  refine lv_aload_n hx hb dX8_item_0 rfl (lv_at hl 0 rfl) ?_
  refine va_get (D := G.1) (ci := 8) (v := .int t_token) (C := RX8) (T := TX8) (N := 21) hx hb hts hiX8 hown hg.1 hP 0 rfl rfl 10 (by decide) (hts (.fieldLink RX8 89 "AsARuleModel" "token" "I") (by decide +kernel)) (fun _ h9 => h9) rfl dX8_item_1 ?_
  obtain ⟨o3, ho3, hf⟩ := bd_e hf
  refine af0_i (va_runS (As := [.int t_token]) (rest := []) ⟨hx, hb, hml, hown, hts⟩ (c_X8_sortOf l G H.size t_token o3 ho3) (va_cwS 1 hts gX8_item_X8_sortOf rfl rfl rfl (by decide +kernel) ⟨Nat.le_of_ble_eq_true rfl, Nat.le_of_ble_eq_true rfl⟩) (pcA_pre hg hc hP hD hS hA [] rfl rfl [.int t_token]) rfl rfl hl.1 rfl (lv_room (Nat.le_of_ble_eq_true rfl)) dX8_item_4 ⟨Nat.zero_le _, Nat.zero_le _⟩) hP hD hS hA (fun H locs hP hD hS => ?_)
  refine lv_istore_n (lv' := [(1, .int o3), (0, .ref h_t)]) hx hb dX8_item_7 rfl hl (by decide) rfl (fun ls hl => ?_)
  refine lv_iload_n hx hb dX8_item_8 rfl (lv_at hl 0 rfl) ?_
  refine lv_if_lt (tgt := 25) hx hb dX8_item_9 (by decide) (fun c4 => ?_) (fun c4 => ?_)
  · have hf := it_t c4 hf
    refine lv_iconst (v := (0 : Int32)) hx hb dX8_item_25 (by decide) ?_
    rw [← Option.some.inj hf]
    exact rt_z (u := ()) hx hb hr zb_0 hlocks hP hD trivial hS dX8_item_26
  · have hf := it_f c4 hf
    refine lv_aload_n hx hb dX8_item_12 rfl (lv_at hl 1 rfl) ?_
    refine va_get (D := G.1) (ci := 8) (v := .ref h_t_freshMany) (C := RX8) (T := TX8) (N := 21) hx hb hts hiX8 hown hg.1 hP 0 rfl rfl 19 (by decide) (hts (.fieldLink RX8 35 "AsARuleModel" "freshMany" "[I") (by decide +kernel)) (fun _ h9 => h9) rfl dX8_item_13 ?_
    refine lv_iload_n hx hb dX8_item_16 rfl (lv_at hl 0 rfl) ?_
    refine va_iald hx hb hg.1 hP 5 1 rfl rfl (ib_in (gd_t hf)) dX8_item_17 ?_
    have hf := gd_x hf
    refine lv_iload_n hx hb dX8_item_18 rfl (lv_at hl 0 rfl) ?_
    obtain ⟨o5, ho5, hf⟩ := bd_e hf
    refine af0_i (va_runS (As := [.int o3]) (rest := [.int (t_freshMany o3.toNatClampNeg)]) ⟨hx, hb, hml, hown, hts⟩ (c_X8_mostOf l G H.size o3 o5 ho5) (va_cwS 1 hts gX8_item_X8_mostOf rfl rfl rfl (by decide +kernel) ⟨Nat.le_of_ble_eq_true rfl, Nat.le_of_ble_eq_true rfl⟩) (pcA_pre hg hc hP hD hS hA [] rfl rfl [.int o3]) rfl rfl hl.1 rfl (lv_room (Nat.le_of_ble_eq_true rfl)) dX8_item_19 ⟨Nat.zero_le _, Nat.zero_le _⟩) hP hD hS hA (fun H locs hP hD hS => ?_)
    refine lv_icmp_ne (tgt := 27) hx hb dX8_item_22 (by decide) (fun c6 => ?_) (fun c6 => ?_)
    · have hf := it_f c6 hf
      refine lv_aload_n hx hb dX8_item_27 rfl (lv_at hl 1 rfl) ?_
      refine va_get (D := G.1) (ci := 8) (v := .ref h_t_freshMany) (C := RX8) (T := TX8) (N := 21) hx hb hts hiX8 hown hg.1 hP 0 rfl rfl 19 (by decide) (hts (.fieldLink RX8 35 "AsARuleModel" "freshMany" "[I") (by decide +kernel)) (fun _ h9 => h9) rfl dX8_item_28 ?_
      refine lv_iload_n hx hb dX8_item_31 rfl (lv_at hl 0 rfl) ?_
      refine va_iald hx hb hg.1 hP 5 1 rfl rfl (ib_in (gd_t hf)) dX8_item_32 ?_
      have hf := gd_x hf
      refine lv_topi (fun x7 ex7 => ?_)
      have hf := lt_n hf x7 ex7
      refine lv_istore_n (lv' := [(2, .int x7), (1, .int o3), (0, .ref h_t)]) hx hb dX8_item_33 rfl hl (by decide) rfl (fun ls hl => ?_)
      refine lv_aload_n hx hb dX8_item_34 rfl (lv_at hl 2 rfl) ?_
      obtain ⟨o8, ho8, hf⟩ := bd_e hf
      refine af_v (wr := [(h_t_vals, .inl (G.2.1.2.2, 410, .inr (.inl t_vals))), (h_t_waits, .inl (G.2.1.2.1, 410, .inl t_waits)), (h_t_fresh, .inl (G.2.1.2.2, 45, .inr (.inl t_fresh))), (h_t_freshMany, .inl (G.2.1.2.1, 5, .inl t_freshMany))]) (va_runV (As := []) (rest := []) ⟨hx, hb, hml, hown, hts⟩ (c_X8_scans l G h_t h_t_text h_t_said h_t_many h_t_grades h_t_doubts h_t_vals h_t_waits h_t_fresh h_t_freshMany H.size t_trace t_typed t_when t_then t_at t_token t_start t_valMany t_waitMany t_open t_saying t_quarrel t_text o8 ho8) (cwV 0 hts gX8_item_X8_scans rfl rfl rfl (by decide +kernel) ⟨Nat.le_of_ble_eq_true rfl, Nat.le_of_ble_eq_true rfl⟩) (pcA_preV hg hc hP hD hS hA [0, 1] rfl (by decide) (q0 := 0) (ci := 8) rfl rfl rfl) rfl rfl hl.1 rfl (lv_room (Nat.le_of_ble_eq_true rfl)) dX8_item_35 ⟨Nat.zero_le _, Nat.zero_le _⟩) hP hD hS hA [0, 1] [2, 3, 4, 5] rfl rfl (by decide) (by decide) (fun _ H locs _ hP hD hS => ?_)
      have hP : va_P G.1 vwCl [(h_t, .inr (8, [.long t_trace, .ref h_t_text, .int t_typed, .ref h_t_said, .ref h_t_many, .long t_when, .long t_then, .ref h_t_grades, .ref h_t_doubts, .int o8.1, .int o8.2.1, .int o8.2.2, .ref h_t_vals, .ref h_t_waits, .int t_valMany, .int t_waitMany, .int t_open, .long t_saying, .ref h_t_fresh, .ref h_t_freshMany, .int t_quarrel])), (h_t_text, .inl (G.2.1.2.1, 400, .inl t_text)), (h_t_vals, .inl (G.2.1.2.2, 410, .inr (.inl t_vals))), (h_t_waits, .inl (G.2.1.2.1, 410, .inl t_waits)), (h_t_fresh, .inl (G.2.1.2.2, 45, .inr (.inl t_fresh))), (h_t_freshMany, .inl (G.2.1.2.1, 5, .inl t_freshMany))] H := hP.sub [4, 5, 0, 1, 2, 3] rfl
      have hD : va_D A [(h_t, .inr (8, [.long t_trace, .ref h_t_text, .int t_typed, .ref h_t_said, .ref h_t_many, .long t_when, .long t_then, .ref h_t_grades, .ref h_t_doubts, .int o8.1, .int o8.2.1, .int o8.2.2, .ref h_t_vals, .ref h_t_waits, .int t_valMany, .int t_waitMany, .int t_open, .long t_saying, .ref h_t_fresh, .ref h_t_freshMany, .int t_quarrel])), (h_t_text, .inl (G.2.1.2.1, 400, .inl t_text)), (h_t_vals, .inl (G.2.1.2.2, 410, .inr (.inl t_vals))), (h_t_waits, .inl (G.2.1.2.1, 410, .inl t_waits)), (h_t_fresh, .inl (G.2.1.2.2, 45, .inr (.inl t_fresh))), (h_t_freshMany, .inl (G.2.1.2.1, 5, .inl t_freshMany))] := hD.sub [4, 5, 0, 1, 2, 3] (by decide) rfl
      refine lv_iload_n hx hb dX8_item_38 rfl (lv_at hl 1 rfl) ?_
      refine lv_iconst (v := (1 : Int32)) hx hb dX8_item_39 (by decide) ?_
      refine lv_icmp_ne (tgt := 53) hx hb dX8_item_40 (by decide) (fun c9 => ?_) (fun c9 => ?_)
      · have hf := it_f c9 hf
        refine lv_aload_n hx hb dX8_item_53 rfl (lv_at hl 2 rfl) ?_
        obtain ⟨o10, ho10, hf⟩ := bd_e hf
        refine af_i (wr := [(h_t_fresh, .inl (G.2.1.2.2, 45, .inr (.inl t_fresh))), (h_t_freshMany, .inl (G.2.1.2.1, 5, .inl t_freshMany))]) (va_runV (As := []) (rest := []) ⟨hx, hb, hml, hown, hts⟩ (c_X8_says l G h_t h_t_text h_t_said h_t_many h_t_grades h_t_doubts h_t_vals h_t_waits h_t_fresh h_t_freshMany H.size t_trace t_typed t_when t_then o8.1 o8.2.1 o8.2.2 t_valMany t_waitMany t_open t_saying t_quarrel t_text t_vals t_waits o10 ho10) (cwV 0 hts gX8_item_X8_says rfl rfl rfl (by decide +kernel) ⟨Nat.le_of_ble_eq_true rfl, Nat.le_of_ble_eq_true rfl⟩) (pcA_preV hg hc hP hD hS hA [0, 1, 2, 3] rfl (by decide) (q0 := 0) (ci := 8) rfl rfl rfl) rfl rfl hl.1 rfl (lv_room (Nat.le_of_ble_eq_true rfl)) dX8_item_54 ⟨Nat.zero_le _, Nat.zero_le _⟩) hP hD hS hA [0, 1, 2, 3] [4, 5] rfl rfl (by decide) (by decide) (fun _ H locs _ hP hD hS => ?_)
        have hP : va_P G.1 vwCl [(h_t, .inr (8, [.long t_trace, .ref h_t_text, .int t_typed, .ref h_t_said, .ref h_t_many, .long t_when, .long t_then, .ref h_t_grades, .ref h_t_doubts, .int o10.2.1, .int o10.2.2.1, .int o10.2.2.2.1, .ref h_t_vals, .ref h_t_waits, .int o10.2.2.2.2.1, .int o10.2.2.2.2.2.1, .int o10.2.2.2.2.2.2.1, .long o10.2.2.2.2.2.2.2.1, .ref h_t_fresh, .ref h_t_freshMany, .int t_quarrel])), (h_t_text, .inl (G.2.1.2.1, 400, .inl t_text)), (h_t_vals, .inl (G.2.1.2.2, 410, .inr (.inl o10.2.2.2.2.2.2.2.2.1))), (h_t_waits, .inl (G.2.1.2.1, 410, .inl o10.2.2.2.2.2.2.2.2.2)), (h_t_fresh, .inl (G.2.1.2.2, 45, .inr (.inl t_fresh))), (h_t_freshMany, .inl (G.2.1.2.1, 5, .inl t_freshMany))] H := hP.sub [2, 3, 4, 5, 0, 1] rfl
        have hD : va_D A [(h_t, .inr (8, [.long t_trace, .ref h_t_text, .int t_typed, .ref h_t_said, .ref h_t_many, .long t_when, .long t_then, .ref h_t_grades, .ref h_t_doubts, .int o10.2.1, .int o10.2.2.1, .int o10.2.2.2.1, .ref h_t_vals, .ref h_t_waits, .int o10.2.2.2.2.1, .int o10.2.2.2.2.2.1, .int o10.2.2.2.2.2.2.1, .long o10.2.2.2.2.2.2.2.1, .ref h_t_fresh, .ref h_t_freshMany, .int t_quarrel])), (h_t_text, .inl (G.2.1.2.1, 400, .inl t_text)), (h_t_vals, .inl (G.2.1.2.2, 410, .inr (.inl o10.2.2.2.2.2.2.2.2.1))), (h_t_waits, .inl (G.2.1.2.1, 410, .inl o10.2.2.2.2.2.2.2.2.2)), (h_t_fresh, .inl (G.2.1.2.2, 45, .inr (.inl t_fresh))), (h_t_freshMany, .inl (G.2.1.2.1, 5, .inl t_freshMany))] := hD.sub [2, 3, 4, 5, 0, 1] (by decide) rfl
        refine lv_if_ne (tgt := 62) hx hb dX8_item_57 (by decide) (fun c11 => ?_) (fun c11 => ?_)
        · have hf := it_f c11 hf
          refine lv_aload_n hx hb dX8_item_62 rfl (lv_at hl 2 rfl) ?_
          refine va_get (D := G.1) (ci := 8) (v := .ref h_t_fresh) (C := RX8) (T := TX8) (N := 21) hx hb hts hiX8 hown hg.1 hP 0 rfl rfl 18 (by decide) (hts (.fieldLink RX8 32 "AsARuleModel" "fresh" "[J") (by decide +kernel)) (fun _ h9 => h9) rfl dX8_item_63 ?_
          refine lv_bipush (v := (9 : Int32)) hx hb dX8_item_66 (by decide) ?_
          refine lv_iload_n hx hb dX8_item_68 rfl (lv_at hl 1 rfl) ?_
          refine lv_imul hx hb dX8_item_69 ?_
          refine lv_iload_n hx hb dX8_item_70 rfl (lv_at hl 0 rfl) ?_
          refine lv_iadd hx hb dX8_item_71 ?_
          refine lv_aload_n hx hb dX8_item_72 rfl (lv_at hl 2 rfl) ?_
          refine va_get (D := G.1) (ci := 8) (v := .long o10.2.2.2.2.2.2.2.1) (C := RX8) (T := TX8) (N := 21) hx hb hts hiX8 hown hg.1 hP 0 rfl rfl 17 (by decide) (hts (.fieldLink RX8 134 "AsARuleModel" "saying" "J") (by decide +kernel)) (fun _ h9 => h9) rfl dX8_item_73 ?_
          refine va_last hx hb hg.1 hP hD hS 4 2 rfl rfl (ib_in (gd_t hf)) dX8_item_76 (fun H locs hP hD hS => ?_)
          have hf := gd_x hf
          have hP : va_P G.1 vwCl [(h_t, .inr (8, [.long t_trace, .ref h_t_text, .int t_typed, .ref h_t_said, .ref h_t_many, .long t_when, .long t_then, .ref h_t_grades, .ref h_t_doubts, .int o10.2.1, .int o10.2.2.1, .int o10.2.2.2.1, .ref h_t_vals, .ref h_t_waits, .int o10.2.2.2.2.1, .int o10.2.2.2.2.2.1, .int o10.2.2.2.2.2.2.1, .long o10.2.2.2.2.2.2.2.1, .ref h_t_fresh, .ref h_t_freshMany, .int t_quarrel])), (h_t_text, .inl (G.2.1.2.1, 400, .inl t_text)), (h_t_vals, .inl (G.2.1.2.2, 410, .inr (.inl o10.2.2.2.2.2.2.2.2.1))), (h_t_waits, .inl (G.2.1.2.1, 410, .inl o10.2.2.2.2.2.2.2.2.2)), (h_t_fresh, .inl (G.2.1.2.2, 45, .inr (.inl (vp_updL t_fresh (((9 : Int32) * o3) + x7).toNatClampNeg o10.2.2.2.2.2.2.2.1)))), (h_t_freshMany, .inl (G.2.1.2.1, 5, .inl t_freshMany))] H := hP
          have hD : va_D A [(h_t, .inr (8, [.long t_trace, .ref h_t_text, .int t_typed, .ref h_t_said, .ref h_t_many, .long t_when, .long t_then, .ref h_t_grades, .ref h_t_doubts, .int o10.2.1, .int o10.2.2.1, .int o10.2.2.2.1, .ref h_t_vals, .ref h_t_waits, .int o10.2.2.2.2.1, .int o10.2.2.2.2.2.1, .int o10.2.2.2.2.2.2.1, .long o10.2.2.2.2.2.2.2.1, .ref h_t_fresh, .ref h_t_freshMany, .int t_quarrel])), (h_t_text, .inl (G.2.1.2.1, 400, .inl t_text)), (h_t_vals, .inl (G.2.1.2.2, 410, .inr (.inl o10.2.2.2.2.2.2.2.2.1))), (h_t_waits, .inl (G.2.1.2.1, 410, .inl o10.2.2.2.2.2.2.2.2.2)), (h_t_fresh, .inl (G.2.1.2.2, 45, .inr (.inl (vp_updL t_fresh (((9 : Int32) * o3) + x7).toNatClampNeg o10.2.2.2.2.2.2.2.1)))), (h_t_freshMany, .inl (G.2.1.2.1, 5, .inl t_freshMany))] := hD
          exact hw_77 o10.2.1 o10.2.2.1 o10.2.2.2.1 o10.2.2.2.2.1 o10.2.2.2.2.2.1 o10.2.2.2.2.2.2.1 o10.2.2.2.2.2.2.2.1 o10.2.2.2.2.2.2.2.2.1 o10.2.2.2.2.2.2.2.2.2 (vp_updL t_fresh (((9 : Int32) * o3) + x7).toNatClampNeg o10.2.2.2.2.2.2.2.1) t_freshMany o3 hf _ _ hP hD hS _ (lv_sub hl [2, 1] rfl)
        · have hf := it_t c11 hf
          refine lv_iconst (v := (0 : Int32)) hx hb dX8_item_60 (by decide) ?_
          rw [← Option.some.inj hf]
          exact rt_z (u := ()) hx hb hr zb_0 hlocks hP hD trivial hS dX8_item_61
      · have hf := it_t c9 hf
        refine lv_aload_n hx hb dX8_item_43 rfl (lv_at hl 2 rfl) ?_
        refine lv_iload_n hx hb dX8_item_44 rfl (lv_at hl 0 rfl) ?_
        obtain ⟨o12, ho12, hf⟩ := bd_e hf
        refine af_i (wr := [(h_t_freshMany, .inl (G.2.1.2.1, 5, .inl t_freshMany))]) (va_runV (As := [.int x7]) (rest := []) ⟨hx, hb, hml, hown, hts⟩ (c_X8_rules l G h_t h_t_text h_t_said h_t_many h_t_grades h_t_doubts h_t_vals h_t_waits h_t_fresh h_t_freshMany H.size t_trace t_typed t_when t_then o8.1 o8.2.1 o8.2.2 t_valMany t_waitMany t_open t_saying t_quarrel t_text t_vals t_waits t_fresh x7 o12 ho12) (cwV 1 hts gX8_item_X8_rules rfl rfl rfl (by decide +kernel) ⟨Nat.le_of_ble_eq_true rfl, Nat.le_of_ble_eq_true rfl⟩) (pcA_preV hg hc hP hD hS hA [0, 1, 2, 3, 4] rfl (by decide) (q0 := 0) (ci := 8) rfl rfl rfl) rfl rfl hl.1 rfl (lv_room (Nat.le_of_ble_eq_true rfl)) dX8_item_45 ⟨Nat.zero_le _, Nat.zero_le _⟩) hP hD hS hA [0, 1, 2, 3, 4] [5] rfl rfl (by decide) (by decide) (fun _ H locs _ hP hD hS => ?_)
        have hP : va_P G.1 vwCl [(h_t, .inr (8, [.long t_trace, .ref h_t_text, .int t_typed, .ref h_t_said, .ref h_t_many, .long t_when, .long t_then, .ref h_t_grades, .ref h_t_doubts, .int o12.2.1, .int o12.2.2.1, .int o12.2.2.2.1, .ref h_t_vals, .ref h_t_waits, .int o12.2.2.2.2.1, .int o12.2.2.2.2.2.1, .int o12.2.2.2.2.2.2.1, .long o12.2.2.2.2.2.2.2.1, .ref h_t_fresh, .ref h_t_freshMany, .int t_quarrel])), (h_t_text, .inl (G.2.1.2.1, 400, .inl t_text)), (h_t_vals, .inl (G.2.1.2.2, 410, .inr (.inl o12.2.2.2.2.2.2.2.2.1))), (h_t_waits, .inl (G.2.1.2.1, 410, .inl o12.2.2.2.2.2.2.2.2.2.1)), (h_t_fresh, .inl (G.2.1.2.2, 45, .inr (.inl o12.2.2.2.2.2.2.2.2.2.2))), (h_t_freshMany, .inl (G.2.1.2.1, 5, .inl t_freshMany))] H := hP.sub [1, 2, 3, 4, 5, 0] rfl
        have hD : va_D A [(h_t, .inr (8, [.long t_trace, .ref h_t_text, .int t_typed, .ref h_t_said, .ref h_t_many, .long t_when, .long t_then, .ref h_t_grades, .ref h_t_doubts, .int o12.2.1, .int o12.2.2.1, .int o12.2.2.2.1, .ref h_t_vals, .ref h_t_waits, .int o12.2.2.2.2.1, .int o12.2.2.2.2.2.1, .int o12.2.2.2.2.2.2.1, .long o12.2.2.2.2.2.2.2.1, .ref h_t_fresh, .ref h_t_freshMany, .int t_quarrel])), (h_t_text, .inl (G.2.1.2.1, 400, .inl t_text)), (h_t_vals, .inl (G.2.1.2.2, 410, .inr (.inl o12.2.2.2.2.2.2.2.2.1))), (h_t_waits, .inl (G.2.1.2.1, 410, .inl o12.2.2.2.2.2.2.2.2.2.1)), (h_t_fresh, .inl (G.2.1.2.2, 45, .inr (.inl o12.2.2.2.2.2.2.2.2.2.2))), (h_t_freshMany, .inl (G.2.1.2.1, 5, .inl t_freshMany))] := hD.sub [1, 2, 3, 4, 5, 0] (by decide) rfl
        refine lv_if_ne (tgt := 77) hx hb dX8_item_48 (by decide) (fun c13 => ?_) (fun c13 => ?_)
        · have hf := it_f c13 hf
          exact hw_77 o12.2.1 o12.2.2.1 o12.2.2.2.1 o12.2.2.2.2.1 o12.2.2.2.2.2.1 o12.2.2.2.2.2.2.1 o12.2.2.2.2.2.2.2.1 o12.2.2.2.2.2.2.2.2.1 o12.2.2.2.2.2.2.2.2.2.1 o12.2.2.2.2.2.2.2.2.2.2 t_freshMany o3 hf _ _ hP hD hS _ (lv_sub hl [2, 1] rfl)
        · have hf := it_t c13 hf
          refine lv_iconst (v := (0 : Int32)) hx hb dX8_item_51 (by decide) ?_
          rw [← Option.some.inj hf]
          exact rt_z (u := ()) hx hb hr zb_0 hlocks hP hD trivial hS dX8_item_52
    · have hf := it_t c6 hf
      refine lv_iconst (v := (0 : Int32)) hx hb dX8_item_25 (by decide) ?_
      rw [← Option.some.inj hf]
      exact rt_z (u := ()) hx hb hr zb_0 hlocks hP hD trivial hS dX8_item_26
