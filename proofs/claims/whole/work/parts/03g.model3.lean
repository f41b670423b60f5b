-- method X8_leftBy
def jn_X8_leftBy_108 (t_said : Nat → Int64) (t_many : Nat → Int32) (a1 : Int32) (v2 : Int64) (v4 : Int32) : Option (Int64) :=
  if v4 = a1 then some (v2) else some ((0 : Int64))
def lp_X8_leftBy_22 (t_said : Nat → Int64) (t_many : Nat → Int32) (a1 : Int32) (k_11 : Int64 → Int32 → Int32 → Option (Int64)) : Nat → Int64 → Int32 → Int32 → Int32 → Option (Int64)
  | 0, _, _, _, _ => none
  | n + 1, v2, v4, v5, v6 => gd (ib (1 : Int32) 5) (if (t_many (1 : Int32).toNatClampNeg) ≤ v6 then k_11 v2 v4 v5 else if ((a1 >>> (v6 &&& 31)) &&& (1 : Int32)) = (1 : Int32) then if ((v4 >>> (v6 &&& 31)) &&& (1 : Int32)) = (0 : Int32) then gd (ib ((9 : Int32) + v6) 45) (if (v2 &&& ((t_said ((9 : Int32) + v6).toNatClampNeg) ^^^ (-1 : Int64))) = (0 : Int64) then lt (v4 ||| ((1 : Int32) <<< (v6 &&& 31))) (fun x9 => gd (ib ((18 : Int32) + v6) 45) (lt (v2 &&& (t_said ((18 : Int32) + v6).toNatClampNeg)) (fun x10 => lt (v6 + (1 : Int32)) (fun x11 => lp_X8_leftBy_22 t_said t_many a1 k_11 n x10 x9 (1 : Int32) x11)))) else lt (v6 + (1 : Int32)) (fun x8 => lp_X8_leftBy_22 t_said t_many a1 k_11 n v2 v4 v5 x8)) else lt (v6 + (1 : Int32)) (fun x6 => lp_X8_leftBy_22 t_said t_many a1 k_11 n v2 v4 v5 x6) else lt (v6 + (1 : Int32)) (fun x4 => lp_X8_leftBy_22 t_said t_many a1 k_11 n v2 v4 v5 x4))
def lp_X8_leftBy_11 (t_said : Nat → Int64) (t_many : Nat → Int32) (a1 : Int32) : Nat → Int64 → Int32 → Int32 → Option (Int64)
  | 0, _, _, _ => none
  | n + 1, v2, v4, v5 => if v5 = (0 : Int32) then jn_X8_leftBy_108 t_said t_many a1 v2 v4 else lp_X8_leftBy_22 t_said t_many a1 (fun v2 v4 v5 => lp_X8_leftBy_11 t_said t_many a1 n v2 v4 v5) fu v2 v4 (0 : Int32) (0 : Int32)
def f_X8_leftBy (t_said : Nat → Int64) (t_many : Nat → Int32) (a1 : Int32) : Option (Int64) :=
  bd (f_X8_groundNow t_said t_many) (fun o13 => lp_X8_leftBy_11 t_said t_many a1 fu o13 (0 : Int32) (1 : Int32))
set_option maxHeartbeats 4000000 in
set_option maxRecDepth 100000 in
theorem c_X8_leftBy (l : Launch) (G : GG) (h_t h_t_text h_t_said h_t_many h_t_grades h_t_doubts h_t_vals h_t_waits h_t_fresh h_t_freshMany : Nat) (sz : Nat) (t_trace : Int64) (t_typed : Int32) (t_when : Int64) (t_then : Int64) (t_at : Int32) (t_token : Int32) (t_start : Int32) (t_valMany : Int32) (t_waitMany : Int32) (t_open : Int32) (t_saying : Int64) (t_quarrel : Int32) (t_said : Nat → Int64) (t_many : Nat → Int32) (a1 : Int32) (o : Int64) (ho : f_X8_leftBy t_said t_many a1 = some o)  : Met l yX8_leftBy wsX8_leftBy ({ frames := 3, cells := 0, slots := 0, locals := 64 } : Room) (pcA G [.ref h_t, .int a1] [(h_t, .inr (8, [.long t_trace, .ref h_t_text, .int t_typed, .ref h_t_said, .ref h_t_many, .long t_when, .long t_then, .ref h_t_grades, .ref h_t_doubts, .int t_at, .int t_token, .int t_start, .ref h_t_vals, .ref h_t_waits, .int t_valMany, .int t_waitMany, .int t_open, .long t_saying, .ref h_t_fresh, .ref h_t_freshMany, .int t_quarrel])), (h_t_said, .inl (G.2.1.2.2, 45, .inr (.inl t_said))), (h_t_many, .inl (G.2.1.2.1, 5, .inl t_many))] sz) (qcL Unit G o (fun _ => True) (fun _ => [(h_t, .inr (8, [.long t_trace, .ref h_t_text, .int t_typed, .ref h_t_said, .ref h_t_many, .long t_when, .long t_then, .ref h_t_grades, .ref h_t_doubts, .int t_at, .int t_token, .int t_start, .ref h_t_vals, .ref h_t_waits, .int t_valMany, .int t_waitMany, .int t_open, .long t_saying, .ref h_t_fresh, .ref h_t_freshMany, .int t_quarrel])), (h_t_said, .inl (G.2.1.2.2, 45, .inr (.inl t_said))), (h_t_many, .inl (G.2.1.2.1, 5, .inl t_many))]) (va_A [(h_t, .inr (8, [.long t_trace, .ref h_t_text, .int t_typed, .ref h_t_said, .ref h_t_many, .long t_when, .long t_then, .ref h_t_grades, .ref h_t_doubts, .int t_at, .int t_token, .int t_start, .ref h_t_vals, .ref h_t_waits, .int t_valMany, .int t_waitMany, .int t_open, .long t_saying, .ref h_t_fresh, .ref h_t_freshMany, .int t_quarrel])), (h_t_said, .inl (G.2.1.2.2, 45, .inr (.inl t_said))), (h_t_many, .inl (G.2.1.2.1, 5, .inl t_many))] sz)) 0 0 (va_A [(h_t, .inr (8, [.long t_trace, .ref h_t_text, .int t_typed, .ref h_t_said, .ref h_t_many, .long t_when, .long t_then, .ref h_t_grades, .ref h_t_doubts, .int t_at, .int t_token, .int t_start, .ref h_t_vals, .ref h_t_waits, .int t_valMany, .int t_waitMany, .int t_open, .long t_saying, .ref h_t_fresh, .ref h_t_freshMany, .int t_quarrel])), (h_t_said, .inl (G.2.1.2.2, 45, .inr (.inl t_said))), (h_t_many, .inl (G.2.1.2.1, 5, .inl t_many))] sz) := by
  refine Met.ofW (cc := cX8_leftBy) (maxL := 7) (ret := (some .long)) (by decide) rfl ?_
  intro p e s m args below meth c s₁ B hml hv
  obtain ⟨rfl, hsz, hP, hg, hD0, hc⟩ := hv
  have hx := B.exec
  have hb := B.bytes
  have hr := B.returns
  have hts := atoms_spec (ws := wsX8_leftBy) B.pre
  have hown : s.vm.findClass RX8 = some m.cls := findClass_of_methodNamed B.named
  have hlocks := B.notSynchronized
  subst hsz
  have hD := hD0.self (sz := s.heap.size)
  generalize hAe : va_A [(h_t, .inr (8, [.long t_trace, .ref h_t_text, .int t_typed, .ref h_t_said, .ref h_t_many, .long t_when, .long t_then, .ref h_t_grades, .ref h_t_doubts, .int t_at, .int t_token, .int t_start, .ref h_t_vals, .ref h_t_waits, .int t_valMany, .int t_waitMany, .int t_open, .long t_saying, .ref h_t_fresh, .ref h_t_freshMany, .int t_quarrel])), (h_t_said, .inl (G.2.1.2.2, 45, .inr (.inl t_said))), (h_t_many, .inl (G.2.1.2.1, 5, .inl t_many))] s.heap.size = A at hD hc ⊢
  have hA : ∀ q : Nat, s.heap.size ≤ q → A q := fun q h => by rw [← hAe]; exact Or.inr h
  have hiX8 : ∀ w ∈ wsX80, w ∈ wsX8_leftBy := by decide +kernel
  have hl := lv_entry ([.ref h_t, .int a1]) (n := 7) (Nat.le_of_ble_eq_true rfl)
  rw [lg_entry_eq]
  generalize (lg_sl ([.ref h_t, .int a1]) ++ List.replicate (7 - (lg_sl ([.ref h_t, .int a1])).length) Slot.unset).toArray = ls at hl ⊢
  have hl : lv_has ls 7 [(0, .ref h_t), (1, .int a1)] := hl
  have hf := ho
  have hw_108 : ∀ (v2 : Int64) (v4 : Int32), jn_X8_leftBy_108 t_said t_many a1 v2 v4 = some o → ∀ (H : Heap) (locs : List Loc), va_P G.1 vwCl [(h_t, .inr (8, [.long t_trace, .ref h_t_text, .int t_typed, .ref h_t_said, .ref h_t_many, .long t_when, .long t_then, .ref h_t_grades, .ref h_t_doubts, .int t_at, .int t_token, .int t_start, .ref h_t_vals, .ref h_t_waits, .int t_valMany, .int t_waitMany, .int t_open, .long t_saying, .ref h_t_fresh, .ref h_t_freshMany, .int t_quarrel])), (h_t_said, .inl (G.2.1.2.2, 45, .inr (.inl t_said))), (h_t_many, .inl (G.2.1.2.1, 5, .inl t_many))] H → va_D A [(h_t, .inr (8, [.long t_trace, .ref h_t_text, .int t_typed, .ref h_t_said, .ref h_t_many, .long t_when, .long t_then, .ref h_t_grades, .ref h_t_doubts, .int t_at, .int t_token, .int t_start, .ref h_t_vals, .ref h_t_waits, .int t_valMany, .int t_waitMany, .int t_open, .long t_saying, .ref h_t_fresh, .ref h_t_freshMany, .int t_quarrel])), (h_t_said, .inl (G.2.1.2.2, 45, .inr (.inl t_said))), (h_t_many, .inl (G.2.1.2.1, 5, .inl t_many))] → va_S A s.heap H locs → ∀ (ls : Array Slot), lv_has ls 7 [(1, .int a1), (2, .long v2), (4, .int v4)] → W p l e (headSpec wsX8_leftBy ({ frames := 3, cells := 0, slots := 0, locals := 64 } : Room)).room s m ([.ref h_t, .int a1] : List Value).toArray below meth c H locs 0 0 (MQ below (qcL Unit G o (fun _ => True) (fun _ => [(h_t, .inr (8, [.long t_trace, .ref h_t_text, .int t_typed, .ref h_t_said, .ref h_t_many, .long t_when, .long t_then, .ref h_t_grades, .ref h_t_doubts, .int t_at, .int t_token, .int t_start, .ref h_t_vals, .ref h_t_waits, .int t_valMany, .int t_waitMany, .int t_open, .long t_saying, .ref h_t_fresh, .ref h_t_freshMany, .int t_quarrel])), (h_t_said, .inl (G.2.1.2.2, 45, .inr (.inl t_said))), (h_t_many, .inl (G.2.1.2.1, 5, .inl t_many))]) A) ([.ref h_t, .int a1] : List Value).toArray s 0 0 A) (F0 m 108 ls []) := by
    intro v2 v4 hf H locs hP hD hS ls hl
    unfold jn_X8_leftBy_108 at hf
    refine lv_iload hx hb dX8_leftBy_108 (lv_at hl 2 rfl) ?_
    refine lv_iload_n hx hb dX8_leftBy_110 rfl (lv_at hl 0 rfl) ?_
    refine lv_icmp_ne (tgt := 118) hx hb dX8_leftBy_111 (by decide) (fun c1 => ?_) (fun c1 => ?_)
    · have hf := it_f c1 hf
      refine lv_lconst (v := (0 : Int64)) hx hb dX8_leftBy_118 (by decide) ?_
      rw [← Option.some.inj hf]
      exact rt_l (u := ()) hx hb hr hlocks hP hD trivial hS dX8_leftBy_119
    · have hf := it_t c1 hf
      refine lv_lload_n hx hb dX8_leftBy_114 rfl (lv_at hl 1 rfl) ?_
      refine lv_goto (tgt := 119) hx hb dX8_leftBy_115 (by decide) ?_
      rw [← Option.some.inj hf]
      exact rt_l (u := ()) hx hb hr hlocks hP hD trivial hS dX8_leftBy_119
  have hw_22 : ∀ (k_11 : Int64 → Int32 → Int32 → Option (Int64)) (hk_11 : ∀ (v2 : Int64) (v4 : Int32) (v5 : Int32), k_11 v2 v4 v5 = some o → ∀ (H : Heap) (locs : List Loc), va_P G.1 vwCl [(h_t, .inr (8, [.long t_trace, .ref h_t_text, .int t_typed, .ref h_t_said, .ref h_t_many, .long t_when, .long t_then, .ref h_t_grades, .ref h_t_doubts, .int t_at, .int t_token, .int t_start, .ref h_t_vals, .ref h_t_waits, .int t_valMany, .int t_waitMany, .int t_open, .long t_saying, .ref h_t_fresh, .ref h_t_freshMany, .int t_quarrel])), (h_t_said, .inl (G.2.1.2.2, 45, .inr (.inl t_said))), (h_t_many, .inl (G.2.1.2.1, 5, .inl t_many))] H → va_D A [(h_t, .inr (8, [.long t_trace, .ref h_t_text, .int t_typed, .ref h_t_said, .ref h_t_many, .long t_when, .long t_then, .ref h_t_grades, .ref h_t_doubts, .int t_at, .int t_token, .int t_start, .ref h_t_vals, .ref h_t_waits, .int t_valMany, .int t_waitMany, .int t_open, .long t_saying, .ref h_t_fresh, .ref h_t_freshMany, .int t_quarrel])), (h_t_said, .inl (G.2.1.2.2, 45, .inr (.inl t_said))), (h_t_many, .inl (G.2.1.2.1, 5, .inl t_many))] → va_S A s.heap H locs → ∀ (ls : Array Slot), lv_has ls 7 [(0, .ref h_t), (1, .int a1), (2, .long v2), (4, .int v4), (5, .int v5)] → W p l e (headSpec wsX8_leftBy ({ frames := 3, cells := 0, slots := 0, locals := 64 } : Room)).room s m ([.ref h_t, .int a1] : List Value).toArray below meth c H locs 0 0 (MQ below (qcL Unit G o (fun _ => True) (fun _ => [(h_t, .inr (8, [.long t_trace, .ref h_t_text, .int t_typed, .ref h_t_said, .ref h_t_many, .long t_when, .long t_then, .ref h_t_grades, .ref h_t_doubts, .int t_at, .int t_token, .int t_start, .ref h_t_vals, .ref h_t_waits, .int t_valMany, .int t_waitMany, .int t_open, .long t_saying, .ref h_t_fresh, .ref h_t_freshMany, .int t_quarrel])), (h_t_said, .inl (G.2.1.2.2, 45, .inr (.inl t_said))), (h_t_many, .inl (G.2.1.2.1, 5, .inl t_many))]) A) ([.ref h_t, .int a1] : List Value).toArray s 0 0 A) (F0 m 11 ls [])) (n : Nat) (v2 : Int64) (v4 : Int32) (v5 : Int32) (v6 : Int32), lp_X8_leftBy_22 t_said t_many a1 k_11 n v2 v4 v5 v6 = some o → ∀ (H : Heap) (locs : List Loc), va_P G.1 vwCl [(h_t, .inr (8, [.long t_trace, .ref h_t_text, .int t_typed, .ref h_t_said, .ref h_t_many, .long t_when, .long t_then, .ref h_t_grades, .ref h_t_doubts, .int t_at, .int t_token, .int t_start, .ref h_t_vals, .ref h_t_waits, .int t_valMany, .int t_waitMany, .int t_open, .long t_saying, .ref h_t_fresh, .ref h_t_freshMany, .int t_quarrel])), (h_t_said, .inl (G.2.1.2.2, 45, .inr (.inl t_said))), (h_t_many, .inl (G.2.1.2.1, 5, .inl t_many))] H → va_D A [(h_t, .inr (8, [.long t_trace, .ref h_t_text, .int t_typed, .ref h_t_said, .ref h_t_many, .long t_when, .long t_then, .ref h_t_grades, .ref h_t_doubts, .int t_at, .int t_token, .int t_start, .ref h_t_vals, .ref h_t_waits, .int t_valMany, .int t_waitMany, .int t_open, .long t_saying, .ref h_t_fresh, .ref h_t_freshMany, .int t_quarrel])), (h_t_said, .inl (G.2.1.2.2, 45, .inr (.inl t_said))), (h_t_many, .inl (G.2.1.2.1, 5, .inl t_many))] → va_S A s.heap H locs → ∀ (ls : Array Slot), lv_has ls 7 [(0, .ref h_t), (1, .int a1), (2, .long v2), (4, .int v4), (5, .int v5), (6, .int v6)] → W p l e (headSpec wsX8_leftBy ({ frames := 3, cells := 0, slots := 0, locals := 64 } : Room)).room s m ([.ref h_t, .int a1] : List Value).toArray below meth c H locs 0 0 (MQ below (qcL Unit G o (fun _ => True) (fun _ => [(h_t, .inr (8, [.long t_trace, .ref h_t_text, .int t_typed, .ref h_t_said, .ref h_t_many, .long t_when, .long t_then, .ref h_t_grades, .ref h_t_doubts, .int t_at, .int t_token, .int t_start, .ref h_t_vals, .ref h_t_waits, .int t_valMany, .int t_waitMany, .int t_open, .long t_saying, .ref h_t_fresh, .ref h_t_freshMany, .int t_quarrel])), (h_t_said, .inl (G.2.1.2.2, 45, .inr (.inl t_said))), (h_t_many, .inl (G.2.1.2.1, 5, .inl t_many))]) A) ([.ref h_t, .int a1] : List Value).toArray s 0 0 A) (F0 m 22 ls []) := by
    intro k_11 hk_11
    intro n
    induction n with
    | zero =>
      intro v2 v4 v5 v6 hf
      exact absurd hf (by rw [lp_X8_leftBy_22]; intro h; cases h)
    | succ n ih =>
      intro v2 v4 v5 v6 hf H locs hP hD hS ls hl
      rw [lp_X8_leftBy_22] at hf
      refine lv_iload hx hb dX8_leftBy_22 (lv_at hl 5 rfl) ?_
      refine lv_aload_n hx hb dX8_leftBy_24 rfl (lv_at hl 0 rfl) ?_
      refine va_get (D := G.1) (ci := 8) (v := .ref h_t_many) (C := RX8) (T := TX8) (N := 21) hx hb hts hiX8 hown hg.1 hP 0 rfl rfl 4 (by decide) (hts (.fieldLink RX8 17 "AsARuleModel" "many" "[I") (by decide +kernel)) (fun _ h9 => h9) rfl dX8_leftBy_25 ?_
      refine lv_iconst (v := (1 : Int32)) hx hb dX8_leftBy_28 (by decide) ?_
      refine va_iald hx hb hg.1 hP 2 1 rfl rfl (ib_in (gd_t hf)) dX8_leftBy_29 ?_
      have hf := gd_x hf
      refine lv_icmp_ge (tgt := 105) hx hb dX8_leftBy_30 (by decide) (fun c2 => ?_) (fun c2 => ?_)
      · have hf := it_t c2 hf
        refine lv_goto (tgt := 11) hx hb dX8_leftBy_105 (by decide) ?_
        exact hk_11 v2 v4 v5 hf _ _ hP hD hS _ (lv_sub hl [0, 1, 2, 3, 4] rfl)
      · have hf := it_f c2 hf
        refine lv_iload_n hx hb dX8_leftBy_33 rfl (lv_at hl 1 rfl) ?_
        refine lv_iload hx hb dX8_leftBy_34 (lv_at hl 5 rfl) ?_
        refine lv_ishr hx hb dX8_leftBy_36 ?_
        refine lv_iconst (v := (1 : Int32)) hx hb dX8_leftBy_37 (by decide) ?_
        refine lv_iand hx hb dX8_leftBy_38 ?_
        refine lv_iconst (v := (1 : Int32)) hx hb dX8_leftBy_39 (by decide) ?_
        refine lv_icmp_ne (tgt := 99) hx hb dX8_leftBy_40 (by decide) (fun c3 => ?_) (fun c3 => ?_)
        · have hf := it_f c3 hf
          obtain ⟨x4, ex4⟩ : ∃ y : Int32, y = (v6 + (1 : Int32)) := ⟨_, rfl⟩
          have hf := lt_n hf x4 ex4
          refine lv_iinc (v := x4) (lv' := [(6, .int x4), (0, .ref h_t), (1, .int a1), (2, .long v2), (4, .int v4), (5, .int v5)]) hx hb dX8_leftBy_99 hl (k := 5) rfl (by rw [ex4]; rfl) (by decide) rfl (fun ls hl => ?_)
          refine lv_goto (tgt := 22) hx hb dX8_leftBy_102 (by decide) ?_
          exact ih v2 v4 v5 x4 hf _ _ hP hD hS _ (lv_sub hl [1, 2, 3, 4, 5, 0] rfl)
        · have hf := it_t c3 hf
          refine lv_iload hx hb dX8_leftBy_43 (lv_at hl 3 rfl) ?_
          refine lv_iload hx hb dX8_leftBy_45 (lv_at hl 5 rfl) ?_
          refine lv_ishr hx hb dX8_leftBy_47 ?_
          refine lv_iconst (v := (1 : Int32)) hx hb dX8_leftBy_48 (by decide) ?_
          refine lv_iand hx hb dX8_leftBy_49 ?_
          refine lv_if_ne (tgt := 99) hx hb dX8_leftBy_50 (by decide) (fun c5 => ?_) (fun c5 => ?_)
          · have hf := it_f c5 hf
            obtain ⟨x6, ex6⟩ : ∃ y : Int32, y = (v6 + (1 : Int32)) := ⟨_, rfl⟩
            have hf := lt_n hf x6 ex6
            refine lv_iinc (v := x6) (lv' := [(6, .int x6), (0, .ref h_t), (1, .int a1), (2, .long v2), (4, .int v4), (5, .int v5)]) hx hb dX8_leftBy_99 hl (k := 5) rfl (by rw [ex6]; rfl) (by decide) rfl (fun ls hl => ?_)
            refine lv_goto (tgt := 22) hx hb dX8_leftBy_102 (by decide) ?_
            exact ih v2 v4 v5 x6 hf _ _ hP hD hS _ (lv_sub hl [1, 2, 3, 4, 5, 0] rfl)
          · have hf := it_t c5 hf
            refine lv_lload_n hx hb dX8_leftBy_53 rfl (lv_at hl 2 rfl) ?_
            refine lv_aload_n hx hb dX8_leftBy_54 rfl (lv_at hl 0 rfl) ?_
            refine va_get (D := G.1) (ci := 8) (v := .ref h_t_said) (C := RX8) (T := TX8) (N := 21) hx hb hts hiX8 hown hg.1 hP 0 rfl rfl 3 (by decide) (hts (.fieldLink RX8 13 "AsARuleModel" "said" "[J") (by decide +kernel)) (fun _ h9 => h9) rfl dX8_leftBy_55 ?_
            refine lv_bipush (v := (9 : Int32)) hx hb dX8_leftBy_58 (by decide) ?_
            refine lv_iload hx hb dX8_leftBy_60 (lv_at hl 5 rfl) ?_
            refine lv_iadd hx hb dX8_leftBy_62 ?_
            refine va_lald hx hb hg.1 hP 1 2 rfl rfl (ib_in (gd_t hf)) dX8_leftBy_63 ?_
            have hf := gd_x hf
            refine lv_ldc2 (v := (-1 : Int64)) hx hb hown (hts (.constantLong RX8 38 (-1 : Int64)) (by decide +kernel)) dX8_leftBy_64 ?_
            refine lv_lxor hx hb dX8_leftBy_67 ?_
            refine lv_land hx hb dX8_leftBy_68 ?_
            refine lv_lconst (v := (0 : Int64)) hx hb dX8_leftBy_69 (by decide) ?_
            refine W.lcmp hx hb dX8_leftBy_70 ?_
            refine lv_if_ne (tgt := 99) hx hb dX8_leftBy_71 (by decide) (fun c7 => ?_) (fun c7 => ?_)
            · have c7 := fun z => c7 (lgc0.mpr z)
              have hf := it_f c7 hf
              obtain ⟨x8, ex8⟩ : ∃ y : Int32, y = (v6 + (1 : Int32)) := ⟨_, rfl⟩
              have hf := lt_n hf x8 ex8
              refine lv_iinc (v := x8) (lv' := [(6, .int x8), (0, .ref h_t), (1, .int a1), (2, .long v2), (4, .int v4), (5, .int v5)]) hx hb dX8_leftBy_99 hl (k := 5) rfl (by rw [ex8]; rfl) (by decide) rfl (fun ls hl => ?_)
              refine lv_goto (tgt := 22) hx hb dX8_leftBy_102 (by decide) ?_
              exact ih v2 v4 v5 x8 hf _ _ hP hD hS _ (lv_sub hl [1, 2, 3, 4, 5, 0] rfl)
            · have c7 := lgc0.mp c7
              have hf := it_t c7 hf
              refine lv_iload hx hb dX8_leftBy_74 (lv_at hl 3 rfl) ?_
              refine lv_iconst (v := (1 : Int32)) hx hb dX8_leftBy_76 (by decide) ?_
              refine lv_iload hx hb dX8_leftBy_77 (lv_at hl 5 rfl) ?_
              refine lv_ishl hx hb dX8_leftBy_79 ?_
              refine lv_ior hx hb dX8_leftBy_80 ?_
              refine lv_topi (fun x9 ex9 => ?_)
              have hf := lt_n hf x9 ex9
              refine lv_istore (lv' := [(4, .int x9), (0, .ref h_t), (1, .int a1), (2, .long v2), (5, .int v5), (6, .int v6)]) hx hb dX8_leftBy_81 hl (by decide) rfl (fun ls hl => ?_)
              refine lv_lload_n hx hb dX8_leftBy_83 rfl (lv_at hl 3 rfl) ?_
              refine lv_aload_n hx hb dX8_leftBy_84 rfl (lv_at hl 1 rfl) ?_
              refine va_get (D := G.1) (ci := 8) (v := .ref h_t_said) (C := RX8) (T := TX8) (N := 21) hx hb hts hiX8 hown hg.1 hP 0 rfl rfl 3 (by decide) (hts (.fieldLink RX8 13 "AsARuleModel" "said" "[J") (by decide +kernel)) (fun _ h9 => h9) rfl dX8_leftBy_85 ?_
              refine lv_bipush (v := (18 : Int32)) hx hb dX8_leftBy_88 (by decide) ?_
              refine lv_iload hx hb dX8_leftBy_90 (lv_at hl 5 rfl) ?_
              refine lv_iadd hx hb dX8_leftBy_92 ?_
              refine va_lald hx hb hg.1 hP 1 2 rfl rfl (ib_in (gd_t hf)) dX8_leftBy_93 ?_
              have hf := gd_x hf
              refine lv_land hx hb dX8_leftBy_94 ?_
              refine lv_topl (fun x10 ex10 => ?_)
              have hf := lt_n hf x10 ex10
              refine lv_lstore_n (lv' := [(2, .long x10), (4, .int x9), (0, .ref h_t), (1, .int a1), (5, .int v5), (6, .int v6)]) hx hb dX8_leftBy_95 rfl hl (by decide) rfl (fun ls hl => ?_)
              refine lv_iconst (v := (1 : Int32)) hx hb dX8_leftBy_96 (by decide) ?_
              refine lv_istore (lv' := [(5, .int (1 : Int32)), (2, .long x10), (4, .int x9), (0, .ref h_t), (1, .int a1), (6, .int v6)]) hx hb dX8_leftBy_97 hl (by decide) rfl (fun ls hl => ?_)
              obtain ⟨x11, ex11⟩ : ∃ y : Int32, y = (v6 + (1 : Int32)) := ⟨_, rfl⟩
              have hf := lt_n hf x11 ex11
              refine lv_iinc (v := x11) (lv' := [(6, .int x11), (5, .int (1 : Int32)), (2, .long x10), (4, .int x9), (0, .ref h_t), (1, .int a1)]) hx hb dX8_leftBy_99 hl (k := 5) rfl (by rw [ex11]; rfl) (by decide) rfl (fun ls hl => ?_)
              refine lv_goto (tgt := 22) hx hb dX8_leftBy_102 (by decide) ?_
              exact ih x10 x9 (1 : Int32) x11 hf _ _ hP hD hS _ (lv_sub hl [4, 5, 2, 3, 1, 0] rfl)
  have hw_11 : ∀  (n : Nat) (v2 : Int64) (v4 : Int32) (v5 : Int32), lp_X8_leftBy_11 t_said t_many a1 n v2 v4 v5 = some o → ∀ (H : Heap) (locs : List Loc), va_P G.1 vwCl [(h_t, .inr (8, [.long t_trace, .ref h_t_text, .int t_typed, .ref h_t_said, .ref h_t_many, .long t_when, .long t_then, .ref h_t_grades, .ref h_t_doubts, .int t_at, .int t_token, .int t_start, .ref h_t_vals, .ref h_t_waits, .int t_valMany, .int t_waitMany, .int t_open, .long t_saying, .ref h_t_fresh, .ref h_t_freshMany, .int t_quarrel])), (h_t_said, .inl (G.2.1.2.2, 45, .inr (.inl t_said))), (h_t_many, .inl (G.2.1.2.1, 5, .inl t_many))] H → va_D A [(h_t, .inr (8, [.long t_trace, .ref h_t_text, .int t_typed, .ref h_t_said, .ref h_t_many, .long t_when, .long t_then, .ref h_t_grades, .ref h_t_doubts, .int t_at, .int t_token, .int t_start, .ref h_t_vals, .ref h_t_waits, .int t_valMany, .int t_waitMany, .int t_open, .long t_saying, .ref h_t_fresh, .ref h_t_freshMany, .int t_quarrel])), (h_t_said, .inl (G.2.1.2.2, 45, .inr (.inl t_said))), (h_t_many, .inl (G.2.1.2.1, 5, .inl t_many))] → va_S A s.heap H locs → ∀ (ls : Array Slot), lv_has ls 7 [(0, .ref h_t), (1, .int a1), (2, .long v2), (4, .int v4), (5, .int v5)] → W p l e (headSpec wsX8_leftBy ({ frames := 3, cells := 0, slots := 0, locals := 64 } : Room)).room s m ([.ref h_t, .int a1] : List Value).toArray below meth c H locs 0 0 (MQ below (qcL Unit G o (fun _ => True) (fun _ => [(h_t, .inr (8, [.long t_trace, .ref h_t_text, .int t_typed, .ref h_t_said, .ref h_t_many, .long t_when, .long t_then, .ref h_t_grades, .ref h_t_doubts, .int t_at, .int t_token, .int t_start, .ref h_t_vals, .ref h_t_waits, .int t_valMany, .int t_waitMany, .int t_open, .long t_saying, .ref h_t_fresh, .ref h_t_freshMany, .int t_quarrel])), (h_t_said, .inl (G.2.1.2.2, 45, .inr (.inl t_said))), (h_t_many, .inl (G.2.1.2.1, 5, .inl t_many))]) A) ([.ref h_t, .int a1] : List Value).toArray s 0 0 A) (F0 m 11 ls []) := by
    intro n
    induction n with
    | zero =>
      intro v2 v4 v5 hf
      exact absurd hf (by rw [lp_X8_leftBy_11]; intro h; cases h)
    | succ n ih =>
      intro v2 v4 v5 hf H locs hP hD hS ls hl
      rw [lp_X8_leftBy_11] at hf
      refine lv_iload hx hb dX8_leftBy_11 (lv_at hl 4 rfl) ?_
      refine lv_if_eq (tgt := 108) hx hb dX8_leftBy_13 (by decide) (fun c12 => ?_) (fun c12 => ?_)
      · have hf := it_t c12 hf
        exact hw_108 v2 v4 hf _ _ hP hD hS _ (lv_sub hl [1, 2, 3] rfl)
      · have hf := it_f c12 hf
        refine lv_iconst (v := (0 : Int32)) hx hb dX8_leftBy_16 (by decide) ?_
        refine lv_istore (lv' := [(5, .int (0 : Int32)), (0, .ref h_t), (1, .int a1), (2, .long v2), (4, .int v4)]) hx hb dX8_leftBy_17 hl (by decide) rfl (fun ls hl => ?_)
        refine lv_iconst (v := (0 : Int32)) hx hb dX8_leftBy_19 (by decide) ?_
        refine lv_istore (lv' := [(6, .int (0 : Int32)), (5, .int (0 : Int32)), (0, .ref h_t), (1, .int a1), (2, .long v2), (4, .int v4)]) hx hb dX8_leftBy_20 hl (by decide) rfl (fun ls hl => ?_)
        exact hw_22 _ ih fu v2 v4 (0 : Int32) (0 : Int32) hf _ _ hP hD hS _ (lv_sub hl [2, 3, 4, 5, 1, 0] rfl)
  unfold f_X8_leftBy at hf
  refine en (fun H locs hP hD hS => ?_) hP hD
  refine lv_aload_n hx hb dX8_leftBy_0 rfl (lv_at hl 0 rfl) ?_
  obtain ⟨o13, ho13, hf⟩ := bd_e hf
  refine af_l (wr := []) (va_runV (As := []) (rest := []) ⟨hx, hb, hml, hown, hts⟩ (c_X8_groundNow l G h_t h_t_text h_t_said h_t_many h_t_grades h_t_doubts h_t_vals h_t_waits h_t_fresh h_t_freshMany H.size t_trace t_typed t_when t_then t_at t_token t_start t_valMany t_waitMany t_open t_saying t_quarrel t_said t_many o13 ho13) (cwV 0 hts gX8_leftBy_X8_groundNow rfl rfl rfl (by decide +kernel) ⟨Nat.le_of_ble_eq_true rfl, Nat.le_of_ble_eq_true rfl⟩) (pcA_preV hg hc hP hD hS hA [0, 1, 2] rfl (by decide) (q0 := 0) (ci := 8) rfl rfl rfl) rfl rfl hl.1 rfl (lv_room (Nat.le_of_ble_eq_true rfl)) dX8_leftBy_1 ⟨Nat.zero_le _, Nat.zero_le _⟩) hP hD hS hA [0, 1, 2] [] rfl rfl (by decide) (by decide) (fun _ H locs _ hP hD hS => ?_)
  have hP : va_P G.1 vwCl [(h_t, .inr (8, [.long t_trace, .ref h_t_text, .int t_typed, .ref h_t_said, .ref h_t_many, .long t_when, .long t_then, .ref h_t_grades, .ref h_t_doubts, .int t_at, .int t_token, .int t_start, .ref h_t_vals, .ref h_t_waits, .int t_valMany, .int t_waitMany, .int t_open, .long t_saying, .ref h_t_fresh, .ref h_t_freshMany, .int t_quarrel])), (h_t_said, .inl (G.2.1.2.2, 45, .inr (.inl t_said))), (h_t_many, .inl (G.2.1.2.1, 5, .inl t_many))] H := hP
  have hD : va_D A [(h_t, .inr (8, [.long t_trace, .ref h_t_text, .int t_typed, .ref h_t_said, .ref h_t_many, .long t_when, .long t_then, .ref h_t_grades, .ref h_t_doubts, .int t_at, .int t_token, .int t_start, .ref h_t_vals, .ref h_t_waits, .int t_valMany, .int t_waitMany, .int t_open, .long t_saying, .ref h_t_fresh, .ref h_t_freshMany, .int t_quarrel])), (h_t_said, .inl (G.2.1.2.2, 45, .inr (.inl t_said))), (h_t_many, .inl (G.2.1.2.1, 5, .inl t_many))] := hD
  refine lv_lstore_n (lv' := [(2, .long o13), (0, .ref h_t), (1, .int a1)]) hx hb dX8_leftBy_4 rfl hl (by decide) rfl (fun ls hl => ?_)
  refine lv_iconst (v := (0 : Int32)) hx hb dX8_leftBy_5 (by decide) ?_
  refine lv_istore (lv' := [(4, .int (0 : Int32)), (2, .long o13), (0, .ref h_t), (1, .int a1)]) hx hb dX8_leftBy_6 hl (by decide) rfl (fun ls hl => ?_)
  refine lv_iconst (v := (1 : Int32)) hx hb dX8_leftBy_8 (by decide) ?_
  refine lv_istore (lv' := [(5, .int (1 : Int32)), (4, .int (0 : Int32)), (2, .long o13), (0, .ref h_t), (1, .int a1)]) hx hb dX8_leftBy_9 hl (by decide) rfl (fun ls hl => ?_)
  exact hw_11 fu o13 (0 : Int32) (1 : Int32) hf _ _ hP hD hS _ (lv_sub hl [3, 4, 2, 1, 0] rfl)
-- method X8_isEnd
def lp_X8_isEnd_22 (t_said : Nat → Int64) (t_many : Nat → Int32) (a1 : Int32) (v2 : Int64) : Nat → Int32 → Int32 → Option (Int32)
  | 0, _, _ => none
  | n + 1, v4, v5 => gd (ib (1 : Int32) 5) (if (t_many (1 : Int32).toNatClampNeg) ≤ v5 then gd (zb v4) (some (v4)) else if v4 = (0 : Int32) then gd (zb v4) (some (v4)) else if ((a1 >>> (v5 &&& 31)) &&& (1 : Int32)) = (1 : Int32) then lt (v5 + (1 : Int32)) (fun x6 => lp_X8_isEnd_22 t_said t_many a1 v2 n (1 : Int32) x6) else gd (ib ((9 : Int32) + v5) 45) (if (v2 &&& ((t_said ((9 : Int32) + v5).toNatClampNeg) ^^^ (-1 : Int64))) = (0 : Int64) then gd (ib ((18 : Int32) + v5) 45) (if (v2 &&& (t_said ((18 : Int32) + v5).toNatClampNeg)) = (0 : Int64) then lt (v5 + (1 : Int32)) (fun x11 => lp_X8_isEnd_22 t_said t_many a1 v2 n (1 : Int32) x11) else lt (v5 + (1 : Int32)) (fun x10 => lp_X8_isEnd_22 t_said t_many a1 v2 n (0 : Int32) x10)) else lt (v5 + (1 : Int32)) (fun x8 => lp_X8_isEnd_22 t_said t_many a1 v2 n (1 : Int32) x8)))
def f_X8_isEnd (t_said : Nat → Int64) (t_many : Nat → Int32) (a1 : Int32) : Option (Int32) :=
  bd (f_X8_leftBy t_said t_many a1) (fun o12 => if o12 = (0 : Int64) then lp_X8_isEnd_22 t_said t_many a1 o12 fu (0 : Int32) (0 : Int32) else lp_X8_isEnd_22 t_said t_many a1 o12 fu (1 : Int32) (0 : Int32))
set_option maxHeartbeats 4000000 in
set_option maxRecDepth 100000 in
theorem c_X8_isEnd (l : Launch) (G : GG) (h_t h_t_text h_t_said h_t_many h_t_grades h_t_doubts h_t_vals h_t_waits h_t_fresh h_t_freshMany : Nat) (sz : Nat) (t_trace : Int64) (t_typed : Int32) (t_when : Int64) (t_then : Int64) (t_at : Int32) (t_token : Int32) (t_start : Int32) (t_valMany : Int32) (t_waitMany : Int32) (t_open : Int32) (t_saying : Int64) (t_quarrel : Int32) (t_said : Nat → Int64) (t_many : Nat → Int32) (a1 : Int32) (o : Int32) (ho : f_X8_isEnd t_said t_many a1 = some o)  : Met l yX8_isEnd wsX8_isEnd ({ frames := 4, cells := 0, slots := 0, locals := 90 } : Room) (pcA G [.ref h_t, .int a1] [(h_t, .inr (8, [.long t_trace, .ref h_t_text, .int t_typed, .ref h_t_said, .ref h_t_many, .long t_when, .long t_then, .ref h_t_grades, .ref h_t_doubts, .int t_at, .int t_token, .int t_start, .ref h_t_vals, .ref h_t_waits, .int t_valMany, .int t_waitMany, .int t_open, .long t_saying, .ref h_t_fresh, .ref h_t_freshMany, .int t_quarrel])), (h_t_said, .inl (G.2.1.2.2, 45, .inr (.inl t_said))), (h_t_many, .inl (G.2.1.2.1, 5, .inl t_many))] sz) (qcI Unit G o (fun _ => True) (fun _ => [(h_t, .inr (8, [.long t_trace, .ref h_t_text, .int t_typed, .ref h_t_said, .ref h_t_many, .long t_when, .long t_then, .ref h_t_grades, .ref h_t_doubts, .int t_at, .int t_token, .int t_start, .ref h_t_vals, .ref h_t_waits, .int t_valMany, .int t_waitMany, .int t_open, .long t_saying, .ref h_t_fresh, .ref h_t_freshMany, .int t_quarrel])), (h_t_said, .inl (G.2.1.2.2, 45, .inr (.inl t_said))), (h_t_many, .inl (G.2.1.2.1, 5, .inl t_many))]) (va_A [(h_t, .inr (8, [.long t_trace, .ref h_t_text, .int t_typed, .ref h_t_said, .ref h_t_many, .long t_when, .long t_then, .ref h_t_grades, .ref h_t_doubts, .int t_at, .int t_token, .int t_start, .ref h_t_vals, .ref h_t_waits, .int t_valMany, .int t_waitMany, .int t_open, .long t_saying, .ref h_t_fresh, .ref h_t_freshMany, .int t_quarrel])), (h_t_said, .inl (G.2.1.2.2, 45, .inr (.inl t_said))), (h_t_many, .inl (G.2.1.2.1, 5, .inl t_many))] sz)) 0 0 (va_A [(h_t, .inr (8, [.long t_trace, .ref h_t_text, .int t_typed, .ref h_t_said, .ref h_t_many, .long t_when, .long t_then, .ref h_t_grades, .ref h_t_doubts, .int t_at, .int t_token, .int t_start, .ref h_t_vals, .ref h_t_waits, .int t_valMany, .int t_waitMany, .int t_open, .long t_saying, .ref h_t_fresh, .ref h_t_freshMany, .int t_quarrel])), (h_t_said, .inl (G.2.1.2.2, 45, .inr (.inl t_said))), (h_t_many, .inl (G.2.1.2.1, 5, .inl t_many))] sz) := by
  refine Met.ofW (cc := cX8_isEnd) (maxL := 6) (ret := (some .boolean)) (by decide) rfl ?_
  intro p e s m args below meth c s₁ B hml hv
  obtain ⟨rfl, hsz, hP, hg, hD0, hc⟩ := hv
  have hx := B.exec
  have hb := B.bytes
  have hr := B.returns
  have hts := atoms_spec (ws := wsX8_isEnd) B.pre
  have hown : s.vm.findClass RX8 = some m.cls := findClass_of_methodNamed B.named
  have hlocks := B.notSynchronized
  subst hsz
  have hD := hD0.self (sz := s.heap.size)
  generalize hAe : va_A [(h_t, .inr (8, [.long t_trace, .ref h_t_text, .int t_typed, .ref h_t_said, .ref h_t_many, .long t_when, .long t_then, .ref h_t_grades, .ref h_t_doubts, .int t_at, .int t_token, .int t_start, .ref h_t_vals, .ref h_t_waits, .int t_valMany, .int t_waitMany, .int t_open, .long t_saying, .ref h_t_fresh, .ref h_t_freshMany, .int t_quarrel])), (h_t_said, .inl (G.2.1.2.2, 45, .inr (.inl t_said))), (h_t_many, .inl (G.2.1.2.1, 5, .inl t_many))] s.heap.size = A at hD hc ⊢
  have hA : ∀ q : Nat, s.heap.size ≤ q → A q := fun q h => by rw [← hAe]; exact Or.inr h
  have hiX8 : ∀ w ∈ wsX80, w ∈ wsX8_isEnd := by decide +kernel
  have hl := lv_entry ([.ref h_t, .int a1]) (n := 6) (Nat.le_of_ble_eq_true rfl)
  rw [lg_entry_eq]
  generalize (lg_sl ([.ref h_t, .int a1]) ++ List.replicate (6 - (lg_sl ([.ref h_t, .int a1])).length) Slot.unset).toArray = ls at hl ⊢
  have hl : lv_has ls 6 [(0, .ref h_t), (1, .int a1)] := hl
  have hf := ho
  have hw_22 : ∀ (v2 : Int64) (n : Nat) (v4 : Int32) (v5 : Int32), lp_X8_isEnd_22 t_said t_many a1 v2 n v4 v5 = some o → ∀ (H : Heap) (locs : List Loc), va_P G.1 vwCl [(h_t, .inr (8, [.long t_trace, .ref h_t_text, .int t_typed, .ref h_t_said, .ref h_t_many, .long t_when, .long t_then, .ref h_t_grades, .ref h_t_doubts, .int t_at, .int t_token, .int t_start, .ref h_t_vals, .ref h_t_waits, .int t_valMany, .int t_waitMany, .int t_open, .long t_saying, .ref h_t_fresh, .ref h_t_freshMany, .int t_quarrel])), (h_t_said, .inl (G.2.1.2.2, 45, .inr (.inl t_said))), (h_t_many, .inl (G.2.1.2.1, 5, .inl t_many))] H → va_D A [(h_t, .inr (8, [.long t_trace, .ref h_t_text, .int t_typed, .ref h_t_said, .ref h_t_many, .long t_when, .long t_then, .ref h_t_grades, .ref h_t_doubts, .int t_at, .int t_token, .int t_start, .ref h_t_vals, .ref h_t_waits, .int t_valMany, .int t_waitMany, .int t_open, .long t_saying, .ref h_t_fresh, .ref h_t_freshMany, .int t_quarrel])), (h_t_said, .inl (G.2.1.2.2, 45, .inr (.inl t_said))), (h_t_many, .inl (G.2.1.2.1, 5, .inl t_many))] → va_S A s.heap H locs → ∀ (ls : Array Slot), lv_has ls 6 [(0, .ref h_t), (1, .int a1), (2, .long v2), (4, .int v4), (5, .int v5)] → W p l e (headSpec wsX8_isEnd ({ frames := 4, cells := 0, slots := 0, locals := 90 } : Room)).room s m ([.ref h_t, .int a1] : List Value).toArray below meth c H locs 0 0 (MQ below (qcI Unit G o (fun _ => True) (fun _ => [(h_t, .inr (8, [.long t_trace, .ref h_t_text, .int t_typed, .ref h_t_said, .ref h_t_many, .long t_when, .long t_then, .ref h_t_grades, .ref h_t_doubts, .int t_at, .int t_token, .int t_start, .ref h_t_vals, .ref h_t_waits, .int t_valMany, .int t_waitMany, .int t_open, .long t_saying, .ref h_t_fresh, .ref h_t_freshMany, .int t_quarrel])), (h_t_said, .inl (G.2.1.2.2, 45, .inr (.inl t_said))), (h_t_many, .inl (G.2.1.2.1, 5, .inl t_many))]) A) ([.ref h_t, .int a1] : List Value).toArray s 0 0 A) (F0 m 22 ls []) := by
    intro v2
    intro n
    induction n with
    | zero =>
      intro v4 v5 hf
      exact absurd hf (by rw [lp_X8_isEnd_22]; intro h; cases h)
    | succ n ih =>
      intro v4 v5 hf H locs hP hD hS ls hl
      rw [lp_X8_isEnd_22] at hf
      refine lv_iload hx hb dX8_isEnd_22 (lv_at hl 4 rfl) ?_
      refine lv_aload_n hx hb dX8_isEnd_24 rfl (lv_at hl 0 rfl) ?_
      refine va_get (D := G.1) (ci := 8) (v := .ref h_t_many) (C := RX8) (T := TX8) (N := 21) hx hb hts hiX8 hown hg.1 hP 0 rfl rfl 4 (by decide) (hts (.fieldLink RX8 17 "AsARuleModel" "many" "[I") (by decide +kernel)) (fun _ h9 => h9) rfl dX8_isEnd_25 ?_
      refine lv_iconst (v := (1 : Int32)) hx hb dX8_isEnd_28 (by decide) ?_
      refine va_iald hx hb hg.1 hP 2 1 rfl rfl (ib_in (gd_t hf)) dX8_isEnd_29 ?_
      have hf := gd_x hf
      refine lv_icmp_ge (tgt := 99) hx hb dX8_isEnd_30 (by decide) (fun c1 => ?_) (fun c1 => ?_)
      · have hf := it_t c1 hf
        refine lv_iload hx hb dX8_isEnd_99 (lv_at hl 3 rfl) ?_
        have z2 := gd_t hf
        have hf := gd_x hf
        rw [← Option.some.inj hf]
        exact rt_z (u := ()) hx hb hr z2 hlocks hP hD trivial hS dX8_isEnd_101
      · have hf := it_f c1 hf
        refine lv_iload hx hb dX8_isEnd_33 (lv_at hl 3 rfl) ?_
        refine lv_if_eq (tgt := 99) hx hb dX8_isEnd_35 (by decide) (fun c3 => ?_) (fun c3 => ?_)
        · have hf := it_t c3 hf
          refine lv_iload hx hb dX8_isEnd_99 (lv_at hl 3 rfl) ?_
          have z4 := gd_t hf
          have hf := gd_x hf
          rw [← Option.some.inj hf]
          exact rt_z (u := ()) hx hb hr z4 hlocks hP hD trivial hS dX8_isEnd_101
        · have hf := it_f c3 hf
          refine lv_iload_n hx hb dX8_isEnd_38 rfl (lv_at hl 1 rfl) ?_
          refine lv_iload hx hb dX8_isEnd_39 (lv_at hl 4 rfl) ?_
          refine lv_ishr hx hb dX8_isEnd_41 ?_
          refine lv_iconst (v := (1 : Int32)) hx hb dX8_isEnd_42 (by decide) ?_
          refine lv_iand hx hb dX8_isEnd_43 ?_
          refine lv_iconst (v := (1 : Int32)) hx hb dX8_isEnd_44 (by decide) ?_
          refine lv_icmp_eq (tgt := 86) hx hb dX8_isEnd_45 (by decide) (fun c5 => ?_) (fun c5 => ?_)
          · have hf := it_t c5 hf
            refine lv_iconst (v := (1 : Int32)) hx hb dX8_isEnd_86 (by decide) ?_
            refine lv_goto (tgt := 91) hx hb dX8_isEnd_87 (by decide) ?_
            refine lv_istore (lv' := [(4, .int (1 : Int32)), (0, .ref h_t), (1, .int a1), (2, .long v2), (5, .int v5)]) hx hb dX8_isEnd_91 hl (by decide) rfl (fun ls hl => ?_)
            obtain ⟨x6, ex6⟩ : ∃ y : Int32, y = (v5 + (1 : Int32)) := ⟨_, rfl⟩
            have hf := lt_n hf x6 ex6
            refine lv_iinc (v := x6) (lv' := [(5, .int x6), (4, .int (1 : Int32)), (0, .ref h_t), (1, .int a1), (2, .long v2)]) hx hb dX8_isEnd_93 hl (k := 4) rfl (by rw [ex6]; rfl) (by decide) rfl (fun ls hl => ?_)
            refine lv_goto (tgt := 22) hx hb dX8_isEnd_96 (by decide) ?_
            exact ih (1 : Int32) x6 hf _ _ hP hD hS _ (lv_sub hl [2, 3, 4, 1, 0] rfl)
          · have hf := it_f c5 hf
            refine lv_lload_n hx hb dX8_isEnd_48 rfl (lv_at hl 2 rfl) ?_
            refine lv_aload_n hx hb dX8_isEnd_49 rfl (lv_at hl 0 rfl) ?_
            refine va_get (D := G.1) (ci := 8) (v := .ref h_t_said) (C := RX8) (T := TX8) (N := 21) hx hb hts hiX8 hown hg.1 hP 0 rfl rfl 3 (by decide) (hts (.fieldLink RX8 13 "AsARuleModel" "said" "[J") (by decide +kernel)) (fun _ h9 => h9) rfl dX8_isEnd_50 ?_
            refine lv_bipush (v := (9 : Int32)) hx hb dX8_isEnd_53 (by decide) ?_
            refine lv_iload hx hb dX8_isEnd_55 (lv_at hl 4 rfl) ?_
            refine lv_iadd hx hb dX8_isEnd_57 ?_
            refine va_lald hx hb hg.1 hP 1 2 rfl rfl (ib_in (gd_t hf)) dX8_isEnd_58 ?_
            have hf := gd_x hf
            refine lv_ldc2 (v := (-1 : Int64)) hx hb hown (hts (.constantLong RX8 38 (-1 : Int64)) (by decide +kernel)) dX8_isEnd_59 ?_
            refine lv_lxor hx hb dX8_isEnd_62 ?_
            refine lv_land hx hb dX8_isEnd_63 ?_
            refine lv_lconst (v := (0 : Int64)) hx hb dX8_isEnd_64 (by decide) ?_
            refine W.lcmp hx hb dX8_isEnd_65 ?_
            refine lv_if_ne (tgt := 86) hx hb dX8_isEnd_66 (by decide) (fun c7 => ?_) (fun c7 => ?_)
            · have c7 := fun z => c7 (lgc0.mpr z)
              have hf := it_f c7 hf
              refine lv_iconst (v := (1 : Int32)) hx hb dX8_isEnd_86 (by decide) ?_
              refine lv_goto (tgt := 91) hx hb dX8_isEnd_87 (by decide) ?_
              refine lv_istore (lv' := [(4, .int (1 : Int32)), (0, .ref h_t), (1, .int a1), (2, .long v2), (5, .int v5)]) hx hb dX8_isEnd_91 hl (by decide) rfl (fun ls hl => ?_)
              obtain ⟨x8, ex8⟩ : ∃ y : Int32, y = (v5 + (1 : Int32)) := ⟨_, rfl⟩
              have hf := lt_n hf x8 ex8
              refine lv_iinc (v := x8) (lv' := [(5, .int x8), (4, .int (1 : Int32)), (0, .ref h_t), (1, .int a1), (2, .long v2)]) hx hb dX8_isEnd_93 hl (k := 4) rfl (by rw [ex8]; rfl) (by decide) rfl (fun ls hl => ?_)
              refine lv_goto (tgt := 22) hx hb dX8_isEnd_96 (by decide) ?_
              exact ih (1 : Int32) x8 hf _ _ hP hD hS _ (lv_sub hl [2, 3, 4, 1, 0] rfl)
            · have c7 := lgc0.mp c7
              have hf := it_t c7 hf
              refine lv_lload_n hx hb dX8_isEnd_69 rfl (lv_at hl 2 rfl) ?_
              refine lv_aload_n hx hb dX8_isEnd_70 rfl (lv_at hl 0 rfl) ?_
              refine va_get (D := G.1) (ci := 8) (v := .ref h_t_said) (C := RX8) (T := TX8) (N := 21) hx hb hts hiX8 hown hg.1 hP 0 rfl rfl 3 (by decide) (hts (.fieldLink RX8 13 "AsARuleModel" "said" "[J") (by decide +kernel)) (fun _ h9 => h9) rfl dX8_isEnd_71 ?_
              refine lv_bipush (v := (18 : Int32)) hx hb dX8_isEnd_74 (by decide) ?_
              refine lv_iload hx hb dX8_isEnd_76 (lv_at hl 4 rfl) ?_
              refine lv_iadd hx hb dX8_isEnd_78 ?_
              refine va_lald hx hb hg.1 hP 1 2 rfl rfl (ib_in (gd_t hf)) dX8_isEnd_79 ?_
              have hf := gd_x hf
              refine lv_land hx hb dX8_isEnd_80 ?_
              refine lv_lconst (v := (0 : Int64)) hx hb dX8_isEnd_81 (by decide) ?_
              refine W.lcmp hx hb dX8_isEnd_82 ?_
              refine lv_if_ne (tgt := 90) hx hb dX8_isEnd_83 (by decide) (fun c9 => ?_) (fun c9 => ?_)
              · have c9 := fun z => c9 (lgc0.mpr z)
                have hf := it_f c9 hf
                refine lv_iconst (v := (0 : Int32)) hx hb dX8_isEnd_90 (by decide) ?_
                refine lv_istore (lv' := [(4, .int (0 : Int32)), (0, .ref h_t), (1, .int a1), (2, .long v2), (5, .int v5)]) hx hb dX8_isEnd_91 hl (by decide) rfl (fun ls hl => ?_)
                obtain ⟨x10, ex10⟩ : ∃ y : Int32, y = (v5 + (1 : Int32)) := ⟨_, rfl⟩
                have hf := lt_n hf x10 ex10
                refine lv_iinc (v := x10) (lv' := [(5, .int x10), (4, .int (0 : Int32)), (0, .ref h_t), (1, .int a1), (2, .long v2)]) hx hb dX8_isEnd_93 hl (k := 4) rfl (by rw [ex10]; rfl) (by decide) rfl (fun ls hl => ?_)
                refine lv_goto (tgt := 22) hx hb dX8_isEnd_96 (by decide) ?_
                exact ih (0 : Int32) x10 hf _ _ hP hD hS _ (lv_sub hl [2, 3, 4, 1, 0] rfl)
              · have c9 := lgc0.mp c9
                have hf := it_t c9 hf
                refine lv_iconst (v := (1 : Int32)) hx hb dX8_isEnd_86 (by decide) ?_
                refine lv_goto (tgt := 91) hx hb dX8_isEnd_87 (by decide) ?_
                refine lv_istore (lv' := [(4, .int (1 : Int32)), (0, .ref h_t), (1, .int a1), (2, .long v2), (5, .int v5)]) hx hb dX8_isEnd_91 hl (by decide) rfl (fun ls hl => ?_)
                obtain ⟨x11, ex11⟩ : ∃ y : Int32, y = (v5 + (1 : Int32)) := ⟨_, rfl⟩
                have hf := lt_n hf x11 ex11
                refine lv_iinc (v := x11) (lv' := [(5, .int x11), (4, .int (1 : Int32)), (0, .ref h_t), (1, .int a1), (2, .long v2)]) hx hb dX8_isEnd_93 hl (k := 4) rfl (by rw [ex11]; rfl) (by decide) rfl (fun ls hl => ?_)
                refine lv_goto (tgt := 22) hx hb dX8_isEnd_96 (by decide) ?_
                exact ih (1 : Int32) x11 hf _ _ hP hD hS _ (lv_sub hl [2, 3, 4, 1, 0] rfl)
  unfold f_X8_isEnd at hf
  refine en (fun H locs hP hD hS => ?_) hP hD
  refine lv_aload_n hx hb dX8_isEnd_0 rfl (lv_at hl 0 rfl) ?_
  refine lv_iload_n hx hb dX8_isEnd_1 rfl (lv_at hl 1 rfl) ?_
  obtain ⟨o12, ho12, hf⟩ := bd_e hf
  refine af_l (wr := []) (va_runV (As := [.int a1]) (rest := []) ⟨hx, hb, hml, hown, hts⟩ (c_X8_leftBy l G h_t h_t_text h_t_said h_t_many h_t_grades h_t_doubts h_t_vals h_t_waits h_t_fresh h_t_freshMany H.size t_trace t_typed t_when t_then t_at t_token t_start t_valMany t_waitMany t_open t_saying t_quarrel t_said t_many a1 o12 ho12) (cwV 1 hts gX8_isEnd_X8_leftBy rfl rfl rfl (by decide +kernel) ⟨Nat.le_of_ble_eq_true rfl, Nat.le_of_ble_eq_true rfl⟩) (pcA_preV hg hc hP hD hS hA [0, 1, 2] rfl (by decide) (q0 := 0) (ci := 8) rfl rfl rfl) rfl rfl hl.1 rfl (lv_room (Nat.le_of_ble_eq_true rfl)) dX8_isEnd_2 ⟨Nat.zero_le _, Nat.zero_le _⟩) hP hD hS hA [0, 1, 2] [] rfl rfl (by decide) (by decide) (fun _ H locs _ hP hD hS => ?_)
  have hP : va_P G.1 vwCl [(h_t, .inr (8, [.long t_trace, .ref h_t_text, .int t_typed, .ref h_t_said, .ref h_t_many, .long t_when, .long t_then, .ref h_t_grades, .ref h_t_doubts, .int t_at, .int t_token, .int t_start, .ref h_t_vals, .ref h_t_waits, .int t_valMany, .int t_waitMany, .int t_open, .long t_saying, .ref h_t_fresh, .ref h_t_freshMany, .int t_quarrel])), (h_t_said, .inl (G.2.1.2.2, 45, .inr (.inl t_said))), (h_t_many, .inl (G.2.1.2.1, 5, .inl t_many))] H := hP
  have hD : va_D A [(h_t, .inr (8, [.long t_trace, .ref h_t_text, .int t_typed, .ref h_t_said, .ref h_t_many, .long t_when, .long t_then, .ref h_t_grades, .ref h_t_doubts, .int t_at, .int t_token, .int t_start, .ref h_t_vals, .ref h_t_waits, .int t_valMany, .int t_waitMany, .int t_open, .long t_saying, .ref h_t_fresh, .ref h_t_freshMany, .int t_quarrel])), (h_t_said, .inl (G.2.1.2.2, 45, .inr (.inl t_said))), (h_t_many, .inl (G.2.1.2.1, 5, .inl t_many))] := hD
  refine lv_lstore_n (lv' := [(2, .long o12), (0, .ref h_t), (1, .int a1)]) hx hb dX8_isEnd_5 rfl hl (by decide) rfl (fun ls hl => ?_)
  refine lv_lload_n hx hb dX8_isEnd_6 rfl (lv_at hl 0 rfl) ?_
  refine lv_lconst (v := (0 : Int64)) hx hb dX8_isEnd_7 (by decide) ?_
  refine W.lcmp hx hb dX8_isEnd_8 ?_
  refine lv_if_eq (tgt := 16) hx hb dX8_isEnd_9 (by decide) (fun c13 => ?_) (fun c13 => ?_)
  · have c13 := lgc0.mp c13
    have hf := it_t c13 hf
    refine lv_iconst (v := (0 : Int32)) hx hb dX8_isEnd_16 (by decide) ?_
    refine lv_istore (lv' := [(4, .int (0 : Int32)), (2, .long o12), (0, .ref h_t), (1, .int a1)]) hx hb dX8_isEnd_17 hl (by decide) rfl (fun ls hl => ?_)
    refine lv_iconst (v := (0 : Int32)) hx hb dX8_isEnd_19 (by decide) ?_
    refine lv_istore (lv' := [(5, .int (0 : Int32)), (4, .int (0 : Int32)), (2, .long o12), (0, .ref h_t), (1, .int a1)]) hx hb dX8_isEnd_20 hl (by decide) rfl (fun ls hl => ?_)
    exact hw_22 o12 fu (0 : Int32) (0 : Int32) hf _ _ hP hD hS _ (lv_sub hl [3, 4, 2, 1, 0] rfl)
  · have c13 := fun z => c13 (lgc0.mpr z)
    have hf := it_f c13 hf
    refine lv_iconst (v := (1 : Int32)) hx hb dX8_isEnd_12 (by decide) ?_
    refine lv_goto (tgt := 17) hx hb dX8_isEnd_13 (by decide) ?_
    refine lv_istore (lv' := [(4, .int (1 : Int32)), (2, .long o12), (0, .ref h_t), (1, .int a1)]) hx hb dX8_isEnd_17 hl (by decide) rfl (fun ls hl => ?_)
    refine lv_iconst (v := (0 : Int32)) hx hb dX8_isEnd_19 (by decide) ?_
    refine lv_istore (lv' := [(5, .int (0 : Int32)), (4, .int (1 : Int32)), (2, .long o12), (0, .ref h_t), (1, .int a1)]) hx hb dX8_isEnd_20 hl (by decide) rfl (fun ls hl => ?_)
    exact hw_22 o12 fu (1 : Int32) (0 : Int32) hf _ _ hP hD hS _ (lv_sub hl [3, 4, 2, 1, 0] rfl)
-- method X8_findEnd
def jn_X8_findEnd_40 (t_said : Nat → Int64) (t_many : Nat → Int32) (a1 : Int32) (v2 : Int32) : Option (Int32) :=
  if (0 : Int32) ≤ a1 then some ((-1 : Int32)) else some (v2)
def lp_X8_findEnd_4 (t_said : Nat → Int64) (t_many : Nat → Int32) (a1 : Int32) : Nat → Int32 → Int32 → Option (Int32)
  | 0, _, _ => none
  | n + 1, v2, v3 => gd (ib (1 : Int32) 5) (if ((1 : Int32) <<< ((t_many (1 : Int32).toNatClampNeg) &&& 31)) ≤ v3 then jn_X8_findEnd_40 t_said t_many a1 v2 else bd (f_X8_isEnd t_said t_many v3) (fun o3 => if o3 = (0 : Int32) then lt (v3 + (1 : Int32)) (fun x5 => lp_X8_findEnd_4 t_said t_many a1 n v2 x5) else if v2 = a1 then some (v3) else lt (v2 + (1 : Int32)) (fun x7 => lt (v3 + (1 : Int32)) (fun x8 => lp_X8_findEnd_4 t_said t_many a1 n x7 x8))))
def f_X8_findEnd (t_said : Nat → Int64) (t_many : Nat → Int32) (a1 : Int32) : Option (Int32) :=
  lp_X8_findEnd_4 t_said t_many a1 fu (0 : Int32) (0 : Int32)
set_option maxHeartbeats 4000000 in
set_option maxRecDepth 100000 in
theorem c_X8_findEnd (l : Launch) (G : GG) (h_t h_t_text h_t_said h_t_many h_t_grades h_t_doubts h_t_vals h_t_waits h_t_fresh h_t_freshMany : Nat) (sz : Nat) (t_trace : Int64) (t_typed : Int32) (t_when : Int64) (t_then : Int64) (t_at : Int32) (t_token : Int32) (t_start : Int32) (t_valMany : Int32) (t_waitMany : Int32) (t_open : Int32) (t_saying : Int64) (t_quarrel : Int32) (t_said : Nat → Int64) (t_many : Nat → Int32) (a1 : Int32) (o : Int32) (ho : f_X8_findEnd t_said t_many a1 = some o)  : Met l yX8_findEnd wsX8_findEnd ({ frames := 5, cells := 0, slots := 0, locals := 115 } : Room) (pcA G [.ref h_t, .int a1] [(h_t, .inr (8, [.long t_trace, .ref h_t_text, .int t_typed, .ref h_t_said, .ref h_t_many, .long t_when, .long t_then, .ref h_t_grades, .ref h_t_doubts, .int t_at, .int t_token, .int t_start, .ref h_t_vals, .ref h_t_waits, .int t_valMany, .int t_waitMany, .int t_open, .long t_saying, .ref h_t_fresh, .ref h_t_freshMany, .int t_quarrel])), (h_t_said, .inl (G.2.1.2.2, 45, .inr (.inl t_said))), (h_t_many, .inl (G.2.1.2.1, 5, .inl t_many))] sz) (qcI Unit G o (fun _ => True) (fun _ => [(h_t, .inr (8, [.long t_trace, .ref h_t_text, .int t_typed, .ref h_t_said, .ref h_t_many, .long t_when, .long t_then, .ref h_t_grades, .ref h_t_doubts, .int t_at, .int t_token, .int t_start, .ref h_t_vals, .ref h_t_waits, .int t_valMany, .int t_waitMany, .int t_open, .long t_saying, .ref h_t_fresh, .ref h_t_freshMany, .int t_quarrel])), (h_t_said, .inl (G.2.1.2.2, 45, .inr (.inl t_said))), (h_t_many, .inl (G.2.1.2.1, 5, .inl t_many))]) (va_A [(h_t, .inr (8, [.long t_trace, .ref h_t_text, .int t_typed, .ref h_t_said, .ref h_t_many, .long t_when, .long t_then, .ref h_t_grades, .ref h_t_doubts, .int t_at, .int t_token, .int t_start, .ref h_t_vals, .ref h_t_waits, .int t_valMany, .int t_waitMany, .int t_open, .long t_saying, .ref h_t_fresh, .ref h_t_freshMany, .int t_quarrel])), (h_t_said, .inl (G.2.1.2.2, 45, .inr (.inl t_said))), (h_t_many, .inl (G.2.1.2.1, 5, .inl t_many))] sz)) 0 0 (va_A [(h_t, .inr (8, [.long t_trace, .ref h_t_text, .int t_typed, .ref h_t_said, .ref h_t_many, .long t_when, .long t_then, .ref h_t_grades, .ref h_t_doubts, .int t_at, .int t_token, .int t_start, .ref h_t_vals, .ref h_t_waits, .int t_valMany, .int t_waitMany, .int t_open, .long t_saying, .ref h_t_fresh, .ref h_t_freshMany, .int t_quarrel])), (h_t_said, .inl (G.2.1.2.2, 45, .inr (.inl t_said))), (h_t_many, .inl (G.2.1.2.1, 5, .inl t_many))] sz) := by
  refine Met.ofW (cc := cX8_findEnd) (maxL := 4) (ret := (some .int)) (by decide) rfl ?_
  intro p e s m args below meth c s₁ B hml hv
  obtain ⟨rfl, hsz, hP, hg, hD0, hc⟩ := hv
  have hx := B.exec
  have hb := B.bytes
  have hr := B.returns
  have hts := atoms_spec (ws := wsX8_findEnd) B.pre
  have hown : s.vm.findClass RX8 = some m.cls := findClass_of_methodNamed B.named
  have hlocks := B.notSynchronized
  subst hsz
  have hD := hD0.self (sz := s.heap.size)
  generalize hAe : va_A [(h_t, .inr (8, [.long t_trace, .ref h_t_text, .int t_typed, .ref h_t_said, .ref h_t_many, .long t_when, .long t_then, .ref h_t_grades, .ref h_t_doubts, .int t_at, .int t_token, .int t_start, .ref h_t_vals, .ref h_t_waits, .int t_valMany, .int t_waitMany, .int t_open, .long t_saying, .ref h_t_fresh, .ref h_t_freshMany, .int t_quarrel])), (h_t_said, .inl (G.2.1.2.2, 45, .inr (.inl t_said))), (h_t_many, .inl (G.2.1.2.1, 5, .inl t_many))] s.heap.size = A at hD hc ⊢
  have hA : ∀ q : Nat, s.heap.size ≤ q → A q := fun q h => by rw [← hAe]; exact Or.inr h
  have hiX8 : ∀ w ∈ wsX80, w ∈ wsX8_findEnd := by decide +kernel
  have hl := lv_entry ([.ref h_t, .int a1]) (n := 4) (Nat.le_of_ble_eq_true rfl)
  rw [lg_entry_eq]
  generalize (lg_sl ([.ref h_t, .int a1]) ++ List.replicate (4 - (lg_sl ([.ref h_t, .int a1])).length) Slot.unset).toArray = ls at hl ⊢
  have hl : lv_has ls 4 [(0, .ref h_t), (1, .int a1)] := hl
  have hf := ho
  have hw_40 : ∀ (v2 : Int32), jn_X8_findEnd_40 t_said t_many a1 v2 = some o → ∀ (H : Heap) (locs : List Loc), va_P G.1 vwCl [(h_t, .inr (8, [.long t_trace, .ref h_t_text, .int t_typed, .ref h_t_said, .ref h_t_many, .long t_when, .long t_then, .ref h_t_grades, .ref h_t_doubts, .int t_at, .int t_token, .int t_start, .ref h_t_vals, .ref h_t_waits, .int t_valMany, .int t_waitMany, .int t_open, .long t_saying, .ref h_t_fresh, .ref h_t_freshMany, .int t_quarrel])), (h_t_said, .inl (G.2.1.2.2, 45, .inr (.inl t_said))), (h_t_many, .inl (G.2.1.2.1, 5, .inl t_many))] H → va_D A [(h_t, .inr (8, [.long t_trace, .ref h_t_text, .int t_typed, .ref h_t_said, .ref h_t_many, .long t_when, .long t_then, .ref h_t_grades, .ref h_t_doubts, .int t_at, .int t_token, .int t_start, .ref h_t_vals, .ref h_t_waits, .int t_valMany, .int t_waitMany, .int t_open, .long t_saying, .ref h_t_fresh, .ref h_t_freshMany, .int t_quarrel])), (h_t_said, .inl (G.2.1.2.2, 45, .inr (.inl t_said))), (h_t_many, .inl (G.2.1.2.1, 5, .inl t_many))] → va_S A s.heap H locs → ∀ (ls : Array Slot), lv_has ls 4 [(1, .int a1), (2, .int v2)] → W p l e (headSpec wsX8_findEnd ({ frames := 5, cells := 0, slots := 0, locals := 115 } : Room)).room s m ([.ref h_t, .int a1] : List Value).toArray below meth c H locs 0 0 (MQ below (qcI Unit G o (fun _ => True) (fun _ => [(h_t, .inr (8, [.long t_trace, .ref h_t_text, .int t_typed, .ref h_t_said, .ref h_t_many, .long t_when, .long t_then, .ref h_t_grades, .ref h_t_doubts, .int t_at, .int t_token, .int t_start, .ref h_t_vals, .ref h_t_waits, .int t_valMany, .int t_waitMany, .int t_open, .long t_saying, .ref h_t_fresh, .ref h_t_freshMany, .int t_quarrel])), (h_t_said, .inl (G.2.1.2.2, 45, .inr (.inl t_said))), (h_t_many, .inl (G.2.1.2.1, 5, .inl t_many))]) A) ([.ref h_t, .int a1] : List Value).toArray s 0 0 A) (F0 m 40 ls []) := by
    intro v2 hf H locs hP hD hS ls hl
    unfold jn_X8_findEnd_40 at hf
    refine lv_iload_n hx hb dX8_findEnd_40 rfl (lv_at hl 0 rfl) ?_
    refine lv_if_ge (tgt := 48) hx hb dX8_findEnd_41 (by decide) (fun c1 => ?_) (fun c1 => ?_)
    · have hf := it_t c1 hf
      refine lv_iconst (v := (-1 : Int32)) hx hb dX8_findEnd_48 (by decide) ?_
      rw [← Option.some.inj hf]
      exact rt_i (u := ()) hx hb hr hlocks hP hD trivial hS dX8_findEnd_49
    · have hf := it_f c1 hf
      refine lv_iload_n hx hb dX8_findEnd_44 rfl (lv_at hl 1 rfl) ?_
      refine lv_goto (tgt := 49) hx hb dX8_findEnd_45 (by decide) ?_
      rw [← Option.some.inj hf]
      exact rt_i (u := ()) hx hb hr hlocks hP hD trivial hS dX8_findEnd_49
  have hw_4 : ∀  (n : Nat) (v2 : Int32) (v3 : Int32), lp_X8_findEnd_4 t_said t_many a1 n v2 v3 = some o → ∀ (H : Heap) (locs : List Loc), va_P G.1 vwCl [(h_t, .inr (8, [.long t_trace, .ref h_t_text, .int t_typed, .ref h_t_said, .ref h_t_many, .long t_when, .long t_then, .ref h_t_grades, .ref h_t_doubts, .int t_at, .int t_token, .int t_start, .ref h_t_vals, .ref h_t_waits, .int t_valMany, .int t_waitMany, .int t_open, .long t_saying, .ref h_t_fresh, .ref h_t_freshMany, .int t_quarrel])), (h_t_said, .inl (G.2.1.2.2, 45, .inr (.inl t_said))), (h_t_many, .inl (G.2.1.2.1, 5, .inl t_many))] H → va_D A [(h_t, .inr (8, [.long t_trace, .ref h_t_text, .int t_typed, .ref h_t_said, .ref h_t_many, .long t_when, .long t_then, .ref h_t_grades, .ref h_t_doubts, .int t_at, .int t_token, .int t_start, .ref h_t_vals, .ref h_t_waits, .int t_valMany, .int t_waitMany, .int t_open, .long t_saying, .ref h_t_fresh, .ref h_t_freshMany, .int t_quarrel])), (h_t_said, .inl (G.2.1.2.2, 45, .inr (.inl t_said))), (h_t_many, .inl (G.2.1.2.1, 5, .inl t_many))] → va_S A s.heap H locs → ∀ (ls : Array Slot), lv_has ls 4 [(0, .ref h_t), (1, .int a1), (2, .int v2), (3, .int v3)] → W p l e (headSpec wsX8_findEnd ({ frames := 5, cells := 0, slots := 0, locals := 115 } : Room)).room s m ([.ref h_t, .int a1] : List Value).toArray below meth c H locs 0 0 (MQ below (qcI Unit G o (fun _ => True) (fun _ => [(h_t, .inr (8, [.long t_trace, .ref h_t_text, .int t_typed, .ref h_t_said, .ref h_t_many, .long t_when, .long t_then, .ref h_t_grades, .ref h_t_doubts, .int t_at, .int t_token, .int t_start, .ref h_t_vals, .ref h_t_waits, .int t_valMany, .int t_waitMany, .int t_open, .long t_saying, .ref h_t_fresh, .ref h_t_freshMany, .int t_quarrel])), (h_t_said, .inl (G.2.1.2.2, 45, .inr (.inl t_said))), (h_t_many, .inl (G.2.1.2.1, 5, .inl t_many))]) A) ([.ref h_t, .int a1] : List Value).toArray s 0 0 A) (F0 m 4 ls []) := by
    intro n
    induction n with
    | zero =>
      intro v2 v3 hf
      exact absurd hf (by rw [lp_X8_findEnd_4]; intro h; cases h)
    | succ n ih =>
      intro v2 v3 hf H locs hP hD hS ls hl
      rw [lp_X8_findEnd_4] at hf
      refine lv_iload_n hx hb dX8_findEnd_4 rfl (lv_at hl 3 rfl) ?_
      refine lv_iconst (v := (1 : Int32)) hx hb dX8_findEnd_5 (by decide) ?_
      refine lv_aload_n hx hb dX8_findEnd_6 rfl (lv_at hl 0 rfl) ?_
      refine va_get (D := G.1) (ci := 8) (v := .ref h_t_many) (C := RX8) (T := TX8) (N := 21) hx hb hts hiX8 hown hg.1 hP 0 rfl rfl 4 (by decide) (hts (.fieldLink RX8 17 "AsARuleModel" "many" "[I") (by decide +kernel)) (fun _ h9 => h9) rfl dX8_findEnd_7 ?_
      refine lv_iconst (v := (1 : Int32)) hx hb dX8_findEnd_10 (by decide) ?_
      refine va_iald hx hb hg.1 hP 2 1 rfl rfl (ib_in (gd_t hf)) dX8_findEnd_11 ?_
      have hf := gd_x hf
      refine lv_ishl hx hb dX8_findEnd_12 ?_
      refine lv_icmp_ge (tgt := 40) hx hb dX8_findEnd_13 (by decide) (fun c2 => ?_) (fun c2 => ?_)
      · have hf := it_t c2 hf
        exact hw_40 v2 hf _ _ hP hD hS _ (lv_sub hl [1, 2] rfl)
      · have hf := it_f c2 hf
        refine lv_aload_n hx hb dX8_findEnd_16 rfl (lv_at hl 0 rfl) ?_
        refine lv_iload_n hx hb dX8_findEnd_17 rfl (lv_at hl 3 rfl) ?_
        obtain ⟨o3, ho3, hf⟩ := bd_e hf
        refine af_i (wr := []) (va_runV (As := [.int v3]) (rest := []) ⟨hx, hb, hml, hown, hts⟩ (c_X8_isEnd l G h_t h_t_text h_t_said h_t_many h_t_grades h_t_doubts h_t_vals h_t_waits h_t_fresh h_t_freshMany H.size t_trace t_typed t_when t_then t_at t_token t_start t_valMany t_waitMany t_open t_saying t_quarrel t_said t_many v3 o3 ho3) (cwV 1 hts gX8_findEnd_X8_isEnd rfl rfl rfl (by decide +kernel) ⟨Nat.le_of_ble_eq_true rfl, Nat.le_of_ble_eq_true rfl⟩) (pcA_preV hg hc hP hD hS hA [0, 1, 2] rfl (by decide) (q0 := 0) (ci := 8) rfl rfl rfl) rfl rfl hl.1 rfl (lv_room (Nat.le_of_ble_eq_true rfl)) dX8_findEnd_18 ⟨Nat.zero_le _, Nat.zero_le _⟩) hP hD hS hA [0, 1, 2] [] rfl rfl (by decide) (by decide) (fun _ H locs _ hP hD hS => ?_)
        have hP : va_P G.1 vwCl [(h_t, .inr (8, [.long t_trace, .ref h_t_text, .int t_typed, .ref h_t_said, .ref h_t_many, .long t_when, .long t_then, .ref h_t_grades, .ref h_t_doubts, .int t_at, .int t_token, .int t_start, .ref h_t_vals, .ref h_t_waits, .int t_valMany, .int t_waitMany, .int t_open, .long t_saying, .ref h_t_fresh, .ref h_t_freshMany, .int t_quarrel])), (h_t_said, .inl (G.2.1.2.2, 45, .inr (.inl t_said))), (h_t_many, .inl (G.2.1.2.1, 5, .inl t_many))] H := hP
        have hD : va_D A [(h_t, .inr (8, [.long t_trace, .ref h_t_text, .int t_typed, .ref h_t_said, .ref h_t_many, .long t_when, .long t_then, .ref h_t_grades, .ref h_t_doubts, .int t_at, .int t_token, .int t_start, .ref h_t_vals, .ref h_t_waits, .int t_valMany, .int t_waitMany, .int t_open, .long t_saying, .ref h_t_fresh, .ref h_t_freshMany, .int t_quarrel])), (h_t_said, .inl (G.2.1.2.2, 45, .inr (.inl t_said))), (h_t_many, .inl (G.2.1.2.1, 5, .inl t_many))] := hD
        refine lv_if_eq (tgt := 34) hx hb dX8_findEnd_21 (by decide) (fun c4 => ?_) (fun c4 => ?_)
        · have hf := it_t c4 hf
          obtain ⟨x5, ex5⟩ : ∃ y : Int32, y = (v3 + (1 : Int32)) := ⟨_, rfl⟩
          have hf := lt_n hf x5 ex5
          refine lv_iinc (v := x5) (lv' := [(3, .int x5), (0, .ref h_t), (1, .int a1), (2, .int v2)]) hx hb dX8_findEnd_34 hl (k := 3) rfl (by rw [ex5]; rfl) (by decide) rfl (fun ls hl => ?_)
          refine lv_goto (tgt := 4) hx hb dX8_findEnd_37 (by decide) ?_
          exact ih v2 x5 hf _ _ hP hD hS _ (lv_sub hl [1, 2, 3, 0] rfl)
        · have hf := it_f c4 hf
          refine lv_iload_n hx hb dX8_findEnd_24 rfl (lv_at hl 2 rfl) ?_
          refine lv_iload_n hx hb dX8_findEnd_25 rfl (lv_at hl 1 rfl) ?_
          refine lv_icmp_ne (tgt := 31) hx hb dX8_findEnd_26 (by decide) (fun c6 => ?_) (fun c6 => ?_)
          · have hf := it_f c6 hf
            obtain ⟨x7, ex7⟩ : ∃ y : Int32, y = (v2 + (1 : Int32)) := ⟨_, rfl⟩
            have hf := lt_n hf x7 ex7
            refine lv_iinc (v := x7) (lv' := [(2, .int x7), (0, .ref h_t), (1, .int a1), (3, .int v3)]) hx hb dX8_findEnd_31 hl (k := 2) rfl (by rw [ex7]; rfl) (by decide) rfl (fun ls hl => ?_)
            obtain ⟨x8, ex8⟩ : ∃ y : Int32, y = (v3 + (1 : Int32)) := ⟨_, rfl⟩
            have hf := lt_n hf x8 ex8
            refine lv_iinc (v := x8) (lv' := [(3, .int x8), (2, .int x7), (0, .ref h_t), (1, .int a1)]) hx hb dX8_findEnd_34 hl (k := 3) rfl (by rw [ex8]; rfl) (by decide) rfl (fun ls hl => ?_)
            refine lv_goto (tgt := 4) hx hb dX8_findEnd_37 (by decide) ?_
            exact ih x7 x8 hf _ _ hP hD hS _ (lv_sub hl [2, 3, 1, 0] rfl)
          · have hf := it_t c6 hf
            refine lv_iload_n hx hb dX8_findEnd_29 rfl (lv_at hl 3 rfl) ?_
            rw [← Option.some.inj hf]
            exact rt_i (u := ()) hx hb hr hlocks hP hD trivial hS dX8_findEnd_30
  unfold f_X8_findEnd at hf
  refine en (fun H locs hP hD hS => ?_) hP hD
  refine lv_iconst (v := (0 : Int32)) hx hb dX8_findEnd_0 (by decide) ?_
  refine lv_istore_n (lv' := [(2, .int (0 : Int32)), (0, .ref h_t), (1, .int a1)]) hx hb dX8_findEnd_1 rfl hl (by decide) rfl (fun ls hl => ?_)
  refine lv_iconst (v := (0 : Int32)) hx hb dX8_findEnd_2 (by decide) ?_
  refine lv_istore_n (lv' := [(3, .int (0 : Int32)), (2, .int (0 : Int32)), (0, .ref h_t), (1, .int a1)]) hx hb dX8_findEnd_3 rfl hl (by decide) rfl (fun ls hl => ?_)
  exact hw_4 fu (0 : Int32) (0 : Int32) hf _ _ hP hD hS _ (lv_sub hl [2, 3, 1, 0] rfl)
-- method X8_ends
def f_X8_ends (t_said : Nat → Int64) (t_many : Nat → Int32) (a1 : Int32) : Option (Int32) :=
  if (-1 : Int32) ≤ a1 then bd (f_X8_findEnd t_said t_many a1) (fun o2 => some (o2)) else some ((-1 : Int32))
set_option maxHeartbeats 4000000 in
set_option maxRecDepth 100000 in
theorem c_X8_ends (l : Launch) (G : GG) (h_t h_t_text h_t_said h_t_many h_t_grades h_t_doubts h_t_vals h_t_waits h_t_fresh h_t_freshMany : Nat) (sz : Nat) (t_trace : Int64) (t_typed : Int32) (t_when : Int64) (t_then : Int64) (t_at : Int32) (t_token : Int32) (t_start : Int32) (t_valMany : Int32) (t_waitMany : Int32) (t_open : Int32) (t_saying : Int64) (t_quarrel : Int32) (t_said : Nat → Int64) (t_many : Nat → Int32) (a1 : Int32) (o : Int32) (ho : f_X8_ends t_said t_many a1 = some o)  : Met l yX8_ends wsX8_ends ({ frames := 6, cells := 0, slots := 0, locals := 138 } : Room) (pcA G [.ref h_t, .int a1] [(h_t, .inr (8, [.long t_trace, .ref h_t_text, .int t_typed, .ref h_t_said, .ref h_t_many, .long t_when, .long t_then, .ref h_t_grades, .ref h_t_doubts, .int t_at, .int t_token, .int t_start, .ref h_t_vals, .ref h_t_waits, .int t_valMany, .int t_waitMany, .int t_open, .long t_saying, .ref h_t_fresh, .ref h_t_freshMany, .int t_quarrel])), (h_t_said, .inl (G.2.1.2.2, 45, .inr (.inl t_said))), (h_t_many, .inl (G.2.1.2.1, 5, .inl t_many))] sz) (qcI Unit G o (fun _ => True) (fun _ => [(h_t, .inr (8, [.long t_trace, .ref h_t_text, .int t_typed, .ref h_t_said, .ref h_t_many, .long t_when, .long t_then, .ref h_t_grades, .ref h_t_doubts, .int t_at, .int t_token, .int t_start, .ref h_t_vals, .ref h_t_waits, .int t_valMany, .int t_waitMany, .int t_open, .long t_saying, .ref h_t_fresh, .ref h_t_freshMany, .int t_quarrel])), (h_t_said, .inl (G.2.1.2.2, 45, .inr (.inl t_said))), (h_t_many, .inl (G.2.1.2.1, 5, .inl t_many))]) (va_A [(h_t, .inr (8, [.long t_trace, .ref h_t_text, .int t_typed, .ref h_t_said, .ref h_t_many, .long t_when, .long t_then, .ref h_t_grades, .ref h_t_doubts, .int t_at, .int t_token, .int t_start, .ref h_t_vals, .ref h_t_waits, .int t_valMany, .int t_waitMany, .int t_open, .long t_saying, .ref h_t_fresh, .ref h_t_freshMany, .int t_quarrel])), (h_t_said, .inl (G.2.1.2.2, 45, .inr (.inl t_said))), (h_t_many, .inl (G.2.1.2.1, 5, .inl t_many))] sz)) 0 0 (va_A [(h_t, .inr (8, [.long t_trace, .ref h_t_text, .int t_typed, .ref h_t_said, .ref h_t_many, .long t_when, .long t_then, .ref h_t_grades, .ref h_t_doubts, .int t_at, .int t_token, .int t_start, .ref h_t_vals, .ref h_t_waits, .int t_valMany, .int t_waitMany, .int t_open, .long t_saying, .ref h_t_fresh, .ref h_t_freshMany, .int t_quarrel])), (h_t_said, .inl (G.2.1.2.2, 45, .inr (.inl t_said))), (h_t_many, .inl (G.2.1.2.1, 5, .inl t_many))] sz) := by
  refine Met.ofW (cc := cX8_ends) (maxL := 2) (ret := (some .int)) (by decide) rfl ?_
  intro p e s m args below meth c s₁ B hml hv
  obtain ⟨rfl, hsz, hP, hg, hD0, hc⟩ := hv
  have hx := B.exec
  have hb := B.bytes
  have hr := B.returns
  have hts := atoms_spec (ws := wsX8_ends) B.pre
  have hown : s.vm.findClass RX8 = some m.cls := findClass_of_methodNamed B.named
  have hlocks := B.notSynchronized
  subst hsz
  have hD := hD0.self (sz := s.heap.size)
  generalize hAe : va_A [(h_t, .inr (8, [.long t_trace, .ref h_t_text, .int t_typed, .ref h_t_said, .ref h_t_many, .long t_when, .long t_then, .ref h_t_grades, .ref h_t_doubts, .int t_at, .int t_token, .int t_start, .ref h_t_vals, .ref h_t_waits, .int t_valMany, .int t_waitMany, .int t_open, .long t_saying, .ref h_t_fresh, .ref h_t_freshMany, .int t_quarrel])), (h_t_said, .inl (G.2.1.2.2, 45, .inr (.inl t_said))), (h_t_many, .inl (G.2.1.2.1, 5, .inl t_many))] s.heap.size = A at hD hc ⊢
  have hA : ∀ q : Nat, s.heap.size ≤ q → A q := fun q h => by rw [← hAe]; exact Or.inr h
  have hl := lv_entry ([.ref h_t, .int a1]) (n := 2) (Nat.le_of_ble_eq_true rfl)
  rw [lg_entry_eq]
  generalize (lg_sl ([.ref h_t, .int a1]) ++ List.replicate (2 - (lg_sl ([.ref h_t, .int a1])).length) Slot.unset).toArray = ls at hl ⊢
  have hl : lv_has ls 2 [(0, .ref h_t), (1, .int a1)] := hl
  have hf := ho
  unfold f_X8_ends at hf
  refine en (fun H locs hP hD hS => ?_) hP hD
  refine lv_iload_n hx hb dX8_ends_0 rfl (lv_at hl 1 rfl) ?_
  refine lv_iconst (v := (-1 : Int32)) hx hb dX8_ends_1 (by decide) ?_
  refine lv_icmp_ge (tgt := 9) hx hb dX8_ends_2 (by decide) (fun c1 => ?_) (fun c1 => ?_)
  · have hf := it_t c1 hf
    refine lv_aload_n hx hb dX8_ends_9 rfl (lv_at hl 0 rfl) ?_
    refine lv_iload_n hx hb dX8_ends_10 rfl (lv_at hl 1 rfl) ?_
    obtain ⟨o2, ho2, hf⟩ := bd_e hf
    refine af_i (wr := []) (va_runV (As := [.int a1]) (rest := []) ⟨hx, hb, hml, hown, hts⟩ (c_X8_findEnd l G h_t h_t_text h_t_said h_t_many h_t_grades h_t_doubts h_t_vals h_t_waits h_t_fresh h_t_freshMany H.size t_trace t_typed t_when t_then t_at t_token t_start t_valMany t_waitMany t_open t_saying t_quarrel t_said t_many a1 o2 ho2) (cwV 1 hts gX8_ends_X8_findEnd rfl rfl rfl (by decide +kernel) ⟨Nat.le_of_ble_eq_true rfl, Nat.le_of_ble_eq_true rfl⟩) (pcA_preV hg hc hP hD hS hA [0, 1, 2] rfl (by decide) (q0 := 0) (ci := 8) rfl rfl rfl) rfl rfl hl.1 rfl (lv_room (Nat.le_of_ble_eq_true rfl)) dX8_ends_11 ⟨Nat.zero_le _, Nat.zero_le _⟩) hP hD hS hA [0, 1, 2] [] rfl rfl (by decide) (by decide) (fun _ H locs _ hP hD hS => ?_)
    have hP : va_P G.1 vwCl [(h_t, .inr (8, [.long t_trace, .ref h_t_text, .int t_typed, .ref h_t_said, .ref h_t_many, .long t_when, .long t_then, .ref h_t_grades, .ref h_t_doubts, .int t_at, .int t_token, .int t_start, .ref h_t_vals, .ref h_t_waits, .int t_valMany, .int t_waitMany, .int t_open, .long t_saying, .ref h_t_fresh, .ref h_t_freshMany, .int t_quarrel])), (h_t_said, .inl (G.2.1.2.2, 45, .inr (.inl t_said))), (h_t_many, .inl (G.2.1.2.1, 5, .inl t_many))] H := hP
    have hD : va_D A [(h_t, .inr (8, [.long t_trace, .ref h_t_text, .int t_typed, .ref h_t_said, .ref h_t_many, .long t_when, .long t_then, .ref h_t_grades, .ref h_t_doubts, .int t_at, .int t_token, .int t_start, .ref h_t_vals, .ref h_t_waits, .int t_valMany, .int t_waitMany, .int t_open, .long t_saying, .ref h_t_fresh, .ref h_t_freshMany, .int t_quarrel])), (h_t_said, .inl (G.2.1.2.2, 45, .inr (.inl t_said))), (h_t_many, .inl (G.2.1.2.1, 5, .inl t_many))] := hD
    rw [← Option.some.inj hf]
    exact rt_i (u := ()) hx hb hr hlocks hP hD trivial hS dX8_ends_14
  · have hf := it_f c1 hf
    refine lv_iconst (v := (-1 : Int32)) hx hb dX8_ends_5 (by decide) ?_
    refine lv_goto (tgt := 14) hx hb dX8_ends_6 (by decide) ?_
    rw [← Option.some.inj hf]
    exact rt_i (u := ()) hx hb hr hlocks hP hD trivial hS dX8_ends_14
-- method X8_leaves
def jn_X8_leaves_13 (t_said : Nat → Int64) (t_many : Nat → Int32) (a1 : Int32) (s0 : Int32) : Option (Int64) :=
  if (0 : Int32) ≤ s0 then bd (f_X8_leftBy t_said t_many s0) (fun o2 => some (o2)) else some ((0 : Int64))
def f_X8_leaves (t_said : Nat → Int64) (t_many : Nat → Int32) (a1 : Int32) : Option (Int64) :=
  if (0 : Int32) ≤ a1 then bd (f_X8_findEnd t_said t_many a1) (fun o4 => jn_X8_leaves_13 t_said t_many a1 o4) else jn_X8_leaves_13 t_said t_many a1 (-1 : Int32)
set_option maxHeartbeats 4000000 in
set_option maxRecDepth 100000 in
theorem c_X8_leaves (l : Launch) (G : GG) (h_t h_t_text h_t_said h_t_many h_t_grades h_t_doubts h_t_vals h_t_waits h_t_fresh h_t_freshMany : Nat) (sz : Nat) (t_trace : Int64) (t_typed : Int32) (t_when : Int64) (t_then : Int64) (t_at : Int32) (t_token : Int32) (t_start : Int32) (t_valMany : Int32) (t_waitMany : Int32) (t_open : Int32) (t_saying : Int64) (t_quarrel : Int32) (t_said : Nat → Int64) (t_many : Nat → Int32) (a1 : Int32) (o : Int64) (ho : f_X8_leaves t_said t_many a1 = some o)  : Met l yX8_leaves wsX8_leaves ({ frames := 6, cells := 0, slots := 0, locals := 138 } : Room) (pcA G [.ref h_t, .int a1] [(h_t, .inr (8, [.long t_trace, .ref h_t_text, .int t_typed, .ref h_t_said, .ref h_t_many, .long t_when, .long t_then, .ref h_t_grades, .ref h_t_doubts, .int t_at, .int t_token, .int t_start, .ref h_t_vals, .ref h_t_waits, .int t_valMany, .int t_waitMany, .int t_open, .long t_saying, .ref h_t_fresh, .ref h_t_freshMany, .int t_quarrel])), (h_t_said, .inl (G.2.1.2.2, 45, .inr (.inl t_said))), (h_t_many, .inl (G.2.1.2.1, 5, .inl t_many))] sz) (qcL Unit G o (fun _ => True) (fun _ => [(h_t, .inr (8, [.long t_trace, .ref h_t_text, .int t_typed, .ref h_t_said, .ref h_t_many, .long t_when, .long t_then, .ref h_t_grades, .ref h_t_doubts, .int t_at, .int t_token, .int t_start, .ref h_t_vals, .ref h_t_waits, .int t_valMany, .int t_waitMany, .int t_open, .long t_saying, .ref h_t_fresh, .ref h_t_freshMany, .int t_quarrel])), (h_t_said, .inl (G.2.1.2.2, 45, .inr (.inl t_said))), (h_t_many, .inl (G.2.1.2.1, 5, .inl t_many))]) (va_A [(h_t, .inr (8, [.long t_trace, .ref h_t_text, .int t_typed, .ref h_t_said, .ref h_t_many, .long t_when, .long t_then, .ref h_t_grades, .ref h_t_doubts, .int t_at, .int t_token, .int t_start, .ref h_t_vals, .ref h_t_waits, .int t_valMany, .int t_waitMany, .int t_open, .long t_saying, .ref h_t_fresh, .ref h_t_freshMany, .int t_quarrel])), (h_t_said, .inl (G.2.1.2.2, 45, .inr (.inl t_said))), (h_t_many, .inl (G.2.1.2.1, 5, .inl t_many))] sz)) 0 0 (va_A [(h_t, .inr (8, [.long t_trace, .ref h_t_text, .int t_typed, .ref h_t_said, .ref h_t_many, .long t_when, .long t_then, .ref h_t_grades, .ref h_t_doubts, .int t_at, .int t_token, .int t_start, .ref h_t_vals, .ref h_t_waits, .int t_valMany, .int t_waitMany, .int t_open, .long t_saying, .ref h_t_fresh, .ref h_t_freshMany, .int t_quarrel])), (h_t_said, .inl (G.2.1.2.2, 45, .inr (.inl t_said))), (h_t_many, .inl (G.2.1.2.1, 5, .inl t_many))] sz) := by
  refine Met.ofW (cc := cX8_leaves) (maxL := 3) (ret := (some .long)) (by decide) rfl ?_
  intro p e s m args below meth c s₁ B hml hv
  obtain ⟨rfl, hsz, hP, hg, hD0, hc⟩ := hv
  have hx := B.exec
  have hb := B.bytes
  have hr := B.returns
  have hts := atoms_spec (ws := wsX8_leaves) B.pre
  have hown : s.vm.findClass RX8 = some m.cls := findClass_of_methodNamed B.named
  have hlocks := B.notSynchronized
  subst hsz
  have hD := hD0.self (sz := s.heap.size)
  generalize hAe : va_A [(h_t, .inr (8, [.long t_trace, .ref h_t_text, .int t_typed, .ref h_t_said, .ref h_t_many, .long t_when, .long t_then, .ref h_t_grades, .ref h_t_doubts, .int t_at, .int t_token, .int t_start, .ref h_t_vals, .ref h_t_waits, .int t_valMany, .int t_waitMany, .int t_open, .long t_saying, .ref h_t_fresh, .ref h_t_freshMany, .int t_quarrel])), (h_t_said, .inl (G.2.1.2.2, 45, .inr (.inl t_said))), (h_t_many, .inl (G.2.1.2.1, 5, .inl t_many))] s.heap.size = A at hD hc ⊢
  have hA : ∀ q : Nat, s.heap.size ≤ q → A q := fun q h => by rw [← hAe]; exact Or.inr h
  have hl := lv_entry ([.ref h_t, .int a1]) (n := 3) (Nat.le_of_ble_eq_true rfl)
  rw [lg_entry_eq]
  generalize (lg_sl ([.ref h_t, .int a1]) ++ List.replicate (3 - (lg_sl ([.ref h_t, .int a1])).length) Slot.unset).toArray = ls at hl ⊢
  have hl : lv_has ls 3 [(0, .ref h_t), (1, .int a1)] := hl
  have hf := ho
  have hw_13 : ∀ (s0 : Int32), jn_X8_leaves_13 t_said t_many a1 s0 = some o → ∀ (H : Heap) (locs : List Loc), va_P G.1 vwCl [(h_t, .inr (8, [.long t_trace, .ref h_t_text, .int t_typed, .ref h_t_said, .ref h_t_many, .long t_when, .long t_then, .ref h_t_grades, .ref h_t_doubts, .int t_at, .int t_token, .int t_start, .ref h_t_vals, .ref h_t_waits, .int t_valMany, .int t_waitMany, .int t_open, .long t_saying, .ref h_t_fresh, .ref h_t_freshMany, .int t_quarrel])), (h_t_said, .inl (G.2.1.2.2, 45, .inr (.inl t_said))), (h_t_many, .inl (G.2.1.2.1, 5, .inl t_many))] H → va_D A [(h_t, .inr (8, [.long t_trace, .ref h_t_text, .int t_typed, .ref h_t_said, .ref h_t_many, .long t_when, .long t_then, .ref h_t_grades, .ref h_t_doubts, .int t_at, .int t_token, .int t_start, .ref h_t_vals, .ref h_t_waits, .int t_valMany, .int t_waitMany, .int t_open, .long t_saying, .ref h_t_fresh, .ref h_t_freshMany, .int t_quarrel])), (h_t_said, .inl (G.2.1.2.2, 45, .inr (.inl t_said))), (h_t_many, .inl (G.2.1.2.1, 5, .inl t_many))] → va_S A s.heap H locs → ∀ (ls : Array Slot), lv_has ls 3 [(0, .ref h_t)] → W p l e (headSpec wsX8_leaves ({ frames := 6, cells := 0, slots := 0, locals := 138 } : Room)).room s m ([.ref h_t, .int a1] : List Value).toArray below meth c H locs 0 0 (MQ below (qcL Unit G o (fun _ => True) (fun _ => [(h_t, .inr (8, [.long t_trace, .ref h_t_text, .int t_typed, .ref h_t_said, .ref h_t_many, .long t_when, .long t_then, .ref h_t_grades, .ref h_t_doubts, .int t_at, .int t_token, .int t_start, .ref h_t_vals, .ref h_t_waits, .int t_valMany, .int t_waitMany, .int t_open, .long t_saying, .ref h_t_fresh, .ref h_t_freshMany, .int t_quarrel])), (h_t_said, .inl (G.2.1.2.2, 45, .inr (.inl t_said))), (h_t_many, .inl (G.2.1.2.1, 5, .inl t_many))]) A) ([.ref h_t, .int a1] : List Value).toArray s 0 0 A) (F0 m 13 ls [.int s0]) := by
    intro s0 hf H locs hP hD hS ls hl
    unfold jn_X8_leaves_13 at hf
    refine lv_istore_n (lv' := [(2, .int s0), (0, .ref h_t)]) hx hb dX8_leaves_13 rfl hl (by decide) rfl (fun ls hl => ?_)
    refine lv_iload_n hx hb dX8_leaves_14 rfl (lv_at hl 0 rfl) ?_
    refine lv_if_ge (tgt := 22) hx hb dX8_leaves_15 (by decide) (fun c1 => ?_) (fun c1 => ?_)
    · have hf := it_t c1 hf
      refine lv_aload_n hx hb dX8_leaves_22 rfl (lv_at hl 1 rfl) ?_
      refine lv_iload_n hx hb dX8_leaves_23 rfl (lv_at hl 0 rfl) ?_
      obtain ⟨o2, ho2, hf⟩ := bd_e hf
      refine af_l (wr := []) (va_runV (As := [.int s0]) (rest := []) ⟨hx, hb, hml, hown, hts⟩ (c_X8_leftBy l G h_t h_t_text h_t_said h_t_many h_t_grades h_t_doubts h_t_vals h_t_waits h_t_fresh h_t_freshMany H.size t_trace t_typed t_when t_then t_at t_token t_start t_valMany t_waitMany t_open t_saying t_quarrel t_said t_many s0 o2 ho2) (cwV 1 hts gX8_leaves_X8_leftBy rfl rfl rfl (by decide +kernel) ⟨Nat.le_of_ble_eq_true rfl, Nat.le_of_ble_eq_true rfl⟩) (pcA_preV hg hc hP hD hS hA [0, 1, 2] rfl (by decide) (q0 := 0) (ci := 8) rfl rfl rfl) rfl rfl hl.1 rfl (lv_room (Nat.le_of_ble_eq_true rfl)) dX8_leaves_24 ⟨Nat.zero_le _, Nat.zero_le _⟩) hP hD hS hA [0, 1, 2] [] rfl rfl (by decide) (by decide) (fun _ H locs _ hP hD hS => ?_)
      have hP : va_P G.1 vwCl [(h_t, .inr (8, [.long t_trace, .ref h_t_text, .int t_typed, .ref h_t_said, .ref h_t_many, .long t_when, .long t_then, .ref h_t_grades, .ref h_t_doubts, .int t_at, .int t_token, .int t_start, .ref h_t_vals, .ref h_t_waits, .int t_valMany, .int t_waitMany, .int t_open, .long t_saying, .ref h_t_fresh, .ref h_t_freshMany, .int t_quarrel])), (h_t_said, .inl (G.2.1.2.2, 45, .inr (.inl t_said))), (h_t_many, .inl (G.2.1.2.1, 5, .inl t_many))] H := hP
      have hD : va_D A [(h_t, .inr (8, [.long t_trace, .ref h_t_text, .int t_typed, .ref h_t_said, .ref h_t_many, .long t_when, .long t_then, .ref h_t_grades, .ref h_t_doubts, .int t_at, .int t_token, .int t_start, .ref h_t_vals, .ref h_t_waits, .int t_valMany, .int t_waitMany, .int t_open, .long t_saying, .ref h_t_fresh, .ref h_t_freshMany, .int t_quarrel])), (h_t_said, .inl (G.2.1.2.2, 45, .inr (.inl t_said))), (h_t_many, .inl (G.2.1.2.1, 5, .inl t_many))] := hD
      rw [← Option.some.inj hf]
      exact rt_l (u := ()) hx hb hr hlocks hP hD trivial hS dX8_leaves_27
    · have hf := it_f c1 hf
      refine lv_lconst (v := (0 : Int64)) hx hb dX8_leaves_18 (by decide) ?_
      refine lv_goto (tgt := 27) hx hb dX8_leaves_19 (by decide) ?_
      rw [← Option.some.inj hf]
      exact rt_l (u := ()) hx hb hr hlocks hP hD trivial hS dX8_leaves_27
  unfold f_X8_leaves at hf
  refine en (fun H locs hP hD hS => ?_) hP hD
  refine lv_iload_n hx hb dX8_leaves_0 rfl (lv_at hl 1 rfl) ?_
  refine lv_if_ge (tgt := 8) hx hb dX8_leaves_1 (by decide) (fun c3 => ?_) (fun c3 => ?_)
  · have hf := it_t c3 hf
    refine lv_aload_n hx hb dX8_leaves_8 rfl (lv_at hl 0 rfl) ?_
    refine lv_iload_n hx hb dX8_leaves_9 rfl (lv_at hl 1 rfl) ?_
    obtain ⟨o4, ho4, hf⟩ := bd_e hf
    refine af_i (wr := []) (va_runV (As := [.int a1]) (rest := []) ⟨hx, hb, hml, hown, hts⟩ (c_X8_findEnd l G h_t h_t_text h_t_said h_t_many h_t_grades h_t_doubts h_t_vals h_t_waits h_t_fresh h_t_freshMany H.size t_trace t_typed t_when t_then t_at t_token t_start t_valMany t_waitMany t_open t_saying t_quarrel t_said t_many a1 o4 ho4) (cwV 1 hts gX8_leaves_X8_findEnd rfl rfl rfl (by decide +kernel) ⟨Nat.le_of_ble_eq_true rfl, Nat.le_of_ble_eq_true rfl⟩) (pcA_preV hg hc hP hD hS hA [0, 1, 2] rfl (by decide) (q0 := 0) (ci := 8) rfl rfl rfl) rfl rfl hl.1 rfl (lv_room (Nat.le_of_ble_eq_true rfl)) dX8_leaves_10 ⟨Nat.zero_le _, Nat.zero_le _⟩) hP hD hS hA [0, 1, 2] [] rfl rfl (by decide) (by decide) (fun _ H locs _ hP hD hS => ?_)
    have hP : va_P G.1 vwCl [(h_t, .inr (8, [.long t_trace, .ref h_t_text, .int t_typed, .ref h_t_said, .ref h_t_many, .long t_when, .long t_then, .ref h_t_grades, .ref h_t_doubts, .int t_at, .int t_token, .int t_start, .ref h_t_vals, .ref h_t_waits, .int t_valMany, .int t_waitMany, .int t_open, .long t_saying, .ref h_t_fresh, .ref h_t_freshMany, .int t_quarrel])), (h_t_said, .inl (G.2.1.2.2, 45, .inr (.inl t_said))), (h_t_many, .inl (G.2.1.2.1, 5, .inl t_many))] H := hP
    have hD : va_D A [(h_t, .inr (8, [.long t_trace, .ref h_t_text, .int t_typed, .ref h_t_said, .ref h_t_many, .long t_when, .long t_then, .ref h_t_grades, .ref h_t_doubts, .int t_at, .int t_token, .int t_start, .ref h_t_vals, .ref h_t_waits, .int t_valMany, .int t_waitMany, .int t_open, .long t_saying, .ref h_t_fresh, .ref h_t_freshMany, .int t_quarrel])), (h_t_said, .inl (G.2.1.2.2, 45, .inr (.inl t_said))), (h_t_many, .inl (G.2.1.2.1, 5, .inl t_many))] := hD
    exact hw_13 o4 hf _ _ hP hD hS _ (lv_sub hl [0] rfl)
  · have hf := it_f c3 hf
    refine lv_iconst (v := (-1 : Int32)) hx hb dX8_leaves_4 (by decide) ?_
    refine lv_goto (tgt := 13) hx hb dX8_leaves_5 (by decide) ?_
    exact hw_13 (-1 : Int32) hf _ _ hP hD hS _ (lv_sub hl [0] rfl)
-- method X8_held
def lp_X8_held_4 (t_then : Int64) (t_said : Nat → Int64) (t_many : Nat → Int32) : Nat → Int32 → Int32 → Option (Int32)
  | 0, _, _ => none
  | n + 1, v1, v2 => gd (ib (1 : Int32) 5) (if ((1 : Int32) <<< ((t_many (1 : Int32).toNatClampNeg) &&& 31)) ≤ v2 then some (v1) else bd (f_X8_isEnd t_said t_many v2) (fun o2 => if o2 = (0 : Int32) then lt (v1 + (0 : Int32)) (fun x4 => lt (v2 + (1 : Int32)) (fun x5 => lp_X8_held_4 t_then t_said t_many n x4 x5)) else bd (f_X8_leftBy t_said t_many v2) (fun o6 => if (o6 &&& (t_then ^^^ (-1 : Int64))) = (0 : Int64) then lt (v1 + (1 : Int32)) (fun x10 => lt (v2 + (1 : Int32)) (fun x11 => lp_X8_held_4 t_then t_said t_many n x10 x11)) else lt (v1 + (0 : Int32)) (fun x8 => lt (v2 + (1 : Int32)) (fun x9 => lp_X8_held_4 t_then t_said t_many n x8 x9)))))
def f_X8_held (t_then : Int64) (t_said : Nat → Int64) (t_many : Nat → Int32) : Option (Int32) :=
  lp_X8_held_4 t_then t_said t_many fu (0 : Int32) (0 : Int32)
set_option maxHeartbeats 4000000 in
set_option maxRecDepth 100000 in
theorem c_X8_held (l : Launch) (G : GG) (h_t h_t_text h_t_said h_t_many h_t_grades h_t_doubts h_t_vals h_t_waits h_t_fresh h_t_freshMany : Nat) (sz : Nat) (t_trace : Int64) (t_typed : Int32) (t_when : Int64) (t_then : Int64) (t_at : Int32) (t_token : Int32) (t_start : Int32) (t_valMany : Int32) (t_waitMany : Int32) (t_open : Int32) (t_saying : Int64) (t_quarrel : Int32) (t_said : Nat → Int64) (t_many : Nat → Int32)  (o : Int32) (ho : f_X8_held t_then t_said t_many = some o)  : Met l yX8_held wsX8_held ({ frames := 5, cells := 0, slots := 0, locals := 115 } : Room) (pcA G [.ref h_t] [(h_t, .inr (8, [.long t_trace, .ref h_t_text, .int t_typed, .ref h_t_said, .ref h_t_many, .long t_when, .long t_then, .ref h_t_grades, .ref h_t_doubts, .int t_at, .int t_token, .int t_start, .ref h_t_vals, .ref h_t_waits, .int t_valMany, .int t_waitMany, .int t_open, .long t_saying, .ref h_t_fresh, .ref h_t_freshMany, .int t_quarrel])), (h_t_said, .inl (G.2.1.2.2, 45, .inr (.inl t_said))), (h_t_many, .inl (G.2.1.2.1, 5, .inl t_many))] sz) (qcI Unit G o (fun _ => True) (fun _ => [(h_t, .inr (8, [.long t_trace, .ref h_t_text, .int t_typed, .ref h_t_said, .ref h_t_many, .long t_when, .long t_then, .ref h_t_grades, .ref h_t_doubts, .int t_at, .int t_token, .int t_start, .ref h_t_vals, .ref h_t_waits, .int t_valMany, .int t_waitMany, .int t_open, .long t_saying, .ref h_t_fresh, .ref h_t_freshMany, .int t_quarrel])), (h_t_said, .inl (G.2.1.2.2, 45, .inr (.inl t_said))), (h_t_many, .inl (G.2.1.2.1, 5, .inl t_many))]) (va_A [(h_t, .inr (8, [.long t_trace, .ref h_t_text, .int t_typed, .ref h_t_said, .ref h_t_many, .long t_when, .long t_then, .ref h_t_grades, .ref h_t_doubts, .int t_at, .int t_token, .int t_start, .ref h_t_vals, .ref h_t_waits, .int t_valMany, .int t_waitMany, .int t_open, .long t_saying, .ref h_t_fresh, .ref h_t_freshMany, .int t_quarrel])), (h_t_said, .inl (G.2.1.2.2, 45, .inr (.inl t_said))), (h_t_many, .inl (G.2.1.2.1, 5, .inl t_many))] sz)) 0 0 (va_A [(h_t, .inr (8, [.long t_trace, .ref h_t_text, .int t_typed, .ref h_t_said, .ref h_t_many, .long t_when, .long t_then, .ref h_t_grades, .ref h_t_doubts, .int t_at, .int t_token, .int t_start, .ref h_t_vals, .ref h_t_waits, .int t_valMany, .int t_waitMany, .int t_open, .long t_saying, .ref h_t_fresh, .ref h_t_freshMany, .int t_quarrel])), (h_t_said, .inl (G.2.1.2.2, 45, .inr (.inl t_said))), (h_t_many, .inl (G.2.1.2.1, 5, .inl t_many))] sz) := by
  refine Met.ofW (cc := cX8_held) (maxL := 3) (ret := (some .int)) (by decide) rfl ?_
  intro p e s m args below meth c s₁ B hml hv
  obtain ⟨rfl, hsz, hP, hg, hD0, hc⟩ := hv
  have hx := B.exec
  have hb := B.bytes
  have hr := B.returns
  have hts := atoms_spec (ws := wsX8_held) B.pre
  have hown : s.vm.findClass RX8 = some m.cls := findClass_of_methodNamed B.named
  have hlocks := B.notSynchronized
  subst hsz
  have hD := hD0.self (sz := s.heap.size)
  generalize hAe : va_A [(h_t, .inr (8, [.long t_trace, .ref h_t_text, .int t_typed, .ref h_t_said, .ref h_t_many, .long t_when, .long t_then, .ref h_t_grades, .ref h_t_doubts, .int t_at, .int t_token, .int t_start, .ref h_t_vals, .ref h_t_waits, .int t_valMany, .int t_waitMany, .int t_open, .long t_saying, .ref h_t_fresh, .ref h_t_freshMany, .int t_quarrel])), (h_t_said, .inl (G.2.1.2.2, 45, .inr (.inl t_said))), (h_t_many, .inl (G.2.1.2.1, 5, .inl t_many))] s.heap.size = A at hD hc ⊢
  have hA : ∀ q : Nat, s.heap.size ≤ q → A q := fun q h => by rw [← hAe]; exact Or.inr h
  have hiX8 : ∀ w ∈ wsX80, w ∈ wsX8_held := by decide +kernel
  have hl := lv_entry ([.ref h_t]) (n := 3) (Nat.le_of_ble_eq_true rfl)
  rw [lg_entry_eq]
  generalize (lg_sl ([.ref h_t]) ++ List.replicate (3 - (lg_sl ([.ref h_t])).length) Slot.unset).toArray = ls at hl ⊢
  have hl : lv_has ls 3 [(0, .ref h_t)] := hl
  have hf := ho
  have hw_4 : ∀  (n : Nat) (v1 : Int32) (v2 : Int32), lp_X8_held_4 t_then t_said t_many n v1 v2 = some o → ∀ (H : Heap) (locs : List Loc), va_P G.1 vwCl [(h_t, .inr (8, [.long t_trace, .ref h_t_text, .int t_typed, .ref h_t_said, .ref h_t_many, .long t_when, .long t_then, .ref h_t_grades, .ref h_t_doubts, .int t_at, .int t_token, .int t_start, .ref h_t_vals, .ref h_t_waits, .int t_valMany, .int t_waitMany, .int t_open, .long t_saying, .ref h_t_fresh, .ref h_t_freshMany, .int t_quarrel])), (h_t_said, .inl (G.2.1.2.2, 45, .inr (.inl t_said))), (h_t_many, .inl (G.2.1.2.1, 5, .inl t_many))] H → va_D A [(h_t, .inr (8, [.long t_trace, .ref h_t_text, .int t_typed, .ref h_t_said, .ref h_t_many, .long t_when, .long t_then, .ref h_t_grades, .ref h_t_doubts, .int t_at, .int t_token, .int t_start, .ref h_t_vals, .ref h_t_waits, .int t_valMany, .int t_waitMany, .int t_open, .long t_saying, .ref h_t_fresh, .ref h_t_freshMany, .int t_quarrel])), (h_t_said, .inl (G.2.1.2.2, 45, .inr (.inl t_said))), (h_t_many, .inl (G.2.1.2.1, 5, .inl t_many))] → va_S A s.heap H locs → ∀ (ls : Array Slot), lv_has ls 3 [(0, .ref h_t), (1, .int v1), (2, .int v2)] → W p l e (headSpec wsX8_held ({ frames := 5, cells := 0, slots := 0, locals := 115 } : Room)).room s m ([.ref h_t] : List Value).toArray below meth c H locs 0 0 (MQ below (qcI Unit G o (fun _ => True) (fun _ => [(h_t, .inr (8, [.long t_trace, .ref h_t_text, .int t_typed, .ref h_t_said, .ref h_t_many, .long t_when, .long t_then, .ref h_t_grades, .ref h_t_doubts, .int t_at, .int t_token, .int t_start, .ref h_t_vals, .ref h_t_waits, .int t_valMany, .int t_waitMany, .int t_open, .long t_saying, .ref h_t_fresh, .ref h_t_freshMany, .int t_quarrel])), (h_t_said, .inl (G.2.1.2.2, 45, .inr (.inl t_said))), (h_t_many, .inl (G.2.1.2.1, 5, .inl t_many))]) A) ([.ref h_t] : List Value).toArray s 0 0 A) (F0 m 4 ls []) := by
    intro n
    induction n with
    | zero =>
      intro v1 v2 hf
      exact absurd hf (by rw [lp_X8_held_4]; intro h; cases h)
    | succ n ih =>
      intro v1 v2 hf H locs hP hD hS ls hl
      rw [lp_X8_held_4] at hf
      refine lv_iload_n hx hb dX8_held_4 rfl (lv_at hl 2 rfl) ?_
      refine lv_iconst (v := (1 : Int32)) hx hb dX8_held_5 (by decide) ?_
      refine lv_aload_n hx hb dX8_held_6 rfl (lv_at hl 0 rfl) ?_
      refine va_get (D := G.1) (ci := 8) (v := .ref h_t_many) (C := RX8) (T := TX8) (N := 21) hx hb hts hiX8 hown hg.1 hP 0 rfl rfl 4 (by decide) (hts (.fieldLink RX8 17 "AsARuleModel" "many" "[I") (by decide +kernel)) (fun _ h9 => h9) rfl dX8_held_7 ?_
      refine lv_iconst (v := (1 : Int32)) hx hb dX8_held_10 (by decide) ?_
      refine va_iald hx hb hg.1 hP 2 1 rfl rfl (ib_in (gd_t hf)) dX8_held_11 ?_
      have hf := gd_x hf
      refine lv_ishl hx hb dX8_held_12 ?_
      refine lv_icmp_ge (tgt := 57) hx hb dX8_held_13 (by decide) (fun c1 => ?_) (fun c1 => ?_)
      · have hf := it_t c1 hf
        refine lv_iload_n hx hb dX8_held_57 rfl (lv_at hl 1 rfl) ?_
        rw [← Option.some.inj hf]
        exact rt_i (u := ()) hx hb hr hlocks hP hD trivial hS dX8_held_58
      · have hf := it_f c1 hf
        refine lv_iload_n hx hb dX8_held_16 rfl (lv_at hl 1 rfl) ?_
        refine lv_aload_n hx hb dX8_held_17 rfl (lv_at hl 0 rfl) ?_
        refine lv_iload_n hx hb dX8_held_18 rfl (lv_at hl 2 rfl) ?_
        obtain ⟨o2, ho2, hf⟩ := bd_e hf
        refine af_i (wr := []) (va_runV (As := [.int v2]) (rest := [.int v1]) ⟨hx, hb, hml, hown, hts⟩ (c_X8_isEnd l G h_t h_t_text h_t_said h_t_many h_t_grades h_t_doubts h_t_vals h_t_waits h_t_fresh h_t_freshMany H.size t_trace t_typed t_when t_then t_at t_token t_start t_valMany t_waitMany t_open t_saying t_quarrel t_said t_many v2 o2 ho2) (cwV 1 hts gX8_held_X8_isEnd rfl rfl rfl (by decide +kernel) ⟨Nat.le_of_ble_eq_true rfl, Nat.le_of_ble_eq_true rfl⟩) (pcA_preV hg hc hP hD hS hA [0, 1, 2] rfl (by decide) (q0 := 0) (ci := 8) rfl rfl rfl) rfl rfl hl.1 rfl (lv_room (Nat.le_of_ble_eq_true rfl)) dX8_held_19 ⟨Nat.zero_le _, Nat.zero_le _⟩) hP hD hS hA [0, 1, 2] [] rfl rfl (by decide) (by decide) (fun _ H locs _ hP hD hS => ?_)
        have hP : va_P G.1 vwCl [(h_t, .inr (8, [.long t_trace, .ref h_t_text, .int t_typed, .ref h_t_said, .ref h_t_many, .long t_when, .long t_then, .ref h_t_grades, .ref h_t_doubts, .int t_at, .int t_token, .int t_start, .ref h_t_vals, .ref h_t_waits, .int t_valMany, .int t_waitMany, .int t_open, .long t_saying, .ref h_t_fresh, .ref h_t_freshMany, .int t_quarrel])), (h_t_said, .inl (G.2.1.2.2, 45, .inr (.inl t_said))), (h_t_many, .inl (G.2.1.2.1, 5, .inl t_many))] H := hP
        have hD : va_D A [(h_t, .inr (8, [.long t_trace, .ref h_t_text, .int t_typed, .ref h_t_said, .ref h_t_many, .long t_when, .long t_then, .ref h_t_grades, .ref h_t_doubts, .int t_at, .int t_token, .int t_start, .ref h_t_vals, .ref h_t_waits, .int t_valMany, .int t_waitMany, .int t_open, .long t_saying, .ref h_t_fresh, .ref h_t_freshMany, .int t_quarrel])), (h_t_said, .inl (G.2.1.2.2, 45, .inr (.inl t_said))), (h_t_many, .inl (G.2.1.2.1, 5, .inl t_many))] := hD
        refine lv_if_eq (tgt := 48) hx hb dX8_held_22 (by decide) (fun c3 => ?_) (fun c3 => ?_)
        · have hf := it_t c3 hf
          refine lv_iconst (v := (0 : Int32)) hx hb dX8_held_48 (by decide) ?_
          refine lv_iadd hx hb dX8_held_49 ?_
          refine lv_topi (fun x4 ex4 => ?_)
          have hf := lt_n hf x4 ex4
          refine lv_istore_n (lv' := [(1, .int x4), (0, .ref h_t), (2, .int v2)]) hx hb dX8_held_50 rfl hl (by decide) rfl (fun ls hl => ?_)
          obtain ⟨x5, ex5⟩ : ∃ y : Int32, y = (v2 + (1 : Int32)) := ⟨_, rfl⟩
          have hf := lt_n hf x5 ex5
          refine lv_iinc (v := x5) (lv' := [(2, .int x5), (1, .int x4), (0, .ref h_t)]) hx hb dX8_held_51 hl (k := 2) rfl (by rw [ex5]; rfl) (by decide) rfl (fun ls hl => ?_)
          refine lv_goto (tgt := 4) hx hb dX8_held_54 (by decide) ?_
          exact ih x4 x5 hf _ _ hP hD hS _ (lv_sub hl [2, 1, 0] rfl)
        · have hf := it_f c3 hf
          refine lv_aload_n hx hb dX8_held_25 rfl (lv_at hl 0 rfl) ?_
          refine lv_iload_n hx hb dX8_held_26 rfl (lv_at hl 2 rfl) ?_
          obtain ⟨o6, ho6, hf⟩ := bd_e hf
          refine af_l (wr := []) (va_runV (As := [.int v2]) (rest := [.int v1]) ⟨hx, hb, hml, hown, hts⟩ (c_X8_leftBy l G h_t h_t_text h_t_said h_t_many h_t_grades h_t_doubts h_t_vals h_t_waits h_t_fresh h_t_freshMany H.size t_trace t_typed t_when t_then t_at t_token t_start t_valMany t_waitMany t_open t_saying t_quarrel t_said t_many v2 o6 ho6) (cwV 1 hts gX8_held_X8_leftBy rfl rfl rfl (by decide +kernel) ⟨Nat.le_of_ble_eq_true rfl, Nat.le_of_ble_eq_true rfl⟩) (pcA_preV hg hc hP hD hS hA [0, 1, 2] rfl (by decide) (q0 := 0) (ci := 8) rfl rfl rfl) rfl rfl hl.1 rfl (lv_room (Nat.le_of_ble_eq_true rfl)) dX8_held_27 ⟨Nat.zero_le _, Nat.zero_le _⟩) hP hD hS hA [0, 1, 2] [] rfl rfl (by decide) (by decide) (fun _ H locs _ hP hD hS => ?_)
          have hP : va_P G.1 vwCl [(h_t, .inr (8, [.long t_trace, .ref h_t_text, .int t_typed, .ref h_t_said, .ref h_t_many, .long t_when, .long t_then, .ref h_t_grades, .ref h_t_doubts, .int t_at, .int t_token, .int t_start, .ref h_t_vals, .ref h_t_waits, .int t_valMany, .int t_waitMany, .int t_open, .long t_saying, .ref h_t_fresh, .ref h_t_freshMany, .int t_quarrel])), (h_t_said, .inl (G.2.1.2.2, 45, .inr (.inl t_said))), (h_t_many, .inl (G.2.1.2.1, 5, .inl t_many))] H := hP
          have hD : va_D A [(h_t, .inr (8, [.long t_trace, .ref h_t_text, .int t_typed, .ref h_t_said, .ref h_t_many, .long t_when, .long t_then, .ref h_t_grades, .ref h_t_doubts, .int t_at, .int t_token, .int t_start, .ref h_t_vals, .ref h_t_waits, .int t_valMany, .int t_waitMany, .int t_open, .long t_saying, .ref h_t_fresh, .ref h_t_freshMany, .int t_quarrel])), (h_t_said, .inl (G.2.1.2.2, 45, .inr (.inl t_said))), (h_t_many, .inl (G.2.1.2.1, 5, .inl t_many))] := hD
          refine lv_aload_n hx hb dX8_held_30 rfl (lv_at hl 0 rfl) ?_
          refine va_get (D := G.1) (ci := 8) (v := .long t_then) (C := RX8) (T := TX8) (N := 21) hx hb hts hiX8 hown hg.1 hP 0 rfl rfl 6 (by decide) (hts (.fieldLink RX8 44 "AsARuleModel" "then" "J") (by decide +kernel)) (fun _ h9 => h9) rfl dX8_held_31 ?_
          refine lv_ldc2 (v := (-1 : Int64)) hx hb hown (hts (.constantLong RX8 38 (-1 : Int64)) (by decide +kernel)) dX8_held_34 ?_
          refine lv_lxor hx hb dX8_held_37 ?_
          refine lv_land hx hb dX8_held_38 ?_
          refine lv_lconst (v := (0 : Int64)) hx hb dX8_held_39 (by decide) ?_
          refine W.lcmp hx hb dX8_held_40 ?_
          refine lv_if_ne (tgt := 48) hx hb dX8_held_41 (by decide) (fun c7 => ?_) (fun c7 => ?_)
          · have c7 := fun z => c7 (lgc0.mpr z)
            have hf := it_f c7 hf
            refine lv_iconst (v := (0 : Int32)) hx hb dX8_held_48 (by decide) ?_
            refine lv_iadd hx hb dX8_held_49 ?_
            refine lv_topi (fun x8 ex8 => ?_)
            have hf := lt_n hf x8 ex8
            refine lv_istore_n (lv' := [(1, .int x8), (0, .ref h_t), (2, .int v2)]) hx hb dX8_held_50 rfl hl (by decide) rfl (fun ls hl => ?_)
            obtain ⟨x9, ex9⟩ : ∃ y : Int32, y = (v2 + (1 : Int32)) := ⟨_, rfl⟩
            have hf := lt_n hf x9 ex9
            refine lv_iinc (v := x9) (lv' := [(2, .int x9), (1, .int x8), (0, .ref h_t)]) hx hb dX8_held_51 hl (k := 2) rfl (by rw [ex9]; rfl) (by decide) rfl (fun ls hl => ?_)
            refine lv_goto (tgt := 4) hx hb dX8_held_54 (by decide) ?_
            exact ih x8 x9 hf _ _ hP hD hS _ (lv_sub hl [2, 1, 0] rfl)
          · have c7 := lgc0.mp c7
            have hf := it_t c7 hf
            refine lv_iconst (v := (1 : Int32)) hx hb dX8_held_44 (by decide) ?_
            refine lv_goto (tgt := 49) hx hb dX8_held_45 (by decide) ?_
            refine lv_iadd hx hb dX8_held_49 ?_
            refine lv_topi (fun x10 ex10 => ?_)
            have hf := lt_n hf x10 ex10
            refine lv_istore_n (lv' := [(1, .int x10), (0, .ref h_t), (2, .int v2)]) hx hb dX8_held_50 rfl hl (by decide) rfl (fun ls hl => ?_)
            obtain ⟨x11, ex11⟩ : ∃ y : Int32, y = (v2 + (1 : Int32)) := ⟨_, rfl⟩
            have hf := lt_n hf x11 ex11
            refine lv_iinc (v := x11) (lv' := [(2, .int x11), (1, .int x10), (0, .ref h_t)]) hx hb dX8_held_51 hl (k := 2) rfl (by rw [ex11]; rfl) (by decide) rfl (fun ls hl => ?_)
            refine lv_goto (tgt := 4) hx hb dX8_held_54 (by decide) ?_
            exact ih x10 x11 hf _ _ hP hD hS _ (lv_sub hl [2, 1, 0] rfl)
  unfold f_X8_held at hf
  refine en (fun H locs hP hD hS => ?_) hP hD
  refine lv_iconst (v := (0 : Int32)) hx hb dX8_held_0 (by decide) ?_
  refine lv_istore_n (lv' := [(1, .int (0 : Int32)), (0, .ref h_t)]) hx hb dX8_held_1 rfl hl (by decide) rfl (fun ls hl => ?_)
  refine lv_iconst (v := (0 : Int32)) hx hb dX8_held_2 (by decide) ?_
  refine lv_istore_n (lv' := [(2, .int (0 : Int32)), (1, .int (0 : Int32)), (0, .ref h_t)]) hx hb dX8_held_3 rfl hl (by decide) rfl (fun ls hl => ?_)
  exact hw_4 fu (0 : Int32) (0 : Int32) hf _ _ hP hD hS _ (lv_sub hl [2, 1, 0] rfl)
-- method X8_tells
def jn_X8_tells_54 (t_then : Int64) (t_said : Nat → Int64) (t_many : Nat → Int32) (a1 : Int32) (v2 : Int64) : Option (Int32) :=
  if v2 = (0 : Int64) then some ((0 : Int32)) else if (v2 &&& (t_then ^^^ (-1 : Int64))) = (0 : Int64) then some ((1 : Int32)) else some ((0 : Int32))
def lp_X8_tells_8 (t_then : Int64) (t_said : Nat → Int64) (t_many : Nat → Int32) (a1 : Int32) : Nat → Int64 → Int32 → Option (Int32)
  | 0, _, _ => none
  | n + 1, v2, v4 => gd (ib (4 : Int32) 5) (if (t_many (4 : Int32).toNatClampNeg) ≤ v4 then jn_X8_tells_54 t_then t_said t_many a1 v2 else if ((a1 >>> (v4 &&& 31)) &&& (1 : Int32)) = (1 : Int32) then gd (ib ((36 : Int32) + v4) 45) (lt (v2 &&& (t_said ((36 : Int32) + v4).toNatClampNeg)) (fun x7 => lt (v4 + (1 : Int32)) (fun x8 => lp_X8_tells_8 t_then t_said t_many a1 n x7 x8))) else lt (v2 &&& (-1 : Int64)) (fun x5 => lt (v4 + (1 : Int32)) (fun x6 => lp_X8_tells_8 t_then t_said t_many a1 n x5 x6)))
def f_X8_tells (t_then : Int64) (t_said : Nat → Int64) (t_many : Nat → Int32) (a1 : Int32) : Option (Int32) :=
  bd (f_X8_groundNow t_said t_many) (fun o9 => lp_X8_tells_8 t_then t_said t_many a1 fu o9 (0 : Int32))
set_option maxHeartbeats 4000000 in
set_option maxRecDepth 100000 in
theorem c_X8_tells (l : Launch) (G : GG) (h_t h_t_text h_t_said h_t_many h_t_grades h_t_doubts h_t_vals h_t_waits h_t_fresh h_t_freshMany : Nat) (sz : Nat) (t_trace : Int64) (t_typed : Int32) (t_when : Int64) (t_then : Int64) (t_at : Int32) (t_token : Int32) (t_start : Int32) (t_valMany : Int32) (t_waitMany : Int32) (t_open : Int32) (t_saying : Int64) (t_quarrel : Int32) (t_said : Nat → Int64) (t_many : Nat → Int32) (a1 : Int32) (o : Int32) (ho : f_X8_tells t_then t_said t_many a1 = some o)  : Met l yX8_tells wsX8_tells ({ frames := 3, cells := 0, slots := 0, locals := 64 } : Room) (pcA G [.ref h_t, .int a1] [(h_t, .inr (8, [.long t_trace, .ref h_t_text, .int t_typed, .ref h_t_said, .ref h_t_many, .long t_when, .long t_then, .ref h_t_grades, .ref h_t_doubts, .int t_at, .int t_token, .int t_start, .ref h_t_vals, .ref h_t_waits, .int t_valMany, .int t_waitMany, .int t_open, .long t_saying, .ref h_t_fresh, .ref h_t_freshMany, .int t_quarrel])), (h_t_said, .inl (G.2.1.2.2, 45, .inr (.inl t_said))), (h_t_many, .inl (G.2.1.2.1, 5, .inl t_many))] sz) (qcI Unit G o (fun _ => True) (fun _ => [(h_t, .inr (8, [.long t_trace, .ref h_t_text, .int t_typed, .ref h_t_said, .ref h_t_many, .long t_when, .long t_then, .ref h_t_grades, .ref h_t_doubts, .int t_at, .int t_token, .int t_start, .ref h_t_vals, .ref h_t_waits, .int t_valMany, .int t_waitMany, .int t_open, .long t_saying, .ref h_t_fresh, .ref h_t_freshMany, .int t_quarrel])), (h_t_said, .inl (G.2.1.2.2, 45, .inr (.inl t_said))), (h_t_many, .inl (G.2.1.2.1, 5, .inl t_many))]) (va_A [(h_t, .inr (8, [.long t_trace, .ref h_t_text, .int t_typed, .ref h_t_said, .ref h_t_many, .long t_when, .long t_then, .ref h_t_grades, .ref h_t_doubts, .int t_at, .int t_token, .int t_start, .ref h_t_vals, .ref h_t_waits, .int t_valMany, .int t_waitMany, .int t_open, .long t_saying, .ref h_t_fresh, .ref h_t_freshMany, .int t_quarrel])), (h_t_said, .inl (G.2.1.2.2, 45, .inr (.inl t_said))), (h_t_many, .inl (G.2.1.2.1, 5, .inl t_many))] sz)) 0 0 (va_A [(h_t, .inr (8, [.long t_trace, .ref h_t_text, .int t_typed, .ref h_t_said, .ref h_t_many, .long t_when, .long t_then, .ref h_t_grades, .ref h_t_doubts, .int t_at, .int t_token, .int t_start, .ref h_t_vals, .ref h_t_waits, .int t_valMany, .int t_waitMany, .int t_open, .long t_saying, .ref h_t_fresh, .ref h_t_freshMany, .int t_quarrel])), (h_t_said, .inl (G.2.1.2.2, 45, .inr (.inl t_said))), (h_t_many, .inl (G.2.1.2.1, 5, .inl t_many))] sz) := by
  refine Met.ofW (cc := cX8_tells) (maxL := 5) (ret := (some .boolean)) (by decide) rfl ?_
  intro p e s m args below meth c s₁ B hml hv
  obtain ⟨rfl, hsz, hP, hg, hD0, hc⟩ := hv
  have hx := B.exec
  have hb := B.bytes
  have hr := B.returns
  have hts := atoms_spec (ws := wsX8_tells) B.pre
  have hown : s.vm.findClass RX8 = some m.cls := findClass_of_methodNamed B.named
  have hlocks := B.notSynchronized
  subst hsz
  have hD := hD0.self (sz := s.heap.size)
  generalize hAe : va_A [(h_t, .inr (8, [.long t_trace, .ref h_t_text, .int t_typed, .ref h_t_said, .ref h_t_many, .long t_when, .long t_then, .ref h_t_grades, .ref h_t_doubts, .int t_at, .int t_token, .int t_start, .ref h_t_vals, .ref h_t_waits, .int t_valMany, .int t_waitMany, .int t_open, .long t_saying, .ref h_t_fresh, .ref h_t_freshMany, .int t_quarrel])), (h_t_said, .inl (G.2.1.2.2, 45, .inr (.inl t_said))), (h_t_many, .inl (G.2.1.2.1, 5, .inl t_many))] s.heap.size = A at hD hc ⊢
  have hA : ∀ q : Nat, s.heap.size ≤ q → A q := fun q h => by rw [← hAe]; exact Or.inr h
  have hiX8 : ∀ w ∈ wsX80, w ∈ wsX8_tells := by decide +kernel
  have hl := lv_entry ([.ref h_t, .int a1]) (n := 5) (Nat.le_of_ble_eq_true rfl)
  rw [lg_entry_eq]
  generalize (lg_sl ([.ref h_t, .int a1]) ++ List.replicate (5 - (lg_sl ([.ref h_t, .int a1])).length) Slot.unset).toArray = ls at hl ⊢
  have hl : lv_has ls 5 [(0, .ref h_t), (1, .int a1)] := hl
  have hf := ho
  have hw_54 : ∀ (v2 : Int64), jn_X8_tells_54 t_then t_said t_many a1 v2 = some o → ∀ (H : Heap) (locs : List Loc), va_P G.1 vwCl [(h_t, .inr (8, [.long t_trace, .ref h_t_text, .int t_typed, .ref h_t_said, .ref h_t_many, .long t_when, .long t_then, .ref h_t_grades, .ref h_t_doubts, .int t_at, .int t_token, .int t_start, .ref h_t_vals, .ref h_t_waits, .int t_valMany, .int t_waitMany, .int t_open, .long t_saying, .ref h_t_fresh, .ref h_t_freshMany, .int t_quarrel])), (h_t_said, .inl (G.2.1.2.2, 45, .inr (.inl t_said))), (h_t_many, .inl (G.2.1.2.1, 5, .inl t_many))] H → va_D A [(h_t, .inr (8, [.long t_trace, .ref h_t_text, .int t_typed, .ref h_t_said, .ref h_t_many, .long t_when, .long t_then, .ref h_t_grades, .ref h_t_doubts, .int t_at, .int t_token, .int t_start, .ref h_t_vals, .ref h_t_waits, .int t_valMany, .int t_waitMany, .int t_open, .long t_saying, .ref h_t_fresh, .ref h_t_freshMany, .int t_quarrel])), (h_t_said, .inl (G.2.1.2.2, 45, .inr (.inl t_said))), (h_t_many, .inl (G.2.1.2.1, 5, .inl t_many))] → va_S A s.heap H locs → ∀ (ls : Array Slot), lv_has ls 5 [(0, .ref h_t), (2, .long v2)] → W p l e (headSpec wsX8_tells ({ frames := 3, cells := 0, slots := 0, locals := 64 } : Room)).room s m ([.ref h_t, .int a1] : List Value).toArray below meth c H locs 0 0 (MQ below (qcI Unit G o (fun _ => True) (fun _ => [(h_t, .inr (8, [.long t_trace, .ref h_t_text, .int t_typed, .ref h_t_said, .ref h_t_many, .long t_when, .long t_then, .ref h_t_grades, .ref h_t_doubts, .int t_at, .int t_token, .int t_start, .ref h_t_vals, .ref h_t_waits, .int t_valMany, .int t_waitMany, .int t_open, .long t_saying, .ref h_t_fresh, .ref h_t_freshMany, .int t_quarrel])), (h_t_said, .inl (G.2.1.2.2, 45, .inr (.inl t_said))), (h_t_many, .inl (G.2.1.2.1, 5, .inl t_many))]) A) ([.ref h_t, .int a1] : List Value).toArray s 0 0 A) (F0 m 54 ls []) := by
    intro v2 hf H locs hP hD hS ls hl
    unfold jn_X8_tells_54 at hf
    refine lv_lload_n hx hb dX8_tells_54 rfl (lv_at hl 1 rfl) ?_
    refine lv_lconst (v := (0 : Int64)) hx hb dX8_tells_55 (by decide) ?_
    refine W.lcmp hx hb dX8_tells_56 ?_
    refine lv_if_eq (tgt := 79) hx hb dX8_tells_57 (by decide) (fun c1 => ?_) (fun c1 => ?_)
    · have c1 := lgc0.mp c1
      have hf := it_t c1 hf
      refine lv_iconst (v := (0 : Int32)) hx hb dX8_tells_79 (by decide) ?_
      rw [← Option.some.inj hf]
      exact rt_z (u := ()) hx hb hr zb_0 hlocks hP hD trivial hS dX8_tells_80
    · have c1 := fun z => c1 (lgc0.mpr z)
      have hf := it_f c1 hf
      refine lv_lload_n hx hb dX8_tells_60 rfl (lv_at hl 1 rfl) ?_
      refine lv_aload_n hx hb dX8_tells_61 rfl (lv_at hl 0 rfl) ?_
      refine va_get (D := G.1) (ci := 8) (v := .long t_then) (C := RX8) (T := TX8) (N := 21) hx hb hts hiX8 hown hg.1 hP 0 rfl rfl 6 (by decide) (hts (.fieldLink RX8 44 "AsARuleModel" "then" "J") (by decide +kernel)) (fun _ h9 => h9) rfl dX8_tells_62 ?_
      refine lv_ldc2 (v := (-1 : Int64)) hx hb hown (hts (.constantLong RX8 38 (-1 : Int64)) (by decide +kernel)) dX8_tells_65 ?_
      refine lv_lxor hx hb dX8_tells_68 ?_
      refine lv_land hx hb dX8_tells_69 ?_
      refine lv_lconst (v := (0 : Int64)) hx hb dX8_tells_70 (by decide) ?_
      refine W.lcmp hx hb dX8_tells_71 ?_
      refine lv_if_ne (tgt := 79) hx hb dX8_tells_72 (by decide) (fun c2 => ?_) (fun c2 => ?_)
      · have c2 := fun z => c2 (lgc0.mpr z)
        have hf := it_f c2 hf
        refine lv_iconst (v := (0 : Int32)) hx hb dX8_tells_79 (by decide) ?_
        rw [← Option.some.inj hf]
        exact rt_z (u := ()) hx hb hr zb_0 hlocks hP hD trivial hS dX8_tells_80
      · have c2 := lgc0.mp c2
        have hf := it_t c2 hf
        refine lv_iconst (v := (1 : Int32)) hx hb dX8_tells_75 (by decide) ?_
        refine lv_goto (tgt := 80) hx hb dX8_tells_76 (by decide) ?_
        rw [← Option.some.inj hf]
        exact rt_z (u := ()) hx hb hr zb_1 hlocks hP hD trivial hS dX8_tells_80
  have hw_8 : ∀  (n : Nat) (v2 : Int64) (v4 : Int32), lp_X8_tells_8 t_then t_said t_many a1 n v2 v4 = some o → ∀ (H : Heap) (locs : List Loc), va_P G.1 vwCl [(h_t, .inr (8, [.long t_trace, .ref h_t_text, .int t_typed, .ref h_t_said, .ref h_t_many, .long t_when, .long t_then, .ref h_t_grades, .ref h_t_doubts, .int t_at, .int t_token, .int t_start, .ref h_t_vals, .ref h_t_waits, .int t_valMany, .int t_waitMany, .int t_open, .long t_saying, .ref h_t_fresh, .ref h_t_freshMany, .int t_quarrel])), (h_t_said, .inl (G.2.1.2.2, 45, .inr (.inl t_said))), (h_t_many, .inl (G.2.1.2.1, 5, .inl t_many))] H → va_D A [(h_t, .inr (8, [.long t_trace, .ref h_t_text, .int t_typed, .ref h_t_said, .ref h_t_many, .long t_when, .long t_then, .ref h_t_grades, .ref h_t_doubts, .int t_at, .int t_token, .int t_start, .ref h_t_vals, .ref h_t_waits, .int t_valMany, .int t_waitMany, .int t_open, .long t_saying, .ref h_t_fresh, .ref h_t_freshMany, .int t_quarrel])), (h_t_said, .inl (G.2.1.2.2, 45, .inr (.inl t_said))), (h_t_many, .inl (G.2.1.2.1, 5, .inl t_many))] → va_S A s.heap H locs → ∀ (ls : Array Slot), lv_has ls 5 [(0, .ref h_t), (1, .int a1), (2, .long v2), (4, .int v4)] → W p l e (headSpec wsX8_tells ({ frames := 3, cells := 0, slots := 0, locals := 64 } : Room)).room s m ([.ref h_t, .int a1] : List Value).toArray below meth c H locs 0 0 (MQ below (qcI Unit G o (fun _ => True) (fun _ => [(h_t, .inr (8, [.long t_trace, .ref h_t_text, .int t_typed, .ref h_t_said, .ref h_t_many, .long t_when, .long t_then, .ref h_t_grades, .ref h_t_doubts, .int t_at, .int t_token, .int t_start, .ref h_t_vals, .ref h_t_waits, .int t_valMany, .int t_waitMany, .int t_open, .long t_saying, .ref h_t_fresh, .ref h_t_freshMany, .int t_quarrel])), (h_t_said, .inl (G.2.1.2.2, 45, .inr (.inl t_said))), (h_t_many, .inl (G.2.1.2.1, 5, .inl t_many))]) A) ([.ref h_t, .int a1] : List Value).toArray s 0 0 A) (F0 m 8 ls []) := by
    intro n
    induction n with
    | zero =>
      intro v2 v4 hf
      exact absurd hf (by rw [lp_X8_tells_8]; intro h; cases h)
    | succ n ih =>
      intro v2 v4 hf H locs hP hD hS ls hl
      rw [lp_X8_tells_8] at hf
      refine lv_iload hx hb dX8_tells_8 (lv_at hl 3 rfl) ?_
      refine lv_aload_n hx hb dX8_tells_10 rfl (lv_at hl 0 rfl) ?_
      refine va_get (D := G.1) (ci := 8) (v := .ref h_t_many) (C := RX8) (T := TX8) (N := 21) hx hb hts hiX8 hown hg.1 hP 0 rfl rfl 4 (by decide) (hts (.fieldLink RX8 17 "AsARuleModel" "many" "[I") (by decide +kernel)) (fun _ h9 => h9) rfl dX8_tells_11 ?_
      refine lv_iconst (v := (4 : Int32)) hx hb dX8_tells_14 (by decide) ?_
      refine va_iald hx hb hg.1 hP 2 1 rfl rfl (ib_in (gd_t hf)) dX8_tells_15 ?_
      have hf := gd_x hf
      refine lv_icmp_ge (tgt := 54) hx hb dX8_tells_16 (by decide) (fun c3 => ?_) (fun c3 => ?_)
      · have hf := it_t c3 hf
        exact hw_54 v2 hf _ _ hP hD hS _ (lv_sub hl [0, 2] rfl)
      · have hf := it_f c3 hf
        refine lv_lload_n hx hb dX8_tells_19 rfl (lv_at hl 2 rfl) ?_
        refine lv_iload_n hx hb dX8_tells_20 rfl (lv_at hl 1 rfl) ?_
        refine lv_iload hx hb dX8_tells_21 (lv_at hl 3 rfl) ?_
        refine lv_ishr hx hb dX8_tells_23 ?_
        refine lv_iconst (v := (1 : Int32)) hx hb dX8_tells_24 (by decide) ?_
        refine lv_iand hx hb dX8_tells_25 ?_
        refine lv_iconst (v := (1 : Int32)) hx hb dX8_tells_26 (by decide) ?_
        refine lv_icmp_ne (tgt := 43) hx hb dX8_tells_27 (by decide) (fun c4 => ?_) (fun c4 => ?_)
        · have hf := it_f c4 hf
          refine lv_ldc2 (v := (-1 : Int64)) hx hb hown (hts (.constantLong RX8 38 (-1 : Int64)) (by decide +kernel)) dX8_tells_43 ?_
          refine lv_land hx hb dX8_tells_46 ?_
          refine lv_topl (fun x5 ex5 => ?_)
          have hf := lt_n hf x5 ex5
          refine lv_lstore_n (lv' := [(2, .long x5), (0, .ref h_t), (1, .int a1), (4, .int v4)]) hx hb dX8_tells_47 rfl hl (by decide) rfl (fun ls hl => ?_)
          obtain ⟨x6, ex6⟩ : ∃ y : Int32, y = (v4 + (1 : Int32)) := ⟨_, rfl⟩
          have hf := lt_n hf x6 ex6
          refine lv_iinc (v := x6) (lv' := [(4, .int x6), (2, .long x5), (0, .ref h_t), (1, .int a1)]) hx hb dX8_tells_48 hl (k := 3) rfl (by rw [ex6]; rfl) (by decide) rfl (fun ls hl => ?_)
          refine lv_goto (tgt := 8) hx hb dX8_tells_51 (by decide) ?_
          exact ih x5 x6 hf _ _ hP hD hS _ (lv_sub hl [2, 3, 1, 0] rfl)
        · have hf := it_t c4 hf
          refine lv_aload_n hx hb dX8_tells_30 rfl (lv_at hl 0 rfl) ?_
          refine va_get (D := G.1) (ci := 8) (v := .ref h_t_said) (C := RX8) (T := TX8) (N := 21) hx hb hts hiX8 hown hg.1 hP 0 rfl rfl 3 (by decide) (hts (.fieldLink RX8 13 "AsARuleModel" "said" "[J") (by decide +kernel)) (fun _ h9 => h9) rfl dX8_tells_31 ?_
          refine lv_bipush (v := (36 : Int32)) hx hb dX8_tells_34 (by decide) ?_
          refine lv_iload hx hb dX8_tells_36 (lv_at hl 3 rfl) ?_
          refine lv_iadd hx hb dX8_tells_38 ?_
          refine va_lald hx hb hg.1 hP 1 2 rfl rfl (ib_in (gd_t hf)) dX8_tells_39 ?_
          have hf := gd_x hf
          refine lv_goto (tgt := 46) hx hb dX8_tells_40 (by decide) ?_
          refine lv_land hx hb dX8_tells_46 ?_
          refine lv_topl (fun x7 ex7 => ?_)
          have hf := lt_n hf x7 ex7
          refine lv_lstore_n (lv' := [(2, .long x7), (0, .ref h_t), (1, .int a1), (4, .int v4)]) hx hb dX8_tells_47 rfl hl (by decide) rfl (fun ls hl => ?_)
          obtain ⟨x8, ex8⟩ : ∃ y : Int32, y = (v4 + (1 : Int32)) := ⟨_, rfl⟩
          have hf := lt_n hf x8 ex8
          refine lv_iinc (v := x8) (lv' := [(4, .int x8), (2, .long x7), (0, .ref h_t), (1, .int a1)]) hx hb dX8_tells_48 hl (k := 3) rfl (by rw [ex8]; rfl) (by decide) rfl (fun ls hl => ?_)
          refine lv_goto (tgt := 8) hx hb dX8_tells_51 (by decide) ?_
          exact ih x7 x8 hf _ _ hP hD hS _ (lv_sub hl [2, 3, 1, 0] rfl)
  unfold f_X8_tells at hf
  refine en (fun H locs hP hD hS => ?_) hP hD
  refine lv_aload_n hx hb dX8_tells_0 rfl (lv_at hl 0 rfl) ?_
  obtain ⟨o9, ho9, hf⟩ := bd_e hf
  refine af_l (wr := []) (va_runV (As := []) (rest := []) ⟨hx, hb, hml, hown, hts⟩ (c_X8_groundNow l G h_t h_t_text h_t_said h_t_many h_t_grades h_t_doubts h_t_vals h_t_waits h_t_fresh h_t_freshMany H.size t_trace t_typed t_when t_then t_at t_token t_start t_valMany t_waitMany t_open t_saying t_quarrel t_said t_many o9 ho9) (cwV 0 hts gX8_tells_X8_groundNow rfl rfl rfl (by decide +kernel) ⟨Nat.le_of_ble_eq_true rfl, Nat.le_of_ble_eq_true rfl⟩) (pcA_preV hg hc hP hD hS hA [0, 1, 2] rfl (by decide) (q0 := 0) (ci := 8) rfl rfl rfl) rfl rfl hl.1 rfl (lv_room (Nat.le_of_ble_eq_true rfl)) dX8_tells_1 ⟨Nat.zero_le _, Nat.zero_le _⟩) hP hD hS hA [0, 1, 2] [] rfl rfl (by decide) (by decide) (fun _ H locs _ hP hD hS => ?_)
  have hP : va_P G.1 vwCl [(h_t, .inr (8, [.long t_trace, .ref h_t_text, .int t_typed, .ref h_t_said, .ref h_t_many, .long t_when, .long t_then, .ref h_t_grades, .ref h_t_doubts, .int t_at, .int t_token, .int t_start, .ref h_t_vals, .ref h_t_waits, .int t_valMany, .int t_waitMany, .int t_open, .long t_saying, .ref h_t_fresh, .ref h_t_freshMany, .int t_quarrel])), (h_t_said, .inl (G.2.1.2.2, 45, .inr (.inl t_said))), (h_t_many, .inl (G.2.1.2.1, 5, .inl t_many))] H := hP
  have hD : va_D A [(h_t, .inr (8, [.long t_trace, .ref h_t_text, .int t_typed, .ref h_t_said, .ref h_t_many, .long t_when, .long t_then, .ref h_t_grades, .ref h_t_doubts, .int t_at, .int t_token, .int t_start, .ref h_t_vals, .ref h_t_waits, .int t_valMany, .int t_waitMany, .int t_open, .long t_saying, .ref h_t_fresh, .ref h_t_freshMany, .int t_quarrel])), (h_t_said, .inl (G.2.1.2.2, 45, .inr (.inl t_said))), (h_t_many, .inl (G.2.1.2.1, 5, .inl t_many))] := hD
  refine lv_lstore_n (lv' := [(2, .long o9), (0, .ref h_t), (1, .int a1)]) hx hb dX8_tells_4 rfl hl (by decide) rfl (fun ls hl => ?_)
  refine lv_iconst (v := (0 : Int32)) hx hb dX8_tells_5 (by decide) ?_
  refine lv_istore (lv' := [(4, .int (0 : Int32)), (2, .long o9), (0, .ref h_t), (1, .int a1)]) hx hb dX8_tells_6 hl (by decide) rfl (fun ls hl => ?_)
  exact hw_8 fu o9 (0 : Int32) hf _ _ hP hD hS _ (lv_sub hl [2, 3, 1, 0] rfl)
-- method X8_isWhy
def lp_X8_isWhy_8 (t_then : Int64) (t_said : Nat → Int64) (t_many : Nat → Int32) (a1 : Int32) : Nat → Int32 → Int32 → Option (Int32)
  | 0, _, _ => none
  | n + 1, v2, v3 => gd (ib (4 : Int32) 5) (if (t_many (4 : Int32).toNatClampNeg) ≤ v3 then gd (zb v2) (some (v2)) else if v2 = (0 : Int32) then gd (zb v2) (some (v2)) else if ((a1 >>> (v3 &&& 31)) &&& (1 : Int32)) = (0 : Int32) then lt (v3 + (1 : Int32)) (fun x6 => lp_X8_isWhy_8 t_then t_said t_many a1 n (1 : Int32) x6) else bd (f_X8_tells t_then t_said t_many (a1 ^^^ ((1 : Int32) <<< (v3 &&& 31)))) (fun o7 => if o7 = (0 : Int32) then lt (v3 + (1 : Int32)) (fun x10 => lp_X8_isWhy_8 t_then t_said t_many a1 n (1 : Int32) x10) else lt (v3 + (1 : Int32)) (fun x9 => lp_X8_isWhy_8 t_then t_said t_many a1 n (0 : Int32) x9)))
def f_X8_isWhy (t_then : Int64) (t_said : Nat → Int64) (t_many : Nat → Int32) (a1 : Int32) : Option (Int32) :=
  bd (f_X8_tells t_then t_said t_many a1) (fun o11 => lp_X8_isWhy_8 t_then t_said t_many a1 fu o11 (0 : Int32))
set_option maxHeartbeats 4000000 in
set_option maxRecDepth 100000 in
theorem c_X8_isWhy (l : Launch) (G : GG) (h_t h_t_text h_t_said h_t_many h_t_grades h_t_doubts h_t_vals h_t_waits h_t_fresh h_t_freshMany : Nat) (sz : Nat) (t_trace : Int64) (t_typed : Int32) (t_when : Int64) (t_then : Int64) (t_at : Int32) (t_token : Int32) (t_start : Int32) (t_valMany : Int32) (t_waitMany : Int32) (t_open : Int32) (t_saying : Int64) (t_quarrel : Int32) (t_said : Nat → Int64) (t_many : Nat → Int32) (a1 : Int32) (o : Int32) (ho : f_X8_isWhy t_then t_said t_many a1 = some o)  : Met l yX8_isWhy wsX8_isWhy ({ frames := 4, cells := 0, slots := 0, locals := 88 } : Room) (pcA G [.ref h_t, .int a1] [(h_t, .inr (8, [.long t_trace, .ref h_t_text, .int t_typed, .ref h_t_said, .ref h_t_many, .long t_when, .long t_then, .ref h_t_grades, .ref h_t_doubts, .int t_at, .int t_token, .int t_start, .ref h_t_vals, .ref h_t_waits, .int t_valMany, .int t_waitMany, .int t_open, .long t_saying, .ref h_t_fresh, .ref h_t_freshMany, .int t_quarrel])), (h_t_said, .inl (G.2.1.2.2, 45, .inr (.inl t_said))), (h_t_many, .inl (G.2.1.2.1, 5, .inl t_many))] sz) (qcI Unit G o (fun _ => True) (fun _ => [(h_t, .inr (8, [.long t_trace, .ref h_t_text, .int t_typed, .ref h_t_said, .ref h_t_many, .long t_when, .long t_then, .ref h_t_grades, .ref h_t_doubts, .int t_at, .int t_token, .int t_start, .ref h_t_vals, .ref h_t_waits, .int t_valMany, .int t_waitMany, .int t_open, .long t_saying, .ref h_t_fresh, .ref h_t_freshMany, .int t_quarrel])), (h_t_said, .inl (G.2.1.2.2, 45, .inr (.inl t_said))), (h_t_many, .inl (G.2.1.2.1, 5, .inl t_many))]) (va_A [(h_t, .inr (8, [.long t_trace, .ref h_t_text, .int t_typed, .ref h_t_said, .ref h_t_many, .long t_when, .long t_then, .ref h_t_grades, .ref h_t_doubts, .int t_at, .int t_token, .int t_start, .ref h_t_vals, .ref h_t_waits, .int t_valMany, .int t_waitMany, .int t_open, .long t_saying, .ref h_t_fresh, .ref h_t_freshMany, .int t_quarrel])), (h_t_said, .inl (G.2.1.2.2, 45, .inr (.inl t_said))), (h_t_many, .inl (G.2.1.2.1, 5, .inl t_many))] sz)) 0 0 (va_A [(h_t, .inr (8, [.long t_trace, .ref h_t_text, .int t_typed, .ref h_t_said, .ref h_t_many, .long t_when, .long t_then, .ref h_t_grades, .ref h_t_doubts, .int t_at, .int t_token, .int t_start, .ref h_t_vals, .ref h_t_waits, .int t_valMany, .int t_waitMany, .int t_open, .long t_saying, .ref h_t_fresh, .ref h_t_freshMany, .int t_quarrel])), (h_t_said, .inl (G.2.1.2.2, 45, .inr (.inl t_said))), (h_t_many, .inl (G.2.1.2.1, 5, .inl t_many))] sz) := by
  refine Met.ofW (cc := cX8_isWhy) (maxL := 4) (ret := (some .boolean)) (by decide) rfl ?_
  intro p e s m args below meth c s₁ B hml hv
  obtain ⟨rfl, hsz, hP, hg, hD0, hc⟩ := hv
  have hx := B.exec
  have hb := B.bytes
  have hr := B.returns
  have hts := atoms_spec (ws := wsX8_isWhy) B.pre
  have hown : s.vm.findClass RX8 = some m.cls := findClass_of_methodNamed B.named
  have hlocks := B.notSynchronized
  subst hsz
  have hD := hD0.self (sz := s.heap.size)
  generalize hAe : va_A [(h_t, .inr (8, [.long t_trace, .ref h_t_text, .int t_typed, .ref h_t_said, .ref h_t_many, .long t_when, .long t_then, .ref h_t_grades, .ref h_t_doubts, .int t_at, .int t_token, .int t_start, .ref h_t_vals, .ref h_t_waits, .int t_valMany, .int t_waitMany, .int t_open, .long t_saying, .ref h_t_fresh, .ref h_t_freshMany, .int t_quarrel])), (h_t_said, .inl (G.2.1.2.2, 45, .inr (.inl t_said))), (h_t_many, .inl (G.2.1.2.1, 5, .inl t_many))] s.heap.size = A at hD hc ⊢
  have hA : ∀ q : Nat, s.heap.size ≤ q → A q := fun q h => by rw [← hAe]; exact Or.inr h
  have hiX8 : ∀ w ∈ wsX80, w ∈ wsX8_isWhy := by decide +kernel
  have hl := lv_entry ([.ref h_t, .int a1]) (n := 4) (Nat.le_of_ble_eq_true rfl)
  rw [lg_entry_eq]
  generalize (lg_sl ([.ref h_t, .int a1]) ++ List.replicate (4 - (lg_sl ([.ref h_t, .int a1])).length) Slot.unset).toArray = ls at hl ⊢
  have hl : lv_has ls 4 [(0, .ref h_t), (1, .int a1)] := hl
  have hf := ho
  have hw_8 : ∀  (n : Nat) (v2 : Int32) (v3 : Int32), lp_X8_isWhy_8 t_then t_said t_many a1 n v2 v3 = some o → ∀ (H : Heap) (locs : List Loc), va_P G.1 vwCl [(h_t, .inr (8, [.long t_trace, .ref h_t_text, .int t_typed, .ref h_t_said, .ref h_t_many, .long t_when, .long t_then, .ref h_t_grades, .ref h_t_doubts, .int t_at, .int t_token, .int t_start, .ref h_t_vals, .ref h_t_waits, .int t_valMany, .int t_waitMany, .int t_open, .long t_saying, .ref h_t_fresh, .ref h_t_freshMany, .int t_quarrel])), (h_t_said, .inl (G.2.1.2.2, 45, .inr (.inl t_said))), (h_t_many, .inl (G.2.1.2.1, 5, .inl t_many))] H → va_D A [(h_t, .inr (8, [.long t_trace, .ref h_t_text, .int t_typed, .ref h_t_said, .ref h_t_many, .long t_when, .long t_then, .ref h_t_grades, .ref h_t_doubts, .int t_at, .int t_token, .int t_start, .ref h_t_vals, .ref h_t_waits, .int t_valMany, .int t_waitMany, .int t_open, .long t_saying, .ref h_t_fresh, .ref h_t_freshMany, .int t_quarrel])), (h_t_said, .inl (G.2.1.2.2, 45, .inr (.inl t_said))), (h_t_many, .inl (G.2.1.2.1, 5, .inl t_many))] → va_S A s.heap H locs → ∀ (ls : Array Slot), lv_has ls 4 [(0, .ref h_t), (1, .int a1), (2, .int v2), (3, .int v3)] → W p l e (headSpec wsX8_isWhy ({ frames := 4, cells := 0, slots := 0, locals := 88 } : Room)).room s m ([.ref h_t, .int a1] : List Value).toArray below meth c H locs 0 0 (MQ below (qcI Unit G o (fun _ => True) (fun _ => [(h_t, .inr (8, [.long t_trace, .ref h_t_text, .int t_typed, .ref h_t_said, .ref h_t_many, .long t_when, .long t_then, .ref h_t_grades, .ref h_t_doubts, .int t_at, .int t_token, .int t_start, .ref h_t_vals, .ref h_t_waits, .int t_valMany, .int t_waitMany, .int t_open, .long t_saying, .ref h_t_fresh, .ref h_t_freshMany, .int t_quarrel])), (h_t_said, .inl (G.2.1.2.2, 45, .inr (.inl t_said))), (h_t_many, .inl (G.2.1.2.1, 5, .inl t_many))]) A) ([.ref h_t, .int a1] : List Value).toArray s 0 0 A) (F0 m 8 ls []) := by
    intro n
    induction n with
    | zero =>
      intro v2 v3 hf
      exact absurd hf (by rw [lp_X8_isWhy_8]; intro h; cases h)
    | succ n ih =>
      intro v2 v3 hf H locs hP hD hS ls hl
      rw [lp_X8_isWhy_8] at hf
      refine lv_iload_n hx hb dX8_isWhy_8 rfl (lv_at hl 3 rfl) ?_
      refine lv_aload_n hx hb dX8_isWhy_9 rfl (lv_at hl 0 rfl) ?_
      refine va_get (D := G.1) (ci := 8) (v := .ref h_t_many) (C := RX8) (T := TX8) (N := 21) hx hb hts hiX8 hown hg.1 hP 0 rfl rfl 4 (by decide) (hts (.fieldLink RX8 17 "AsARuleModel" "many" "[I") (by decide +kernel)) (fun _ h9 => h9) rfl dX8_isWhy_10 ?_
      refine lv_iconst (v := (4 : Int32)) hx hb dX8_isWhy_13 (by decide) ?_
      refine va_iald hx hb hg.1 hP 2 1 rfl rfl (ib_in (gd_t hf)) dX8_isWhy_14 ?_
      have hf := gd_x hf
      refine lv_icmp_ge (tgt := 54) hx hb dX8_isWhy_15 (by decide) (fun c1 => ?_) (fun c1 => ?_)
      · have hf := it_t c1 hf
        refine lv_iload_n hx hb dX8_isWhy_54 rfl (lv_at hl 2 rfl) ?_
        have z2 := gd_t hf
        have hf := gd_x hf
        rw [← Option.some.inj hf]
        exact rt_z (u := ()) hx hb hr z2 hlocks hP hD trivial hS dX8_isWhy_55
      · have hf := it_f c1 hf
        refine lv_iload_n hx hb dX8_isWhy_18 rfl (lv_at hl 2 rfl) ?_
        refine lv_if_eq (tgt := 54) hx hb dX8_isWhy_19 (by decide) (fun c3 => ?_) (fun c3 => ?_)
        · have hf := it_t c3 hf
          refine lv_iload_n hx hb dX8_isWhy_54 rfl (lv_at hl 2 rfl) ?_
          have z4 := gd_t hf
          have hf := gd_x hf
          rw [← Option.some.inj hf]
          exact rt_z (u := ()) hx hb hr z4 hlocks hP hD trivial hS dX8_isWhy_55
        · have hf := it_f c3 hf
          refine lv_iload_n hx hb dX8_isWhy_22 rfl (lv_at hl 1 rfl) ?_
          refine lv_iload_n hx hb dX8_isWhy_23 rfl (lv_at hl 3 rfl) ?_
          refine lv_ishr hx hb dX8_isWhy_24 ?_
          refine lv_iconst (v := (1 : Int32)) hx hb dX8_isWhy_25 (by decide) ?_
          refine lv_iand hx hb dX8_isWhy_26 ?_
          refine lv_if_eq (tgt := 42) hx hb dX8_isWhy_27 (by decide) (fun c5 => ?_) (fun c5 => ?_)
          · have hf := it_t c5 hf
            refine lv_iconst (v := (1 : Int32)) hx hb dX8_isWhy_42 (by decide) ?_
            refine lv_goto (tgt := 47) hx hb dX8_isWhy_43 (by decide) ?_
            refine lv_istore_n (lv' := [(2, .int (1 : Int32)), (0, .ref h_t), (1, .int a1), (3, .int v3)]) hx hb dX8_isWhy_47 rfl hl (by decide) rfl (fun ls hl => ?_)
            obtain ⟨x6, ex6⟩ : ∃ y : Int32, y = (v3 + (1 : Int32)) := ⟨_, rfl⟩
            have hf := lt_n hf x6 ex6
            refine lv_iinc (v := x6) (lv' := [(3, .int x6), (2, .int (1 : Int32)), (0, .ref h_t), (1, .int a1)]) hx hb dX8_isWhy_48 hl (k := 3) rfl (by rw [ex6]; rfl) (by decide) rfl (fun ls hl => ?_)
            refine lv_goto (tgt := 8) hx hb dX8_isWhy_51 (by decide) ?_
            exact ih (1 : Int32) x6 hf _ _ hP hD hS _ (lv_sub hl [2, 3, 1, 0] rfl)
          · have hf := it_f c5 hf
            refine lv_aload_n hx hb dX8_isWhy_30 rfl (lv_at hl 0 rfl) ?_
            refine lv_iload_n hx hb dX8_isWhy_31 rfl (lv_at hl 1 rfl) ?_
            refine lv_iconst (v := (1 : Int32)) hx hb dX8_isWhy_32 (by decide) ?_
            refine lv_iload_n hx hb dX8_isWhy_33 rfl (lv_at hl 3 rfl) ?_
            refine lv_ishl hx hb dX8_isWhy_34 ?_
            refine lv_ixor hx hb dX8_isWhy_35 ?_
            obtain ⟨o7, ho7, hf⟩ := bd_e hf
            refine af_i (wr := []) (va_runV (As := [.int (a1 ^^^ ((1 : Int32) <<< (v3 &&& 31)))]) (rest := []) ⟨hx, hb, hml, hown, hts⟩ (c_X8_tells l G h_t h_t_text h_t_said h_t_many h_t_grades h_t_doubts h_t_vals h_t_waits h_t_fresh h_t_freshMany H.size t_trace t_typed t_when t_then t_at t_token t_start t_valMany t_waitMany t_open t_saying t_quarrel t_said t_many (a1 ^^^ ((1 : Int32) <<< (v3 &&& 31))) o7 ho7) (cwV 1 hts gX8_isWhy_X8_tells rfl rfl rfl (by decide +kernel) ⟨Nat.le_of_ble_eq_true rfl, Nat.le_of_ble_eq_true rfl⟩) (pcA_preV hg hc hP hD hS hA [0, 1, 2] rfl (by decide) (q0 := 0) (ci := 8) rfl rfl rfl) rfl rfl hl.1 rfl (lv_room (Nat.le_of_ble_eq_true rfl)) dX8_isWhy_36 ⟨Nat.zero_le _, Nat.zero_le _⟩) hP hD hS hA [0, 1, 2] [] rfl rfl (by decide) (by decide) (fun _ H locs _ hP hD hS => ?_)
            have hP : va_P G.1 vwCl [(h_t, .inr (8, [.long t_trace, .ref h_t_text, .int t_typed, .ref h_t_said, .ref h_t_many, .long t_when, .long t_then, .ref h_t_grades, .ref h_t_doubts, .int t_at, .int t_token, .int t_start, .ref h_t_vals, .ref h_t_waits, .int t_valMany, .int t_waitMany, .int t_open, .long t_saying, .ref h_t_fresh, .ref h_t_freshMany, .int t_quarrel])), (h_t_said, .inl (G.2.1.2.2, 45, .inr (.inl t_said))), (h_t_many, .inl (G.2.1.2.1, 5, .inl t_many))] H := hP
            have hD : va_D A [(h_t, .inr (8, [.long t_trace, .ref h_t_text, .int t_typed, .ref h_t_said, .ref h_t_many, .long t_when, .long t_then, .ref h_t_grades, .ref h_t_doubts, .int t_at, .int t_token, .int t_start, .ref h_t_vals, .ref h_t_waits, .int t_valMany, .int t_waitMany, .int t_open, .long t_saying, .ref h_t_fresh, .ref h_t_freshMany, .int t_quarrel])), (h_t_said, .inl (G.2.1.2.2, 45, .inr (.inl t_said))), (h_t_many, .inl (G.2.1.2.1, 5, .inl t_many))] := hD
            refine lv_if_ne (tgt := 46) hx hb dX8_isWhy_39 (by decide) (fun c8 => ?_) (fun c8 => ?_)
            · have hf := it_f c8 hf
              refine lv_iconst (v := (0 : Int32)) hx hb dX8_isWhy_46 (by decide) ?_
              refine lv_istore_n (lv' := [(2, .int (0 : Int32)), (0, .ref h_t), (1, .int a1), (3, .int v3)]) hx hb dX8_isWhy_47 rfl hl (by decide) rfl (fun ls hl => ?_)
              obtain ⟨x9, ex9⟩ : ∃ y : Int32, y = (v3 + (1 : Int32)) := ⟨_, rfl⟩
              have hf := lt_n hf x9 ex9
              refine lv_iinc (v := x9) (lv' := [(3, .int x9), (2, .int (0 : Int32)), (0, .ref h_t), (1, .int a1)]) hx hb dX8_isWhy_48 hl (k := 3) rfl (by rw [ex9]; rfl) (by decide) rfl (fun ls hl => ?_)
              refine lv_goto (tgt := 8) hx hb dX8_isWhy_51 (by decide) ?_
              exact ih (0 : Int32) x9 hf _ _ hP hD hS _ (lv_sub hl [2, 3, 1, 0] rfl)
            · have hf := it_t c8 hf
              refine lv_iconst (v := (1 : Int32)) hx hb dX8_isWhy_42 (by decide) ?_
              refine lv_goto (tgt := 47) hx hb dX8_isWhy_43 (by decide) ?_
              refine lv_istore_n (lv' := [(2, .int (1 : Int32)), (0, .ref h_t), (1, .int a1), (3, .int v3)]) hx hb dX8_isWhy_47 rfl hl (by decide) rfl (fun ls hl => ?_)
              obtain ⟨x10, ex10⟩ : ∃ y : Int32, y = (v3 + (1 : Int32)) := ⟨_, rfl⟩
              have hf := lt_n hf x10 ex10
              refine lv_iinc (v := x10) (lv' := [(3, .int x10), (2, .int (1 : Int32)), (0, .ref h_t), (1, .int a1)]) hx hb dX8_isWhy_48 hl (k := 3) rfl (by rw [ex10]; rfl) (by decide) rfl (fun ls hl => ?_)
              refine lv_goto (tgt := 8) hx hb dX8_isWhy_51 (by decide) ?_
              exact ih (1 : Int32) x10 hf _ _ hP hD hS _ (lv_sub hl [2, 3, 1, 0] rfl)
  unfold f_X8_isWhy at hf
  refine en (fun H locs hP hD hS => ?_) hP hD
  refine lv_aload_n hx hb dX8_isWhy_0 rfl (lv_at hl 0 rfl) ?_
  refine lv_iload_n hx hb dX8_isWhy_1 rfl (lv_at hl 1 rfl) ?_
  obtain ⟨o11, ho11, hf⟩ := bd_e hf
  refine af_i (wr := []) (va_runV (As := [.int a1]) (rest := []) ⟨hx, hb, hml, hown, hts⟩ (c_X8_tells l G h_t h_t_text h_t_said h_t_many h_t_grades h_t_doubts h_t_vals h_t_waits h_t_fresh h_t_freshMany H.size t_trace t_typed t_when t_then t_at t_token t_start t_valMany t_waitMany t_open t_saying t_quarrel t_said t_many a1 o11 ho11) (cwV 1 hts gX8_isWhy_X8_tells rfl rfl rfl (by decide +kernel) ⟨Nat.le_of_ble_eq_true rfl, Nat.le_of_ble_eq_true rfl⟩) (pcA_preV hg hc hP hD hS hA [0, 1, 2] rfl (by decide) (q0 := 0) (ci := 8) rfl rfl rfl) rfl rfl hl.1 rfl (lv_room (Nat.le_of_ble_eq_true rfl)) dX8_isWhy_2 ⟨Nat.zero_le _, Nat.zero_le _⟩) hP hD hS hA [0, 1, 2] [] rfl rfl (by decide) (by decide) (fun _ H locs _ hP hD hS => ?_)
  have hP : va_P G.1 vwCl [(h_t, .inr (8, [.long t_trace, .ref h_t_text, .int t_typed, .ref h_t_said, .ref h_t_many, .long t_when, .long t_then, .ref h_t_grades, .ref h_t_doubts, .int t_at, .int t_token, .int t_start, .ref h_t_vals, .ref h_t_waits, .int t_valMany, .int t_waitMany, .int t_open, .long t_saying, .ref h_t_fresh, .ref h_t_freshMany, .int t_quarrel])), (h_t_said, .inl (G.2.1.2.2, 45, .inr (.inl t_said))), (h_t_many, .inl (G.2.1.2.1, 5, .inl t_many))] H := hP
  have hD : va_D A [(h_t, .inr (8, [.long t_trace, .ref h_t_text, .int t_typed, .ref h_t_said, .ref h_t_many, .long t_when, .long t_then, .ref h_t_grades, .ref h_t_doubts, .int t_at, .int t_token, .int t_start, .ref h_t_vals, .ref h_t_waits, .int t_valMany, .int t_waitMany, .int t_open, .long t_saying, .ref h_t_fresh, .ref h_t_freshMany, .int t_quarrel])), (h_t_said, .inl (G.2.1.2.2, 45, .inr (.inl t_said))), (h_t_many, .inl (G.2.1.2.1, 5, .inl t_many))] := hD
  refine lv_istore_n (lv' := [(2, .int o11), (0, .ref h_t), (1, .int a1)]) hx hb dX8_isWhy_5 rfl hl (by decide) rfl (fun ls hl => ?_)
  refine lv_iconst (v := (0 : Int32)) hx hb dX8_isWhy_6 (by decide) ?_
  refine lv_istore_n (lv' := [(3, .int (0 : Int32)), (2, .int o11), (0, .ref h_t), (1, .int a1)]) hx hb dX8_isWhy_7 rfl hl (by decide) rfl (fun ls hl => ?_)
  exact hw_8 fu o11 (0 : Int32) hf _ _ hP hD hS _ (lv_sub hl [2, 3, 1, 0] rfl)
-- method X8_why
def jn_X8_why_79 (t_then : Int64) (t_said : Nat → Int64) (t_many : Nat → Int32) (a1 : Int32) (v2 : Int32) : Option (Int32) :=
  if a1 = (-1 : Int32) then some (v2) else some ((-1 : Int32))
def lp_X8_why_24 (t_then : Int64) (t_said : Nat → Int64) (t_many : Nat → Int32) (a1 : Int32) (k_11 : Int32 → Int32 → Option (Int32)) (v3 : Int32) : Nat → Int32 → Int32 → Option (Int32)
  | 0, _, _ => none
  | n + 1, v2, v4 => gd (ib (4 : Int32) 5) (if ((1 : Int32) <<< ((t_many (4 : Int32).toNatClampNeg) &&& 31)) ≤ v4 then lt (v3 + (1 : Int32)) (fun x3 => k_11 v2 x3) else bd (f_X8_sizeOf ((v4).toInt64)) (fun o4 => if o4 = v3 then bd (f_X8_isWhy t_then t_said t_many v4) (fun o7 => if o7 = (0 : Int32) then lt (v4 + (1 : Int32)) (fun x9 => lp_X8_why_24 t_then t_said t_many a1 k_11 v3 n v2 x9) else if v2 = a1 then some (v4) else lt (v2 + (1 : Int32)) (fun x11 => lt (v4 + (1 : Int32)) (fun x12 => lp_X8_why_24 t_then t_said t_many a1 k_11 v3 n x11 x12))) else lt (v4 + (1 : Int32)) (fun x6 => lp_X8_why_24 t_then t_said t_many a1 k_11 v3 n v2 x6)))
def lp_X8_why_11 (t_then : Int64) (t_said : Nat → Int64) (t_many : Nat → Int32) (a1 : Int32) : Nat → Int32 → Int32 → Option (Int32)
  | 0, _, _ => none
  | n + 1, v2, v3 => gd (ib (4 : Int32) 5) (if (t_many (4 : Int32).toNatClampNeg) < v3 then jn_X8_why_79 t_then t_said t_many a1 v2 else lp_X8_why_24 t_then t_said t_many a1 (fun v2 v3 => lp_X8_why_11 t_then t_said t_many a1 n v2 v3) v3 fu v2 (0 : Int32))
def f_X8_why (t_then : Int64) (t_said : Nat → Int64) (t_many : Nat → Int32) (a1 : Int32) : Option (Int32) :=
  if (-1 : Int32) ≤ a1 then lp_X8_why_11 t_then t_said t_many a1 fu (0 : Int32) (0 : Int32) else some ((-1 : Int32))
set_option maxHeartbeats 4000000 in
set_option maxRecDepth 100000 in
theorem c_X8_why (l : Launch) (G : GG) (h_t h_t_text h_t_said h_t_many h_t_grades h_t_doubts h_t_vals h_t_waits h_t_fresh h_t_freshMany : Nat) (sz : Nat) (t_trace : Int64) (t_typed : Int32) (t_when : Int64) (t_then : Int64) (t_at : Int32) (t_token : Int32) (t_start : Int32) (t_valMany : Int32) (t_waitMany : Int32) (t_open : Int32) (t_saying : Int64) (t_quarrel : Int32) (t_said : Nat → Int64) (t_many : Nat → Int32) (a1 : Int32) (o : Int32) (ho : f_X8_why t_then t_said t_many a1 = some o)  : Met l yX8_why wsX8_why ({ frames := 5, cells := 0, slots := 0, locals := 111 } : Room) (pcA G [.ref h_t, .int a1] [(h_t, .inr (8, [.long t_trace, .ref h_t_text, .int t_typed, .ref h_t_said, .ref h_t_many, .long t_when, .long t_then, .ref h_t_grades, .ref h_t_doubts, .int t_at, .int t_token, .int t_start, .ref h_t_vals, .ref h_t_waits, .int t_valMany, .int t_waitMany, .int t_open, .long t_saying, .ref h_t_fresh, .ref h_t_freshMany, .int t_quarrel])), (h_t_said, .inl (G.2.1.2.2, 45, .inr (.inl t_said))), (h_t_many, .inl (G.2.1.2.1, 5, .inl t_many))] sz) (qcI Unit G o (fun _ => True) (fun _ => [(h_t, .inr (8, [.long t_trace, .ref h_t_text, .int t_typed, .ref h_t_said, .ref h_t_many, .long t_when, .long t_then, .ref h_t_grades, .ref h_t_doubts, .int t_at, .int t_token, .int t_start, .ref h_t_vals, .ref h_t_waits, .int t_valMany, .int t_waitMany, .int t_open, .long t_saying, .ref h_t_fresh, .ref h_t_freshMany, .int t_quarrel])), (h_t_said, .inl (G.2.1.2.2, 45, .inr (.inl t_said))), (h_t_many, .inl (G.2.1.2.1, 5, .inl t_many))]) (va_A [(h_t, .inr (8, [.long t_trace, .ref h_t_text, .int t_typed, .ref h_t_said, .ref h_t_many, .long t_when, .long t_then, .ref h_t_grades, .ref h_t_doubts, .int t_at, .int t_token, .int t_start, .ref h_t_vals, .ref h_t_waits, .int t_valMany, .int t_waitMany, .int t_open, .long t_saying, .ref h_t_fresh, .ref h_t_freshMany, .int t_quarrel])), (h_t_said, .inl (G.2.1.2.2, 45, .inr (.inl t_said))), (h_t_many, .inl (G.2.1.2.1, 5, .inl t_many))] sz)) 0 0 (va_A [(h_t, .inr (8, [.long t_trace, .ref h_t_text, .int t_typed, .ref h_t_said, .ref h_t_many, .long t_when, .long t_then, .ref h_t_grades, .ref h_t_doubts, .int t_at, .int t_token, .int t_start, .ref h_t_vals, .ref h_t_waits, .int t_valMany, .int t_waitMany, .int t_open, .long t_saying, .ref h_t_fresh, .ref h_t_freshMany, .int t_quarrel])), (h_t_said, .inl (G.2.1.2.2, 45, .inr (.inl t_said))), (h_t_many, .inl (G.2.1.2.1, 5, .inl t_many))] sz) := by
  refine Met.ofW (cc := cX8_why) (maxL := 5) (ret := (some .int)) (by decide) rfl ?_
  intro p e s m args below meth c s₁ B hml hv
  obtain ⟨rfl, hsz, hP, hg, hD0, hc⟩ := hv
  have hx := B.exec
  have hb := B.bytes
  have hr := B.returns
  have hts := atoms_spec (ws := wsX8_why) B.pre
  have hown : s.vm.findClass RX8 = some m.cls := findClass_of_methodNamed B.named
  have hlocks := B.notSynchronized
  subst hsz
  have hD := hD0.self (sz := s.heap.size)
  generalize hAe : va_A [(h_t, .inr (8, [.long t_trace, .ref h_t_text, .int t_typed, .ref h_t_said, .ref h_t_many, .long t_when, .long t_then, .ref h_t_grades, .ref h_t_doubts, .int t_at, .int t_token, .int t_start, .ref h_t_vals, .ref h_t_waits, .int t_valMany, .int t_waitMany, .int t_open, .long t_saying, .ref h_t_fresh, .ref h_t_freshMany, .int t_quarrel])), (h_t_said, .inl (G.2.1.2.2, 45, .inr (.inl t_said))), (h_t_many, .inl (G.2.1.2.1, 5, .inl t_many))] s.heap.size = A at hD hc ⊢
  have hA : ∀ q : Nat, s.heap.size ≤ q → A q := fun q h => by rw [← hAe]; exact Or.inr h
  have hiX8 : ∀ w ∈ wsX80, w ∈ wsX8_why := by decide +kernel
  have hl := lv_entry ([.ref h_t, .int a1]) (n := 5) (Nat.le_of_ble_eq_true rfl)
  rw [lg_entry_eq]
  generalize (lg_sl ([.ref h_t, .int a1]) ++ List.replicate (5 - (lg_sl ([.ref h_t, .int a1])).length) Slot.unset).toArray = ls at hl ⊢
  have hl : lv_has ls 5 [(0, .ref h_t), (1, .int a1)] := hl
  have hf := ho
  have hw_79 : ∀ (v2 : Int32), jn_X8_why_79 t_then t_said t_many a1 v2 = some o → ∀ (H : Heap) (locs : List Loc), va_P G.1 vwCl [(h_t, .inr (8, [.long t_trace, .ref h_t_text, .int t_typed, .ref h_t_said, .ref h_t_many, .long t_when, .long t_then, .ref h_t_grades, .ref h_t_doubts, .int t_at, .int t_token, .int t_start, .ref h_t_vals, .ref h_t_waits, .int t_valMany, .int t_waitMany, .int t_open, .long t_saying, .ref h_t_fresh, .ref h_t_freshMany, .int t_quarrel])), (h_t_said, .inl (G.2.1.2.2, 45, .inr (.inl t_said))), (h_t_many, .inl (G.2.1.2.1, 5, .inl t_many))] H → va_D A [(h_t, .inr (8, [.long t_trace, .ref h_t_text, .int t_typed, .ref h_t_said, .ref h_t_many, .long t_when, .long t_then, .ref h_t_grades, .ref h_t_doubts, .int t_at, .int t_token, .int t_start, .ref h_t_vals, .ref h_t_waits, .int t_valMany, .int t_waitMany, .int t_open, .long t_saying, .ref h_t_fresh, .ref h_t_freshMany, .int t_quarrel])), (h_t_said, .inl (G.2.1.2.2, 45, .inr (.inl t_said))), (h_t_many, .inl (G.2.1.2.1, 5, .inl t_many))] → va_S A s.heap H locs → ∀ (ls : Array Slot), lv_has ls 5 [(1, .int a1), (2, .int v2)] → W p l e (headSpec wsX8_why ({ frames := 5, cells := 0, slots := 0, locals := 111 } : Room)).room s m ([.ref h_t, .int a1] : List Value).toArray below meth c H locs 0 0 (MQ below (qcI Unit G o (fun _ => True) (fun _ => [(h_t, .inr (8, [.long t_trace, .ref h_t_text, .int t_typed, .ref h_t_said, .ref h_t_many, .long t_when, .long t_then, .ref h_t_grades, .ref h_t_doubts, .int t_at, .int t_token, .int t_start, .ref h_t_vals, .ref h_t_waits, .int t_valMany, .int t_waitMany, .int t_open, .long t_saying, .ref h_t_fresh, .ref h_t_freshMany, .int t_quarrel])), (h_t_said, .inl (G.2.1.2.2, 45, .inr (.inl t_said))), (h_t_many, .inl (G.2.1.2.1, 5, .inl t_many))]) A) ([.ref h_t, .int a1] : List Value).toArray s 0 0 A) (F0 m 79 ls []) := by
    intro v2 hf H locs hP hD hS ls hl
    unfold jn_X8_why_79 at hf
    refine lv_iload_n hx hb dX8_why_79 rfl (lv_at hl 0 rfl) ?_
    refine lv_iconst (v := (-1 : Int32)) hx hb dX8_why_80 (by decide) ?_
    refine lv_icmp_ne (tgt := 88) hx hb dX8_why_81 (by decide) (fun c1 => ?_) (fun c1 => ?_)
    · have hf := it_f c1 hf
      refine lv_iconst (v := (-1 : Int32)) hx hb dX8_why_88 (by decide) ?_
      rw [← Option.some.inj hf]
      exact rt_i (u := ()) hx hb hr hlocks hP hD trivial hS dX8_why_89
    · have hf := it_t c1 hf
      refine lv_iload_n hx hb dX8_why_84 rfl (lv_at hl 1 rfl) ?_
      refine lv_goto (tgt := 89) hx hb dX8_why_85 (by decide) ?_
      rw [← Option.some.inj hf]
      exact rt_i (u := ()) hx hb hr hlocks hP hD trivial hS dX8_why_89
  have hw_24 : ∀ (k_11 : Int32 → Int32 → Option (Int32)) (hk_11 : ∀ (v2 : Int32) (v3 : Int32), k_11 v2 v3 = some o → ∀ (H : Heap) (locs : List Loc), va_P G.1 vwCl [(h_t, .inr (8, [.long t_trace, .ref h_t_text, .int t_typed, .ref h_t_said, .ref h_t_many, .long t_when, .long t_then, .ref h_t_grades, .ref h_t_doubts, .int t_at, .int t_token, .int t_start, .ref h_t_vals, .ref h_t_waits, .int t_valMany, .int t_waitMany, .int t_open, .long t_saying, .ref h_t_fresh, .ref h_t_freshMany, .int t_quarrel])), (h_t_said, .inl (G.2.1.2.2, 45, .inr (.inl t_said))), (h_t_many, .inl (G.2.1.2.1, 5, .inl t_many))] H → va_D A [(h_t, .inr (8, [.long t_trace, .ref h_t_text, .int t_typed, .ref h_t_said, .ref h_t_many, .long t_when, .long t_then, .ref h_t_grades, .ref h_t_doubts, .int t_at, .int t_token, .int t_start, .ref h_t_vals, .ref h_t_waits, .int t_valMany, .int t_waitMany, .int t_open, .long t_saying, .ref h_t_fresh, .ref h_t_freshMany, .int t_quarrel])), (h_t_said, .inl (G.2.1.2.2, 45, .inr (.inl t_said))), (h_t_many, .inl (G.2.1.2.1, 5, .inl t_many))] → va_S A s.heap H locs → ∀ (ls : Array Slot), lv_has ls 5 [(0, .ref h_t), (1, .int a1), (2, .int v2), (3, .int v3)] → W p l e (headSpec wsX8_why ({ frames := 5, cells := 0, slots := 0, locals := 111 } : Room)).room s m ([.ref h_t, .int a1] : List Value).toArray below meth c H locs 0 0 (MQ below (qcI Unit G o (fun _ => True) (fun _ => [(h_t, .inr (8, [.long t_trace, .ref h_t_text, .int t_typed, .ref h_t_said, .ref h_t_many, .long t_when, .long t_then, .ref h_t_grades, .ref h_t_doubts, .int t_at, .int t_token, .int t_start, .ref h_t_vals, .ref h_t_waits, .int t_valMany, .int t_waitMany, .int t_open, .long t_saying, .ref h_t_fresh, .ref h_t_freshMany, .int t_quarrel])), (h_t_said, .inl (G.2.1.2.2, 45, .inr (.inl t_said))), (h_t_many, .inl (G.2.1.2.1, 5, .inl t_many))]) A) ([.ref h_t, .int a1] : List Value).toArray s 0 0 A) (F0 m 11 ls [])) (v3 : Int32) (n : Nat) (v2 : Int32) (v4 : Int32), lp_X8_why_24 t_then t_said t_many a1 k_11 v3 n v2 v4 = some o → ∀ (H : Heap) (locs : List Loc), va_P G.1 vwCl [(h_t, .inr (8, [.long t_trace, .ref h_t_text, .int t_typed, .ref h_t_said, .ref h_t_many, .long t_when, .long t_then, .ref h_t_grades, .ref h_t_doubts, .int t_at, .int t_token, .int t_start, .ref h_t_vals, .ref h_t_waits, .int t_valMany, .int t_waitMany, .int t_open, .long t_saying, .ref h_t_fresh, .ref h_t_freshMany, .int t_quarrel])), (h_t_said, .inl (G.2.1.2.2, 45, .inr (.inl t_said))), (h_t_many, .inl (G.2.1.2.1, 5, .inl t_many))] H → va_D A [(h_t, .inr (8, [.long t_trace, .ref h_t_text, .int t_typed, .ref h_t_said, .ref h_t_many, .long t_when, .long t_then, .ref h_t_grades, .ref h_t_doubts, .int t_at, .int t_token, .int t_start, .ref h_t_vals, .ref h_t_waits, .int t_valMany, .int t_waitMany, .int t_open, .long t_saying, .ref h_t_fresh, .ref h_t_freshMany, .int t_quarrel])), (h_t_said, .inl (G.2.1.2.2, 45, .inr (.inl t_said))), (h_t_many, .inl (G.2.1.2.1, 5, .inl t_many))] → va_S A s.heap H locs → ∀ (ls : Array Slot), lv_has ls 5 [(0, .ref h_t), (1, .int a1), (2, .int v2), (3, .int v3), (4, .int v4)] → W p l e (headSpec wsX8_why ({ frames := 5, cells := 0, slots := 0, locals := 111 } : Room)).room s m ([.ref h_t, .int a1] : List Value).toArray below meth c H locs 0 0 (MQ below (qcI Unit G o (fun _ => True) (fun _ => [(h_t, .inr (8, [.long t_trace, .ref h_t_text, .int t_typed, .ref h_t_said, .ref h_t_many, .long t_when, .long t_then, .ref h_t_grades, .ref h_t_doubts, .int t_at, .int t_token, .int t_start, .ref h_t_vals, .ref h_t_waits, .int t_valMany, .int t_waitMany, .int t_open, .long t_saying, .ref h_t_fresh, .ref h_t_freshMany, .int t_quarrel])), (h_t_said, .inl (G.2.1.2.2, 45, .inr (.inl t_said))), (h_t_many, .inl (G.2.1.2.1, 5, .inl t_many))]) A) ([.ref h_t, .int a1] : List Value).toArray s 0 0 A) (F0 m 24 ls []) := by
    intro k_11 hk_11 v3
    intro n
    induction n with
    | zero =>
      intro v2 v4 hf
      exact absurd hf (by rw [lp_X8_why_24]; intro h; cases h)
    | succ n ih =>
      intro v2 v4 hf H locs hP hD hS ls hl
      rw [lp_X8_why_24] at hf
      refine lv_iload hx hb dX8_why_24 (lv_at hl 4 rfl) ?_
      refine lv_iconst (v := (1 : Int32)) hx hb dX8_why_26 (by decide) ?_
      refine lv_aload_n hx hb dX8_why_27 rfl (lv_at hl 0 rfl) ?_
      refine va_get (D := G.1) (ci := 8) (v := .ref h_t_many) (C := RX8) (T := TX8) (N := 21) hx hb hts hiX8 hown hg.1 hP 0 rfl rfl 4 (by decide) (hts (.fieldLink RX8 17 "AsARuleModel" "many" "[I") (by decide +kernel)) (fun _ h9 => h9) rfl dX8_why_28 ?_
      refine lv_iconst (v := (4 : Int32)) hx hb dX8_why_31 (by decide) ?_
      refine va_iald hx hb hg.1 hP 2 1 rfl rfl (ib_in (gd_t hf)) dX8_why_32 ?_
      have hf := gd_x hf
      refine lv_ishl hx hb dX8_why_33 ?_
      refine lv_icmp_ge (tgt := 73) hx hb dX8_why_34 (by decide) (fun c2 => ?_) (fun c2 => ?_)
      · have hf := it_t c2 hf
        obtain ⟨x3, ex3⟩ : ∃ y : Int32, y = (v3 + (1 : Int32)) := ⟨_, rfl⟩
        have hf := lt_n hf x3 ex3
        refine lv_iinc (v := x3) (lv' := [(3, .int x3), (0, .ref h_t), (1, .int a1), (2, .int v2), (4, .int v4)]) hx hb dX8_why_73 hl (k := 3) rfl (by rw [ex3]; rfl) (by decide) rfl (fun ls hl => ?_)
        refine lv_goto (tgt := 11) hx hb dX8_why_76 (by decide) ?_
        exact hk_11 v2 x3 hf _ _ hP hD hS _ (lv_sub hl [1, 2, 3, 0] rfl)
      · have hf := it_f c2 hf
        refine lv_iload hx hb dX8_why_37 (lv_at hl 4 rfl) ?_
        refine lv_i2l (v := (v4).toInt64) hx hb dX8_why_39 rfl ?_
        obtain ⟨o4, ho4, hf⟩ := bd_e hf
        refine af0_i (va_runS (As := [.long ((v4).toInt64)]) (rest := []) ⟨hx, hb, hml, hown, hts⟩ (c_X8_sizeOf l G H.size ((v4).toInt64) o4 ho4) (va_cwS 1 hts gX8_why_X8_sizeOf rfl rfl rfl (by decide +kernel) ⟨Nat.le_of_ble_eq_true rfl, Nat.le_of_ble_eq_true rfl⟩) (pcA_pre hg hc hP hD hS hA [] rfl rfl [.long ((v4).toInt64)]) rfl rfl hl.1 rfl (lv_room (Nat.le_of_ble_eq_true rfl)) dX8_why_40 ⟨Nat.zero_le _, Nat.zero_le _⟩) hP hD hS hA (fun H locs hP hD hS => ?_)
        refine lv_iload_n hx hb dX8_why_43 rfl (lv_at hl 3 rfl) ?_
        refine lv_icmp_ne (tgt := 67) hx hb dX8_why_44 (by decide) (fun c5 => ?_) (fun c5 => ?_)
        · have hf := it_f c5 hf
          obtain ⟨x6, ex6⟩ : ∃ y : Int32, y = (v4 + (1 : Int32)) := ⟨_, rfl⟩
          have hf := lt_n hf x6 ex6
          refine lv_iinc (v := x6) (lv' := [(4, .int x6), (0, .ref h_t), (1, .int a1), (2, .int v2), (3, .int v3)]) hx hb dX8_why_67 hl (k := 4) rfl (by rw [ex6]; rfl) (by decide) rfl (fun ls hl => ?_)
          refine lv_goto (tgt := 24) hx hb dX8_why_70 (by decide) ?_
          exact ih v2 x6 hf _ _ hP hD hS _ (lv_sub hl [1, 2, 3, 4, 0] rfl)
        · have hf := it_t c5 hf
          refine lv_aload_n hx hb dX8_why_47 rfl (lv_at hl 0 rfl) ?_
          refine lv_iload hx hb dX8_why_48 (lv_at hl 4 rfl) ?_
          obtain ⟨o7, ho7, hf⟩ := bd_e hf
          refine af_i (wr := []) (va_runV (As := [.int v4]) (rest := []) ⟨hx, hb, hml, hown, hts⟩ (c_X8_isWhy l G h_t h_t_text h_t_said h_t_many h_t_grades h_t_doubts h_t_vals h_t_waits h_t_fresh h_t_freshMany H.size t_trace t_typed t_when t_then t_at t_token t_start t_valMany t_waitMany t_open t_saying t_quarrel t_said t_many v4 o7 ho7) (cwV 1 hts gX8_why_X8_isWhy rfl rfl rfl (by decide +kernel) ⟨Nat.le_of_ble_eq_true rfl, Nat.le_of_ble_eq_true rfl⟩) (pcA_preV hg hc hP hD hS hA [0, 1, 2] rfl (by decide) (q0 := 0) (ci := 8) rfl rfl rfl) rfl rfl hl.1 rfl (lv_room (Nat.le_of_ble_eq_true rfl)) dX8_why_50 ⟨Nat.zero_le _, Nat.zero_le _⟩) hP hD hS hA [0, 1, 2] [] rfl rfl (by decide) (by decide) (fun _ H locs _ hP hD hS => ?_)
          have hP : va_P G.1 vwCl [(h_t, .inr (8, [.long t_trace, .ref h_t_text, .int t_typed, .ref h_t_said, .ref h_t_many, .long t_when, .long t_then, .ref h_t_grades, .ref h_t_doubts, .int t_at, .int t_token, .int t_start, .ref h_t_vals, .ref h_t_waits, .int t_valMany, .int t_waitMany, .int t_open, .long t_saying, .ref h_t_fresh, .ref h_t_freshMany, .int t_quarrel])), (h_t_said, .inl (G.2.1.2.2, 45, .inr (.inl t_said))), (h_t_many, .inl (G.2.1.2.1, 5, .inl t_many))] H := hP
          have hD : va_D A [(h_t, .inr (8, [.long t_trace, .ref h_t_text, .int t_typed, .ref h_t_said, .ref h_t_many, .long t_when, .long t_then, .ref h_t_grades, .ref h_t_doubts, .int t_at, .int t_token, .int t_start, .ref h_t_vals, .ref h_t_waits, .int t_valMany, .int t_waitMany, .int t_open, .long t_saying, .ref h_t_fresh, .ref h_t_freshMany, .int t_quarrel])), (h_t_said, .inl (G.2.1.2.2, 45, .inr (.inl t_said))), (h_t_many, .inl (G.2.1.2.1, 5, .inl t_many))] := hD
          refine lv_if_eq (tgt := 67) hx hb dX8_why_53 (by decide) (fun c8 => ?_) (fun c8 => ?_)
          · have hf := it_t c8 hf
            obtain ⟨x9, ex9⟩ : ∃ y : Int32, y = (v4 + (1 : Int32)) := ⟨_, rfl⟩
            have hf := lt_n hf x9 ex9
            refine lv_iinc (v := x9) (lv' := [(4, .int x9), (0, .ref h_t), (1, .int a1), (2, .int v2), (3, .int v3)]) hx hb dX8_why_67 hl (k := 4) rfl (by rw [ex9]; rfl) (by decide) rfl (fun ls hl => ?_)
            refine lv_goto (tgt := 24) hx hb dX8_why_70 (by decide) ?_
            exact ih v2 x9 hf _ _ hP hD hS _ (lv_sub hl [1, 2, 3, 4, 0] rfl)
          · have hf := it_f c8 hf
            refine lv_iload_n hx hb dX8_why_56 rfl (lv_at hl 2 rfl) ?_
            refine lv_iload_n hx hb dX8_why_57 rfl (lv_at hl 1 rfl) ?_
            refine lv_icmp_ne (tgt := 64) hx hb dX8_why_58 (by decide) (fun c10 => ?_) (fun c10 => ?_)
            · have hf := it_f c10 hf
              obtain ⟨x11, ex11⟩ : ∃ y : Int32, y = (v2 + (1 : Int32)) := ⟨_, rfl⟩
              have hf := lt_n hf x11 ex11
              refine lv_iinc (v := x11) (lv' := [(2, .int x11), (0, .ref h_t), (1, .int a1), (3, .int v3), (4, .int v4)]) hx hb dX8_why_64 hl (k := 2) rfl (by rw [ex11]; rfl) (by decide) rfl (fun ls hl => ?_)
              obtain ⟨x12, ex12⟩ : ∃ y : Int32, y = (v4 + (1 : Int32)) := ⟨_, rfl⟩
              have hf := lt_n hf x12 ex12
              refine lv_iinc (v := x12) (lv' := [(4, .int x12), (2, .int x11), (0, .ref h_t), (1, .int a1), (3, .int v3)]) hx hb dX8_why_67 hl (k := 4) rfl (by rw [ex12]; rfl) (by decide) rfl (fun ls hl => ?_)
              refine lv_goto (tgt := 24) hx hb dX8_why_70 (by decide) ?_
              exact ih x11 x12 hf _ _ hP hD hS _ (lv_sub hl [2, 3, 1, 4, 0] rfl)
            · have hf := it_t c10 hf
              refine lv_iload hx hb dX8_why_61 (lv_at hl 4 rfl) ?_
              rw [← Option.some.inj hf]
              exact rt_i (u := ()) hx hb hr hlocks hP hD trivial hS dX8_why_63
  have hw_11 : ∀  (n : Nat) (v2 : Int32) (v3 : Int32), lp_X8_why_11 t_then t_said t_many a1 n v2 v3 = some o → ∀ (H : Heap) (locs : List Loc), va_P G.1 vwCl [(h_t, .inr (8, [.long t_trace, .ref h_t_text, .int t_typed, .ref h_t_said, .ref h_t_many, .long t_when, .long t_then, .ref h_t_grades, .ref h_t_doubts, .int t_at, .int t_token, .int t_start, .ref h_t_vals, .ref h_t_waits, .int t_valMany, .int t_waitMany, .int t_open, .long t_saying, .ref h_t_fresh, .ref h_t_freshMany, .int t_quarrel])), (h_t_said, .inl (G.2.1.2.2, 45, .inr (.inl t_said))), (h_t_many, .inl (G.2.1.2.1, 5, .inl t_many))] H → va_D A [(h_t, .inr (8, [.long t_trace, .ref h_t_text, .int t_typed, .ref h_t_said, .ref h_t_many, .long t_when, .long t_then, .ref h_t_grades, .ref h_t_doubts, .int t_at, .int t_token, .int t_start, .ref h_t_vals, .ref h_t_waits, .int t_valMany, .int t_waitMany, .int t_open, .long t_saying, .ref h_t_fresh, .ref h_t_freshMany, .int t_quarrel])), (h_t_said, .inl (G.2.1.2.2, 45, .inr (.inl t_said))), (h_t_many, .inl (G.2.1.2.1, 5, .inl t_many))] → va_S A s.heap H locs → ∀ (ls : Array Slot), lv_has ls 5 [(0, .ref h_t), (1, .int a1), (2, .int v2), (3, .int v3)] → W p l e (headSpec wsX8_why ({ frames := 5, cells := 0, slots := 0, locals := 111 } : Room)).room s m ([.ref h_t, .int a1] : List Value).toArray below meth c H locs 0 0 (MQ below (qcI Unit G o (fun _ => True) (fun _ => [(h_t, .inr (8, [.long t_trace, .ref h_t_text, .int t_typed, .ref h_t_said, .ref h_t_many, .long t_when, .long t_then, .ref h_t_grades, .ref h_t_doubts, .int t_at, .int t_token, .int t_start, .ref h_t_vals, .ref h_t_waits, .int t_valMany, .int t_waitMany, .int t_open, .long t_saying, .ref h_t_fresh, .ref h_t_freshMany, .int t_quarrel])), (h_t_said, .inl (G.2.1.2.2, 45, .inr (.inl t_said))), (h_t_many, .inl (G.2.1.2.1, 5, .inl t_many))]) A) ([.ref h_t, .int a1] : List Value).toArray s 0 0 A) (F0 m 11 ls []) := by
    intro n
    induction n with
    | zero =>
      intro v2 v3 hf
      exact absurd hf (by rw [lp_X8_why_11]; intro h; cases h)
    | succ n ih =>
      intro v2 v3 hf H locs hP hD hS ls hl
      rw [lp_X8_why_11] at hf
      refine lv_iload_n hx hb dX8_why_11 rfl (lv_at hl 3 rfl) ?_
      refine lv_aload_n hx hb dX8_why_12 rfl (lv_at hl 0 rfl) ?_
      refine va_get (D := G.1) (ci := 8) (v := .ref h_t_many) (C := RX8) (T := TX8) (N := 21) hx hb hts hiX8 hown hg.1 hP 0 rfl rfl 4 (by decide) (hts (.fieldLink RX8 17 "AsARuleModel" "many" "[I") (by decide +kernel)) (fun _ h9 => h9) rfl dX8_why_13 ?_
      refine lv_iconst (v := (4 : Int32)) hx hb dX8_why_16 (by decide) ?_
      refine va_iald hx hb hg.1 hP 2 1 rfl rfl (ib_in (gd_t hf)) dX8_why_17 ?_
      have hf := gd_x hf
      refine lv_icmp_gt (tgt := 79) hx hb dX8_why_18 (by decide) (fun c13 => ?_) (fun c13 => ?_)
      · have hf := it_t c13 hf
        exact hw_79 v2 hf _ _ hP hD hS _ (lv_sub hl [1, 2] rfl)
      · have hf := it_f c13 hf
        refine lv_iconst (v := (0 : Int32)) hx hb dX8_why_21 (by decide) ?_
        refine lv_istore (lv' := [(4, .int (0 : Int32)), (0, .ref h_t), (1, .int a1), (2, .int v2), (3, .int v3)]) hx hb dX8_why_22 hl (by decide) rfl (fun ls hl => ?_)
        exact hw_24 _ ih v3 fu v2 (0 : Int32) hf _ _ hP hD hS _ (lv_sub hl [1, 2, 3, 4, 0] rfl)
  unfold f_X8_why at hf
  refine en (fun H locs hP hD hS => ?_) hP hD
  refine lv_iload_n hx hb dX8_why_0 rfl (lv_at hl 1 rfl) ?_
  refine lv_iconst (v := (-1 : Int32)) hx hb dX8_why_1 (by decide) ?_
  refine lv_icmp_ge (tgt := 7) hx hb dX8_why_2 (by decide) (fun c14 => ?_) (fun c14 => ?_)
  · have hf := it_t c14 hf
    refine lv_iconst (v := (0 : Int32)) hx hb dX8_why_7 (by decide) ?_
    refine lv_istore_n (lv' := [(2, .int (0 : Int32)), (0, .ref h_t), (1, .int a1)]) hx hb dX8_why_8 rfl hl (by decide) rfl (fun ls hl => ?_)
    refine lv_iconst (v := (0 : Int32)) hx hb dX8_why_9 (by decide) ?_
    refine lv_istore_n (lv' := [(3, .int (0 : Int32)), (2, .int (0 : Int32)), (0, .ref h_t), (1, .int a1)]) hx hb dX8_why_10 rfl hl (by decide) rfl (fun ls hl => ?_)
    exact hw_11 fu (0 : Int32) (0 : Int32) hf _ _ hP hD hS _ (lv_sub hl [2, 3, 1, 0] rfl)
  · have hf := it_f c14 hf
    refine lv_iconst (v := (-1 : Int32)) hx hb dX8_why_5 (by decide) ?_
    rw [← Option.some.inj hf]
    exact rt_i (u := ()) hx hb hr hlocks hP hD trivial hS dX8_why_6
-- method X8_plain
def lp_X8_plain_4 (t_doubts : Nat → Int32) : Nat → Int32 → Int32 → Option (Int32)
  | 0, _, _ => none
  | n + 1, v1, v2 => if (64 : Int32) ≤ v2 then some (v1) else gd (ib v2 64) (if (t_doubts v2.toNatClampNeg) = (0 : Int32) then lt (v1 + (1 : Int32)) (fun x5 => lt (v2 + (1 : Int32)) (fun x6 => lp_X8_plain_4 t_doubts n x5 x6)) else lt (v1 + (0 : Int32)) (fun x3 => lt (v2 + (1 : Int32)) (fun x4 => lp_X8_plain_4 t_doubts n x3 x4)))
def f_X8_plain (t_doubts : Nat → Int32) : Option (Int32) :=
  lp_X8_plain_4 t_doubts fu (0 : Int32) (0 : Int32)
set_option maxHeartbeats 4000000 in
set_option maxRecDepth 100000 in
theorem c_X8_plain (l : Launch) (G : GG) (h_t h_t_text h_t_said h_t_many h_t_grades h_t_doubts h_t_vals h_t_waits h_t_fresh h_t_freshMany : Nat) (sz : Nat) (t_trace : Int64) (t_typed : Int32) (t_when : Int64) (t_then : Int64) (t_at : Int32) (t_token : Int32) (t_start : Int32) (t_valMany : Int32) (t_waitMany : Int32) (t_open : Int32) (t_saying : Int64) (t_quarrel : Int32) (t_doubts : Nat → Int32)  (o : Int32) (ho : f_X8_plain t_doubts = some o)  : Met l yX8_plain wsX8_plain ({ frames := 0, cells := 0, slots := 0, locals := 0 } : Room) (pcA G [.ref h_t] [(h_t, .inr (8, [.long t_trace, .ref h_t_text, .int t_typed, .ref h_t_said, .ref h_t_many, .long t_when, .long t_then, .ref h_t_grades, .ref h_t_doubts, .int t_at, .int t_token, .int t_start, .ref h_t_vals, .ref h_t_waits, .int t_valMany, .int t_waitMany, .int t_open, .long t_saying, .ref h_t_fresh, .ref h_t_freshMany, .int t_quarrel])), (h_t_doubts, .inl (G.2.1.2.1, 64, .inl t_doubts))] sz) (qcI Unit G o (fun _ => True) (fun _ => [(h_t, .inr (8, [.long t_trace, .ref h_t_text, .int t_typed, .ref h_t_said, .ref h_t_many, .long t_when, .long t_then, .ref h_t_grades, .ref h_t_doubts, .int t_at, .int t_token, .int t_start, .ref h_t_vals, .ref h_t_waits, .int t_valMany, .int t_waitMany, .int t_open, .long t_saying, .ref h_t_fresh, .ref h_t_freshMany, .int t_quarrel])), (h_t_doubts, .inl (G.2.1.2.1, 64, .inl t_doubts))]) (va_A [(h_t, .inr (8, [.long t_trace, .ref h_t_text, .int t_typed, .ref h_t_said, .ref h_t_many, .long t_when, .long t_then, .ref h_t_grades, .ref h_t_doubts, .int t_at, .int t_token, .int t_start, .ref h_t_vals, .ref h_t_waits, .int t_valMany, .int t_waitMany, .int t_open, .long t_saying, .ref h_t_fresh, .ref h_t_freshMany, .int t_quarrel])), (h_t_doubts, .inl (G.2.1.2.1, 64, .inl t_doubts))] sz)) 0 0 (va_A [(h_t, .inr (8, [.long t_trace, .ref h_t_text, .int t_typed, .ref h_t_said, .ref h_t_many, .long t_when, .long t_then, .ref h_t_grades, .ref h_t_doubts, .int t_at, .int t_token, .int t_start, .ref h_t_vals, .ref h_t_waits, .int t_valMany, .int t_waitMany, .int t_open, .long t_saying, .ref h_t_fresh, .ref h_t_freshMany, .int t_quarrel])), (h_t_doubts, .inl (G.2.1.2.1, 64, .inl t_doubts))] sz) := by
  refine Met.ofW (cc := cX8_plain) (maxL := 3) (ret := (some .int)) (by decide) rfl ?_
  intro p e s m args below meth c s₁ B hml hv
  obtain ⟨rfl, hsz, hP, hg, hD0, hc⟩ := hv
  have hx := B.exec
  have hb := B.bytes
  have hr := B.returns
  have hts := atoms_spec (ws := wsX8_plain) B.pre
  have hown : s.vm.findClass RX8 = some m.cls := findClass_of_methodNamed B.named
  have hlocks := B.notSynchronized
  subst hsz
  have hD := hD0.self (sz := s.heap.size)
  generalize hAe : va_A [(h_t, .inr (8, [.long t_trace, .ref h_t_text, .int t_typed, .ref h_t_said, .ref h_t_many, .long t_when, .long t_then, .ref h_t_grades, .ref h_t_doubts, .int t_at, .int t_token, .int t_start, .ref h_t_vals, .ref h_t_waits, .int t_valMany, .int t_waitMany, .int t_open, .long t_saying, .ref h_t_fresh, .ref h_t_freshMany, .int t_quarrel])), (h_t_doubts, .inl (G.2.1.2.1, 64, .inl t_doubts))] s.heap.size = A at hD hc ⊢
  have hA : ∀ q : Nat, s.heap.size ≤ q → A q := fun q h => by rw [← hAe]; exact Or.inr h
  have hiX8 : ∀ w ∈ wsX80, w ∈ wsX8_plain := by decide +kernel
  have hl := lv_entry ([.ref h_t]) (n := 3) (Nat.le_of_ble_eq_true rfl)
  rw [lg_entry_eq]
  generalize (lg_sl ([.ref h_t]) ++ List.replicate (3 - (lg_sl ([.ref h_t])).length) Slot.unset).toArray = ls at hl ⊢
  have hl : lv_has ls 3 [(0, .ref h_t)] := hl
  have hf := ho
  have hw_4 : ∀  (n : Nat) (v1 : Int32) (v2 : Int32), lp_X8_plain_4 t_doubts n v1 v2 = some o → ∀ (H : Heap) (locs : List Loc), va_P G.1 vwCl [(h_t, .inr (8, [.long t_trace, .ref h_t_text, .int t_typed, .ref h_t_said, .ref h_t_many, .long t_when, .long t_then, .ref h_t_grades, .ref h_t_doubts, .int t_at, .int t_token, .int t_start, .ref h_t_vals, .ref h_t_waits, .int t_valMany, .int t_waitMany, .int t_open, .long t_saying, .ref h_t_fresh, .ref h_t_freshMany, .int t_quarrel])), (h_t_doubts, .inl (G.2.1.2.1, 64, .inl t_doubts))] H → va_D A [(h_t, .inr (8, [.long t_trace, .ref h_t_text, .int t_typed, .ref h_t_said, .ref h_t_many, .long t_when, .long t_then, .ref h_t_grades, .ref h_t_doubts, .int t_at, .int t_token, .int t_start, .ref h_t_vals, .ref h_t_waits, .int t_valMany, .int t_waitMany, .int t_open, .long t_saying, .ref h_t_fresh, .ref h_t_freshMany, .int t_quarrel])), (h_t_doubts, .inl (G.2.1.2.1, 64, .inl t_doubts))] → va_S A s.heap H locs → ∀ (ls : Array Slot), lv_has ls 3 [(0, .ref h_t), (1, .int v1), (2, .int v2)] → W p l e (headSpec wsX8_plain ({ frames := 0, cells := 0, slots := 0, locals := 0 } : Room)).room s m ([.ref h_t] : List Value).toArray below meth c H locs 0 0 (MQ below (qcI Unit G o (fun _ => True) (fun _ => [(h_t, .inr (8, [.long t_trace, .ref h_t_text, .int t_typed, .ref h_t_said, .ref h_t_many, .long t_when, .long t_then, .ref h_t_grades, .ref h_t_doubts, .int t_at, .int t_token, .int t_start, .ref h_t_vals, .ref h_t_waits, .int t_valMany, .int t_waitMany, .int t_open, .long t_saying, .ref h_t_fresh, .ref h_t_freshMany, .int t_quarrel])), (h_t_doubts, .inl (G.2.1.2.1, 64, .inl t_doubts))]) A) ([.ref h_t] : List Value).toArray s 0 0 A) (F0 m 4 ls []) := by
    intro n
    induction n with
    | zero =>
      intro v1 v2 hf
      exact absurd hf (by rw [lp_X8_plain_4]; intro h; cases h)
    | succ n ih =>
      intro v1 v2 hf H locs hP hD hS ls hl
      rw [lp_X8_plain_4] at hf
      refine lv_iload_n hx hb dX8_plain_4 rfl (lv_at hl 2 rfl) ?_
      refine lv_bipush (v := (64 : Int32)) hx hb dX8_plain_5 (by decide) ?_
      refine lv_icmp_ge (tgt := 33) hx hb dX8_plain_7 (by decide) (fun c1 => ?_) (fun c1 => ?_)
      · have hf := it_t c1 hf
        refine lv_iload_n hx hb dX8_plain_33 rfl (lv_at hl 1 rfl) ?_
        rw [← Option.some.inj hf]
        exact rt_i (u := ()) hx hb hr hlocks hP hD trivial hS dX8_plain_34
      · have hf := it_f c1 hf
        refine lv_iload_n hx hb dX8_plain_10 rfl (lv_at hl 1 rfl) ?_
        refine lv_aload_n hx hb dX8_plain_11 rfl (lv_at hl 0 rfl) ?_
        refine va_get (D := G.1) (ci := 8) (v := .ref h_t_doubts) (C := RX8) (T := TX8) (N := 21) hx hb hts hiX8 hown hg.1 hP 0 rfl rfl 8 (by decide) (hts (.fieldLink RX8 23 "AsARuleModel" "doubts" "[I") (by decide +kernel)) (fun _ h9 => h9) rfl dX8_plain_12 ?_
        refine lv_iload_n hx hb dX8_plain_15 rfl (lv_at hl 2 rfl) ?_
        refine va_iald hx hb hg.1 hP 1 1 rfl rfl (ib_in (gd_t hf)) dX8_plain_16 ?_
        have hf := gd_x hf
        refine lv_if_ne (tgt := 24) hx hb dX8_plain_17 (by decide) (fun c2 => ?_) (fun c2 => ?_)
        · have hf := it_f c2 hf
          refine lv_iconst (v := (0 : Int32)) hx hb dX8_plain_24 (by decide) ?_
          refine lv_iadd hx hb dX8_plain_25 ?_
          refine lv_topi (fun x3 ex3 => ?_)
          have hf := lt_n hf x3 ex3
          refine lv_istore_n (lv' := [(1, .int x3), (0, .ref h_t), (2, .int v2)]) hx hb dX8_plain_26 rfl hl (by decide) rfl (fun ls hl => ?_)
          obtain ⟨x4, ex4⟩ : ∃ y : Int32, y = (v2 + (1 : Int32)) := ⟨_, rfl⟩
          have hf := lt_n hf x4 ex4
          refine lv_iinc (v := x4) (lv' := [(2, .int x4), (1, .int x3), (0, .ref h_t)]) hx hb dX8_plain_27 hl (k := 2) rfl (by rw [ex4]; rfl) (by decide) rfl (fun ls hl => ?_)
          refine lv_goto (tgt := 4) hx hb dX8_plain_30 (by decide) ?_
          exact ih x3 x4 hf _ _ hP hD hS _ (lv_sub hl [2, 1, 0] rfl)
        · have hf := it_t c2 hf
          refine lv_iconst (v := (1 : Int32)) hx hb dX8_plain_20 (by decide) ?_
          refine lv_goto (tgt := 25) hx hb dX8_plain_21 (by decide) ?_
          refine lv_iadd hx hb dX8_plain_25 ?_
          refine lv_topi (fun x5 ex5 => ?_)
          have hf := lt_n hf x5 ex5
          refine lv_istore_n (lv' := [(1, .int x5), (0, .ref h_t), (2, .int v2)]) hx hb dX8_plain_26 rfl hl (by decide) rfl (fun ls hl => ?_)
          obtain ⟨x6, ex6⟩ : ∃ y : Int32, y = (v2 + (1 : Int32)) := ⟨_, rfl⟩
          have hf := lt_n hf x6 ex6
          refine lv_iinc (v := x6) (lv' := [(2, .int x6), (1, .int x5), (0, .ref h_t)]) hx hb dX8_plain_27 hl (k := 2) rfl (by rw [ex6]; rfl) (by decide) rfl (fun ls hl => ?_)
          refine lv_goto (tgt := 4) hx hb dX8_plain_30 (by decide) ?_
          exact ih x5 x6 hf _ _ hP hD hS _ (lv_sub hl [2, 1, 0] rfl)
  unfold f_X8_plain at hf
  refine en (fun H locs hP hD hS => ?_) hP hD
  refine lv_iconst (v := (0 : Int32)) hx hb dX8_plain_0 (by decide) ?_
  refine lv_istore_n (lv' := [(1, .int (0 : Int32)), (0, .ref h_t)]) hx hb dX8_plain_1 rfl hl (by decide) rfl (fun ls hl => ?_)
  refine lv_iconst (v := (0 : Int32)) hx hb dX8_plain_2 (by decide) ?_
  refine lv_istore_n (lv' := [(2, .int (0 : Int32)), (1, .int (0 : Int32)), (0, .ref h_t)]) hx hb dX8_plain_3 rfl hl (by decide) rfl (fun ls hl => ?_)
  exact hw_4 fu (0 : Int32) (0 : Int32) hf _ _ hP hD hS _ (lv_sub hl [2, 1, 0] rfl)
-- method X8_leastOf
def lp_X8_leastOf_7 (t_doubts : Nat → Int32) (a1 : Int64) : Nat → Int32 → Int32 → Option (Int32)
  | 0, _, _ => none
  | n + 1, v3, v4 => if (64 : Int32) ≤ v4 then some (v3) else gd (ib v4 64) (if (t_doubts v4.toNatClampNeg) < (0 : Int32) then lt (v4 + (1 : Int32)) (fun x3 => lp_X8_leastOf_7 t_doubts a1 n v3 x3) else bd (f_X8_has a1 v4) (fun o4 => if o4 = (0 : Int32) then lt (v4 + (1 : Int32)) (fun x6 => lp_X8_leastOf_7 t_doubts a1 n v3 x6) else gd (ib v4 64) (if v3 ≤ (t_doubts v4.toNatClampNeg) then lt (v4 + (1 : Int32)) (fun x8 => lp_X8_leastOf_7 t_doubts a1 n v3 x8) else gd (ib v4 64) (lt (t_doubts v4.toNatClampNeg) (fun x9 => lt (v4 + (1 : Int32)) (fun x10 => lp_X8_leastOf_7 t_doubts a1 n x9 x10))))))
def f_X8_leastOf (t_doubts : Nat → Int32) (a1 : Int64) : Option (Int32) :=
  lp_X8_leastOf_7 t_doubts a1 fu (1000 : Int32) (0 : Int32)
set_option maxHeartbeats 4000000 in
set_option maxRecDepth 100000 in
theorem c_X8_leastOf (l : Launch) (G : GG) (h_t h_t_text h_t_said h_t_many h_t_grades h_t_doubts h_t_vals h_t_waits h_t_fresh h_t_freshMany : Nat) (sz : Nat) (t_trace : Int64) (t_typed : Int32) (t_when : Int64) (t_then : Int64) (t_at : Int32) (t_token : Int32) (t_start : Int32) (t_valMany : Int32) (t_waitMany : Int32) (t_open : Int32) (t_saying : Int64) (t_quarrel : Int32) (t_doubts : Nat → Int32) (a1 : Int64) (o : Int32) (ho : f_X8_leastOf t_doubts a1 = some o)  : Met l yX8_leastOf wsX8_leastOf ({ frames := 1, cells := 0, slots := 0, locals := 22 } : Room) (pcA G [.ref h_t, .long a1] [(h_t, .inr (8, [.long t_trace, .ref h_t_text, .int t_typed, .ref h_t_said, .ref h_t_many, .long t_when, .long t_then, .ref h_t_grades, .ref h_t_doubts, .int t_at, .int t_token, .int t_start, .ref h_t_vals, .ref h_t_waits, .int t_valMany, .int t_waitMany, .int t_open, .long t_saying, .ref h_t_fresh, .ref h_t_freshMany, .int t_quarrel])), (h_t_doubts, .inl (G.2.1.2.1, 64, .inl t_doubts))] sz) (qcI Unit G o (fun _ => True) (fun _ => [(h_t, .inr (8, [.long t_trace, .ref h_t_text, .int t_typed, .ref h_t_said, .ref h_t_many, .long t_when, .long t_then, .ref h_t_grades, .ref h_t_doubts, .int t_at, .int t_token, .int t_start, .ref h_t_vals, .ref h_t_waits, .int t_valMany, .int t_waitMany, .int t_open, .long t_saying, .ref h_t_fresh, .ref h_t_freshMany, .int t_quarrel])), (h_t_doubts, .inl (G.2.1.2.1, 64, .inl t_doubts))]) (va_A [(h_t, .inr (8, [.long t_trace, .ref h_t_text, .int t_typed, .ref h_t_said, .ref h_t_many, .long t_when, .long t_then, .ref h_t_grades, .ref h_t_doubts, .int t_at, .int t_token, .int t_start, .ref h_t_vals, .ref h_t_waits, .int t_valMany, .int t_waitMany, .int t_open, .long t_saying, .ref h_t_fresh, .ref h_t_freshMany, .int t_quarrel])), (h_t_doubts, .inl (G.2.1.2.1, 64, .inl t_doubts))] sz)) 0 0 (va_A [(h_t, .inr (8, [.long t_trace, .ref h_t_text, .int t_typed, .ref h_t_said, .ref h_t_many, .long t_when, .long t_then, .ref h_t_grades, .ref h_t_doubts, .int t_at, .int t_token, .int t_start, .ref h_t_vals, .ref h_t_waits, .int t_valMany, .int t_waitMany, .int t_open, .long t_saying, .ref h_t_fresh, .ref h_t_freshMany, .int t_quarrel])), (h_t_doubts, .inl (G.2.1.2.1, 64, .inl t_doubts))] sz) := by
  refine Met.ofW (cc := cX8_leastOf) (maxL := 5) (ret := (some .int)) (by decide) rfl ?_
  intro p e s m args below meth c s₁ B hml hv
  obtain ⟨rfl, hsz, hP, hg, hD0, hc⟩ := hv
  have hx := B.exec
  have hb := B.bytes
  have hr := B.returns
  have hts := atoms_spec (ws := wsX8_leastOf) B.pre
  have hown : s.vm.findClass RX8 = some m.cls := findClass_of_methodNamed B.named
  have hlocks := B.notSynchronized
  subst hsz
  have hD := hD0.self (sz := s.heap.size)
  generalize hAe : va_A [(h_t, .inr (8, [.long t_trace, .ref h_t_text, .int t_typed, .ref h_t_said, .ref h_t_many, .long t_when, .long t_then, .ref h_t_grades, .ref h_t_doubts, .int t_at, .int t_token, .int t_start, .ref h_t_vals, .ref h_t_waits, .int t_valMany, .int t_waitMany, .int t_open, .long t_saying, .ref h_t_fresh, .ref h_t_freshMany, .int t_quarrel])), (h_t_doubts, .inl (G.2.1.2.1, 64, .inl t_doubts))] s.heap.size = A at hD hc ⊢
  have hA : ∀ q : Nat, s.heap.size ≤ q → A q := fun q h => by rw [← hAe]; exact Or.inr h
  have hiX8 : ∀ w ∈ wsX80, w ∈ wsX8_leastOf := by decide +kernel
  have hl := lv_entry ([.ref h_t, .long a1]) (n := 5) (Nat.le_of_ble_eq_true rfl)
  rw [lg_entry_eq]
  generalize (lg_sl ([.ref h_t, .long a1]) ++ List.replicate (5 - (lg_sl ([.ref h_t, .long a1])).length) Slot.unset).toArray = ls at hl ⊢
  have hl : lv_has ls 5 [(0, .ref h_t), (1, .long a1)] := hl
  have hf := ho
  have hw_7 : ∀  (n : Nat) (v3 : Int32) (v4 : Int32), lp_X8_leastOf_7 t_doubts a1 n v3 v4 = some o → ∀ (H : Heap) (locs : List Loc), va_P G.1 vwCl [(h_t, .inr (8, [.long t_trace, .ref h_t_text, .int t_typed, .ref h_t_said, .ref h_t_many, .long t_when, .long t_then, .ref h_t_grades, .ref h_t_doubts, .int t_at, .int t_token, .int t_start, .ref h_t_vals, .ref h_t_waits, .int t_valMany, .int t_waitMany, .int t_open, .long t_saying, .ref h_t_fresh, .ref h_t_freshMany, .int t_quarrel])), (h_t_doubts, .inl (G.2.1.2.1, 64, .inl t_doubts))] H → va_D A [(h_t, .inr (8, [.long t_trace, .ref h_t_text, .int t_typed, .ref h_t_said, .ref h_t_many, .long t_when, .long t_then, .ref h_t_grades, .ref h_t_doubts, .int t_at, .int t_token, .int t_start, .ref h_t_vals, .ref h_t_waits, .int t_valMany, .int t_waitMany, .int t_open, .long t_saying, .ref h_t_fresh, .ref h_t_freshMany, .int t_quarrel])), (h_t_doubts, .inl (G.2.1.2.1, 64, .inl t_doubts))] → va_S A s.heap H locs → ∀ (ls : Array Slot), lv_has ls 5 [(0, .ref h_t), (1, .long a1), (3, .int v3), (4, .int v4)] → W p l e (headSpec wsX8_leastOf ({ frames := 1, cells := 0, slots := 0, locals := 22 } : Room)).room s m ([.ref h_t, .long a1] : List Value).toArray below meth c H locs 0 0 (MQ below (qcI Unit G o (fun _ => True) (fun _ => [(h_t, .inr (8, [.long t_trace, .ref h_t_text, .int t_typed, .ref h_t_said, .ref h_t_many, .long t_when, .long t_then, .ref h_t_grades, .ref h_t_doubts, .int t_at, .int t_token, .int t_start, .ref h_t_vals, .ref h_t_waits, .int t_valMany, .int t_waitMany, .int t_open, .long t_saying, .ref h_t_fresh, .ref h_t_freshMany, .int t_quarrel])), (h_t_doubts, .inl (G.2.1.2.1, 64, .inl t_doubts))]) A) ([.ref h_t, .long a1] : List Value).toArray s 0 0 A) (F0 m 7 ls []) := by
    intro n
    induction n with
    | zero =>
      intro v3 v4 hf
      exact absurd hf (by rw [lp_X8_leastOf_7]; intro h; cases h)
    | succ n ih =>
      intro v3 v4 hf H locs hP hD hS ls hl
      rw [lp_X8_leastOf_7] at hf
      refine lv_iload hx hb dX8_leastOf_7 (lv_at hl 3 rfl) ?_
      refine lv_bipush (v := (64 : Int32)) hx hb dX8_leastOf_9 (by decide) ?_
      refine lv_icmp_ge (tgt := 62) hx hb dX8_leastOf_11 (by decide) (fun c1 => ?_) (fun c1 => ?_)
      · have hf := it_t c1 hf
        refine lv_iload_n hx hb dX8_leastOf_62 rfl (lv_at hl 2 rfl) ?_
        rw [← Option.some.inj hf]
        exact rt_i (u := ()) hx hb hr hlocks hP hD trivial hS dX8_leastOf_63
      · have hf := it_f c1 hf
        refine lv_aload_n hx hb dX8_leastOf_14 rfl (lv_at hl 0 rfl) ?_
        refine va_get (D := G.1) (ci := 8) (v := .ref h_t_doubts) (C := RX8) (T := TX8) (N := 21) hx hb hts hiX8 hown hg.1 hP 0 rfl rfl 8 (by decide) (hts (.fieldLink RX8 23 "AsARuleModel" "doubts" "[I") (by decide +kernel)) (fun _ h9 => h9) rfl dX8_leastOf_15 ?_
        refine lv_iload hx hb dX8_leastOf_18 (lv_at hl 3 rfl) ?_
        refine va_iald hx hb hg.1 hP 1 1 rfl rfl (ib_in (gd_t hf)) dX8_leastOf_20 ?_
        have hf := gd_x hf
        refine lv_if_lt (tgt := 54) hx hb dX8_leastOf_21 (by decide) (fun c2 => ?_) (fun c2 => ?_)
        · have hf := it_t c2 hf
          refine lv_iload_n hx hb dX8_leastOf_54 rfl (lv_at hl 2 rfl) ?_
          refine lv_istore_n (lv' := [(3, .int v3), (0, .ref h_t), (1, .long a1), (4, .int v4)]) hx hb dX8_leastOf_55 rfl hl (by decide) rfl (fun ls hl => ?_)
          obtain ⟨x3, ex3⟩ : ∃ y : Int32, y = (v4 + (1 : Int32)) := ⟨_, rfl⟩
          have hf := lt_n hf x3 ex3
          refine lv_iinc (v := x3) (lv' := [(4, .int x3), (3, .int v3), (0, .ref h_t), (1, .long a1)]) hx hb dX8_leastOf_56 hl (k := 3) rfl (by rw [ex3]; rfl) (by decide) rfl (fun ls hl => ?_)
          refine lv_goto (tgt := 7) hx hb dX8_leastOf_59 (by decide) ?_
          exact ih v3 x3 hf _ _ hP hD hS _ (lv_sub hl [2, 3, 1, 0] rfl)
        · have hf := it_f c2 hf
          refine lv_lload_n hx hb dX8_leastOf_24 rfl (lv_at hl 1 rfl) ?_
          refine lv_iload hx hb dX8_leastOf_25 (lv_at hl 3 rfl) ?_
          obtain ⟨o4, ho4, hf⟩ := bd_e hf
          refine af0_i (va_runS (As := [.long a1, .int v4]) (rest := []) ⟨hx, hb, hml, hown, hts⟩ (c_X8_has l G H.size a1 v4 o4 ho4) (va_cwS 2 hts gX8_leastOf_X8_has rfl rfl rfl (by decide +kernel) ⟨Nat.le_of_ble_eq_true rfl, Nat.le_of_ble_eq_true rfl⟩) (pcA_pre hg hc hP hD hS hA [] rfl rfl [.long a1, .int v4]) rfl rfl hl.1 rfl (lv_room (Nat.le_of_ble_eq_true rfl)) dX8_leastOf_27 ⟨Nat.zero_le _, Nat.zero_le _⟩) hP hD hS hA (fun H locs hP hD hS => ?_)
          refine lv_if_eq (tgt := 54) hx hb dX8_leastOf_30 (by decide) (fun c5 => ?_) (fun c5 => ?_)
          · have hf := it_t c5 hf
            refine lv_iload_n hx hb dX8_leastOf_54 rfl (lv_at hl 2 rfl) ?_
            refine lv_istore_n (lv' := [(3, .int v3), (0, .ref h_t), (1, .long a1), (4, .int v4)]) hx hb dX8_leastOf_55 rfl hl (by decide) rfl (fun ls hl => ?_)
            obtain ⟨x6, ex6⟩ : ∃ y : Int32, y = (v4 + (1 : Int32)) := ⟨_, rfl⟩
            have hf := lt_n hf x6 ex6
            refine lv_iinc (v := x6) (lv' := [(4, .int x6), (3, .int v3), (0, .ref h_t), (1, .long a1)]) hx hb dX8_leastOf_56 hl (k := 3) rfl (by rw [ex6]; rfl) (by decide) rfl (fun ls hl => ?_)
            refine lv_goto (tgt := 7) hx hb dX8_leastOf_59 (by decide) ?_
            exact ih v3 x6 hf _ _ hP hD hS _ (lv_sub hl [2, 3, 1, 0] rfl)
          · have hf := it_f c5 hf
            refine lv_aload_n hx hb dX8_leastOf_33 rfl (lv_at hl 0 rfl) ?_
            refine va_get (D := G.1) (ci := 8) (v := .ref h_t_doubts) (C := RX8) (T := TX8) (N := 21) hx hb hts hiX8 hown hg.1 hP 0 rfl rfl 8 (by decide) (hts (.fieldLink RX8 23 "AsARuleModel" "doubts" "[I") (by decide +kernel)) (fun _ h9 => h9) rfl dX8_leastOf_34 ?_
            refine lv_iload hx hb dX8_leastOf_37 (lv_at hl 3 rfl) ?_
            refine va_iald hx hb hg.1 hP 1 1 rfl rfl (ib_in (gd_t hf)) dX8_leastOf_39 ?_
            have hf := gd_x hf
            refine lv_iload_n hx hb dX8_leastOf_40 rfl (lv_at hl 2 rfl) ?_
            refine lv_icmp_ge (tgt := 54) hx hb dX8_leastOf_41 (by decide) (fun c7 => ?_) (fun c7 => ?_)
            · have hf := it_t c7 hf
              refine lv_iload_n hx hb dX8_leastOf_54 rfl (lv_at hl 2 rfl) ?_
              refine lv_istore_n (lv' := [(3, .int v3), (0, .ref h_t), (1, .long a1), (4, .int v4)]) hx hb dX8_leastOf_55 rfl hl (by decide) rfl (fun ls hl => ?_)
              obtain ⟨x8, ex8⟩ : ∃ y : Int32, y = (v4 + (1 : Int32)) := ⟨_, rfl⟩
              have hf := lt_n hf x8 ex8
              refine lv_iinc (v := x8) (lv' := [(4, .int x8), (3, .int v3), (0, .ref h_t), (1, .long a1)]) hx hb dX8_leastOf_56 hl (k := 3) rfl (by rw [ex8]; rfl) (by decide) rfl (fun ls hl => ?_)
              refine lv_goto (tgt := 7) hx hb dX8_leastOf_59 (by decide) ?_
              exact ih v3 x8 hf _ _ hP hD hS _ (lv_sub hl [2, 3, 1, 0] rfl)
            · have hf := it_f c7 hf
              refine lv_aload_n hx hb dX8_leastOf_44 rfl (lv_at hl 0 rfl) ?_
              refine va_get (D := G.1) (ci := 8) (v := .ref h_t_doubts) (C := RX8) (T := TX8) (N := 21) hx hb hts hiX8 hown hg.1 hP 0 rfl rfl 8 (by decide) (hts (.fieldLink RX8 23 "AsARuleModel" "doubts" "[I") (by decide +kernel)) (fun _ h9 => h9) rfl dX8_leastOf_45 ?_
              refine lv_iload hx hb dX8_leastOf_48 (lv_at hl 3 rfl) ?_
              refine va_iald hx hb hg.1 hP 1 1 rfl rfl (ib_in (gd_t hf)) dX8_leastOf_50 ?_
              have hf := gd_x hf
              refine lv_goto (tgt := 55) hx hb dX8_leastOf_51 (by decide) ?_
              refine lv_topi (fun x9 ex9 => ?_)
              have hf := lt_n hf x9 ex9
              refine lv_istore_n (lv' := [(3, .int x9), (0, .ref h_t), (1, .long a1), (4, .int v4)]) hx hb dX8_leastOf_55 rfl hl (by decide) rfl (fun ls hl => ?_)
              obtain ⟨x10, ex10⟩ : ∃ y : Int32, y = (v4 + (1 : Int32)) := ⟨_, rfl⟩
              have hf := lt_n hf x10 ex10
              refine lv_iinc (v := x10) (lv' := [(4, .int x10), (3, .int x9), (0, .ref h_t), (1, .long a1)]) hx hb dX8_leastOf_56 hl (k := 3) rfl (by rw [ex10]; rfl) (by decide) rfl (fun ls hl => ?_)
              refine lv_goto (tgt := 7) hx hb dX8_leastOf_59 (by decide) ?_
              exact ih x9 x10 hf _ _ hP hD hS _ (lv_sub hl [2, 3, 1, 0] rfl)
  unfold f_X8_leastOf at hf
  refine en (fun H locs hP hD hS => ?_) hP hD
  refine lv_sipush (v := (1000 : Int32)) hx hb dX8_leastOf_0 (by decide) ?_
  refine lv_istore_n (lv' := [(3, .int (1000 : Int32)), (0, .ref h_t), (1, .long a1)]) hx hb dX8_leastOf_3 rfl hl (by decide) rfl (fun ls hl => ?_)
  refine lv_iconst (v := (0 : Int32)) hx hb dX8_leastOf_4 (by decide) ?_
  refine lv_istore (lv' := [(4, .int (0 : Int32)), (3, .int (1000 : Int32)), (0, .ref h_t), (1, .long a1)]) hx hb dX8_leastOf_5 hl (by decide) rfl (fun ls hl => ?_)
  exact hw_7 fu (1000 : Int32) (0 : Int32) hf _ _ hP hD hS _ (lv_sub hl [2, 3, 1, 0] rfl)
-- method X8_doubt
def f_X8_doubt (t_doubts : Nat → Int32) (a1 : Int32) : Option (Int32) :=
  bd (f_X8_isWorld a1) (fun o1 => if o1 = (0 : Int32) then some ((-1 : Int32)) else gd (ib a1 64) (some ((t_doubts a1.toNatClampNeg))))
set_option maxHeartbeats 4000000 in
set_option maxRecDepth 100000 in
theorem c_X8_doubt (l : Launch) (G : GG) (h_t h_t_text h_t_said h_t_many h_t_grades h_t_doubts h_t_vals h_t_waits h_t_fresh h_t_freshMany : Nat) (sz : Nat) (t_trace : Int64) (t_typed : Int32) (t_when : Int64) (t_then : Int64) (t_at : Int32) (t_token : Int32) (t_start : Int32) (t_valMany : Int32) (t_waitMany : Int32) (t_open : Int32) (t_saying : Int64) (t_quarrel : Int32) (t_doubts : Nat → Int32) (a1 : Int32) (o : Int32) (ho : f_X8_doubt t_doubts a1 = some o)  : Met l yX8_doubt wsX8_doubt ({ frames := 2, cells := 0, slots := 0, locals := 45 } : Room) (pcA G [.ref h_t, .int a1] [(h_t, .inr (8, [.long t_trace, .ref h_t_text, .int t_typed, .ref h_t_said, .ref h_t_many, .long t_when, .long t_then, .ref h_t_grades, .ref h_t_doubts, .int t_at, .int t_token, .int t_start, .ref h_t_vals, .ref h_t_waits, .int t_valMany, .int t_waitMany, .int t_open, .long t_saying, .ref h_t_fresh, .ref h_t_freshMany, .int t_quarrel])), (h_t_doubts, .inl (G.2.1.2.1, 64, .inl t_doubts))] sz) (qcI Unit G o (fun _ => True) (fun _ => [(h_t, .inr (8, [.long t_trace, .ref h_t_text, .int t_typed, .ref h_t_said, .ref h_t_many, .long t_when, .long t_then, .ref h_t_grades, .ref h_t_doubts, .int t_at, .int t_token, .int t_start, .ref h_t_vals, .ref h_t_waits, .int t_valMany, .int t_waitMany, .int t_open, .long t_saying, .ref h_t_fresh, .ref h_t_freshMany, .int t_quarrel])), (h_t_doubts, .inl (G.2.1.2.1, 64, .inl t_doubts))]) (va_A [(h_t, .inr (8, [.long t_trace, .ref h_t_text, .int t_typed, .ref h_t_said, .ref h_t_many, .long t_when, .long t_then, .ref h_t_grades, .ref h_t_doubts, .int t_at, .int t_token, .int t_start, .ref h_t_vals, .ref h_t_waits, .int t_valMany, .int t_waitMany, .int t_open, .long t_saying, .ref h_t_fresh, .ref h_t_freshMany, .int t_quarrel])), (h_t_doubts, .inl (G.2.1.2.1, 64, .inl t_doubts))] sz)) 0 0 (va_A [(h_t, .inr (8, [.long t_trace, .ref h_t_text, .int t_typed, .ref h_t_said, .ref h_t_many, .long t_when, .long t_then, .ref h_t_grades, .ref h_t_doubts, .int t_at, .int t_token, .int t_start, .ref h_t_vals, .ref h_t_waits, .int t_valMany, .int t_waitMany, .int t_open, .long t_saying, .ref h_t_fresh, .ref h_t_freshMany, .int t_quarrel])), (h_t_doubts, .inl (G.2.1.2.1, 64, .inl t_doubts))] sz) := by
  refine Met.ofW (cc := cX8_doubt) (maxL := 2) (ret := (some .int)) (by decide) rfl ?_
  intro p e s m args below meth c s₁ B hml hv
  obtain ⟨rfl, hsz, hP, hg, hD0, hc⟩ := hv
  have hx := B.exec
  have hb := B.bytes
  have hr := B.returns
  have hts := atoms_spec (ws := wsX8_doubt) B.pre
  have hown : s.vm.findClass RX8 = some m.cls := findClass_of_methodNamed B.named
  have hlocks := B.notSynchronized
  subst hsz
  have hD := hD0.self (sz := s.heap.size)
  generalize hAe : va_A [(h_t, .inr (8, [.long t_trace, .ref h_t_text, .int t_typed, .ref h_t_said, .ref h_t_many, .long t_when, .long t_then, .ref h_t_grades, .ref h_t_doubts, .int t_at, .int t_token, .int t_start, .ref h_t_vals, .ref h_t_waits, .int t_valMany, .int t_waitMany, .int t_open, .long t_saying, .ref h_t_fresh, .ref h_t_freshMany, .int t_quarrel])), (h_t_doubts, .inl (G.2.1.2.1, 64, .inl t_doubts))] s.heap.size = A at hD hc ⊢
  have hA : ∀ q : Nat, s.heap.size ≤ q → A q := fun q h => by rw [← hAe]; exact Or.inr h
  have hiX8 : ∀ w ∈ wsX80, w ∈ wsX8_doubt := by decide +kernel
  have hl := lv_entry ([.ref h_t, .int a1]) (n := 2) (Nat.le_of_ble_eq_true rfl)
  rw [lg_entry_eq]
  generalize (lg_sl ([.ref h_t, .int a1]) ++ List.replicate (2 - (lg_sl ([.ref h_t, .int a1])).length) Slot.unset).toArray = ls at hl ⊢
  have hl : lv_has ls 2 [(0, .ref h_t), (1, .int a1)] := hl
  have hf := ho
  unfold f_X8_doubt at hf
  refine en (fun H locs hP hD hS => ?_) hP hD
  refine lv_iload_n hx hb dX8_doubt_0 rfl (lv_at hl 1 rfl) ?_
  obtain ⟨o1, ho1, hf⟩ := bd_e hf
  refine af0_i (va_runS (As := [.int a1]) (rest := []) ⟨hx, hb, hml, hown, hts⟩ (c_X8_isWorld l G H.size a1 o1 ho1) (va_cwS 1 hts gX8_doubt_X8_isWorld rfl rfl rfl (by decide +kernel) ⟨Nat.le_of_ble_eq_true rfl, Nat.le_of_ble_eq_true rfl⟩) (pcA_pre hg hc hP hD hS hA [] rfl rfl [.int a1]) rfl rfl hl.1 rfl (lv_room (Nat.le_of_ble_eq_true rfl)) dX8_doubt_1 ⟨Nat.zero_le _, Nat.zero_le _⟩) hP hD hS hA (fun H locs hP hD hS => ?_)
  refine lv_if_eq (tgt := 16) hx hb dX8_doubt_4 (by decide) (fun c2 => ?_) (fun c2 => ?_)
  · have hf := it_t c2 hf
    refine lv_iconst (v := (-1 : Int32)) hx hb dX8_doubt_16 (by decide) ?_
    rw [← Option.some.inj hf]
    exact rt_i (u := ()) hx hb hr hlocks hP hD trivial hS dX8_doubt_17
  · have hf := it_f c2 hf
    refine lv_aload_n hx hb dX8_doubt_7 rfl (lv_at hl 0 rfl) ?_
    refine va_get (D := G.1) (ci := 8) (v := .ref h_t_doubts) (C := RX8) (T := TX8) (N := 21) hx hb hts hiX8 hown hg.1 hP 0 rfl rfl 8 (by decide) (hts (.fieldLink RX8 23 "AsARuleModel" "doubts" "[I") (by decide +kernel)) (fun _ h9 => h9) rfl dX8_doubt_8 ?_
    refine lv_iload_n hx hb dX8_doubt_11 rfl (lv_at hl 1 rfl) ?_
    refine va_iald hx hb hg.1 hP 1 1 rfl rfl (ib_in (gd_t hf)) dX8_doubt_12 ?_
    have hf := gd_x hf
    refine lv_goto (tgt := 17) hx hb dX8_doubt_13 (by decide) ?_
    rw [← Option.some.inj hf]
    exact rt_i (u := ()) hx hb hr hlocks hP hD trivial hS dX8_doubt_17
-- method X8_learn
def jn_X8_learn_108 (t_then : Int64) (a1 : Int32) (v2 : Int32) (v3 : Int32) (k_56 : (Nat → Int32) → Int32 → Option (Int32 × (Nat → Int32))) (t_doubts : Nat → Int32) (v4 : Int32) (s0 : Int32) : Option (Int32 × (Nat → Int32)) :=
  if s0 ≤ (99 : Int32) then gd (ib v4 64) (lt (v4 + (1 : Int32)) (fun x2 => k_56 ((upd t_doubts v4.toNatClampNeg s0)) x2)) else gd (ib v4 64) (lt (v4 + (1 : Int32)) (fun x3 => k_56 ((upd t_doubts v4.toNatClampNeg (99 : Int32))) x3))
def lp_X8_learn_56 (t_then : Int64) (a1 : Int32) (v2 : Int32) (v3 : Int32) : Nat → (Nat → Int32) → Int32 → Option (Int32 × (Nat → Int32))
  | 0, _, _ => none
  | n + 1, t_doubts, v4 => if (64 : Int32) ≤ v4 then bd (f_X8_plain t_doubts) (fun o5 => some (o5, t_doubts)) else gd (ib v4 64) (if (t_doubts v4.toNatClampNeg) < (0 : Int32) then lt (v4 + (1 : Int32)) (fun x7 => lp_X8_learn_56 t_then a1 v2 v3 n t_doubts x7) else bd (f_X8_has t_then v4) (fun o8 => if o8 = (0 : Int32) then gd (ib v4 64) (jn_X8_learn_108 t_then a1 v2 v3 (fun t_doubts v4 => lp_X8_learn_56 t_then a1 v2 v3 n t_doubts v4) t_doubts v4 (((t_doubts v4.toNatClampNeg) - v3) + a1)) else gd (ib v4 64) (jn_X8_learn_108 t_then a1 v2 v3 (fun t_doubts v4 => lp_X8_learn_56 t_then a1 v2 v3 n t_doubts v4) t_doubts v4 ((t_doubts v4.toNatClampNeg) - v2))))
def f_X8_learn (t_then : Int64) (t_doubts : Nat → Int32) (a1 : Int32) : Option (Int32 × (Nat → Int32)) :=
  bd (f_X8_in ((a1).toInt64) (1 : Int64) (20 : Int64)) (fun o10 => if o10 = (0 : Int32) then some ((-1 : Int32), t_doubts) else bd (f_X8_leastOf t_doubts t_then) (fun o12 => bd (f_X8_leastOf t_doubts (t_then ^^^ (-1 : Int64))) (fun o13 => if o12 = (1000 : Int32) then some ((-2 : Int32), t_doubts) else if o13 = (1000 : Int32) then some ((-2 : Int32), t_doubts) else lp_X8_learn_56 t_then a1 o12 o13 fu t_doubts (0 : Int32))))
set_option maxHeartbeats 4000000 in
set_option maxRecDepth 100000 in
theorem c_X8_learn (l : Launch) (G : GG) (h_t h_t_text h_t_said h_t_many h_t_grades h_t_doubts h_t_vals h_t_waits h_t_fresh h_t_freshMany : Nat) (sz : Nat) (t_trace : Int64) (t_typed : Int32) (t_when : Int64) (t_then : Int64) (t_at : Int32) (t_token : Int32) (t_start : Int32) (t_valMany : Int32) (t_waitMany : Int32) (t_open : Int32) (t_saying : Int64) (t_quarrel : Int32) (t_doubts : Nat → Int32) (a1 : Int32) (o : Int32 × (Nat → Int32)) (ho : f_X8_learn t_then t_doubts a1 = some o)  : Met l yX8_learn wsX8_learn ({ frames := 2, cells := 0, slots := 0, locals := 46 } : Room) (pcA G [.ref h_t, .int a1] [(h_t, .inr (8, [.long t_trace, .ref h_t_text, .int t_typed, .ref h_t_said, .ref h_t_many, .long t_when, .long t_then, .ref h_t_grades, .ref h_t_doubts, .int t_at, .int t_token, .int t_start, .ref h_t_vals, .ref h_t_waits, .int t_valMany, .int t_waitMany, .int t_open, .long t_saying, .ref h_t_fresh, .ref h_t_freshMany, .int t_quarrel])), (h_t_doubts, .inl (G.2.1.2.1, 64, .inl t_doubts))] sz) (qcI Unit G o.1 (fun _ => True) (fun _ => [(h_t, .inr (8, [.long t_trace, .ref h_t_text, .int t_typed, .ref h_t_said, .ref h_t_many, .long t_when, .long t_then, .ref h_t_grades, .ref h_t_doubts, .int t_at, .int t_token, .int t_start, .ref h_t_vals, .ref h_t_waits, .int t_valMany, .int t_waitMany, .int t_open, .long t_saying, .ref h_t_fresh, .ref h_t_freshMany, .int t_quarrel])), (h_t_doubts, .inl (G.2.1.2.1, 64, .inl o.2))]) (va_A [(h_t, .inr (8, [.long t_trace, .ref h_t_text, .int t_typed, .ref h_t_said, .ref h_t_many, .long t_when, .long t_then, .ref h_t_grades, .ref h_t_doubts, .int t_at, .int t_token, .int t_start, .ref h_t_vals, .ref h_t_waits, .int t_valMany, .int t_waitMany, .int t_open, .long t_saying, .ref h_t_fresh, .ref h_t_freshMany, .int t_quarrel])), (h_t_doubts, .inl (G.2.1.2.1, 64, .inl t_doubts))] sz)) 0 0 (va_A [(h_t, .inr (8, [.long t_trace, .ref h_t_text, .int t_typed, .ref h_t_said, .ref h_t_many, .long t_when, .long t_then, .ref h_t_grades, .ref h_t_doubts, .int t_at, .int t_token, .int t_start, .ref h_t_vals, .ref h_t_waits, .int t_valMany, .int t_waitMany, .int t_open, .long t_saying, .ref h_t_fresh, .ref h_t_freshMany, .int t_quarrel])), (h_t_doubts, .inl (G.2.1.2.1, 64, .inl t_doubts))] sz) := by
  refine Met.ofW (cc := cX8_learn) (maxL := 6) (ret := (some .int)) (by decide) rfl ?_
  intro p e s m args below meth c s₁ B hml hv
  obtain ⟨rfl, hsz, hP, hg, hD0, hc⟩ := hv
  have hx := B.exec
  have hb := B.bytes
  have hr := B.returns
  have hts := atoms_spec (ws := wsX8_learn) B.pre
  have hown : s.vm.findClass RX8 = some m.cls := findClass_of_methodNamed B.named
  have hlocks := B.notSynchronized
  subst hsz
  have hD := hD0.self (sz := s.heap.size)
  generalize hAe : va_A [(h_t, .inr (8, [.long t_trace, .ref h_t_text, .int t_typed, .ref h_t_said, .ref h_t_many, .long t_when, .long t_then, .ref h_t_grades, .ref h_t_doubts, .int t_at, .int t_token, .int t_start, .ref h_t_vals, .ref h_t_waits, .int t_valMany, .int t_waitMany, .int t_open, .long t_saying, .ref h_t_fresh, .ref h_t_freshMany, .int t_quarrel])), (h_t_doubts, .inl (G.2.1.2.1, 64, .inl t_doubts))] s.heap.size = A at hD hc ⊢
  have hA : ∀ q : Nat, s.heap.size ≤ q → A q := fun q h => by rw [← hAe]; exact Or.inr h
  have hiX8 : ∀ w ∈ wsX80, w ∈ wsX8_learn := by decide +kernel
  have hl := lv_entry ([.ref h_t, .int a1]) (n := 6) (Nat.le_of_ble_eq_true rfl)
  rw [lg_entry_eq]
  generalize (lg_sl ([.ref h_t, .int a1]) ++ List.replicate (6 - (lg_sl ([.ref h_t, .int a1])).length) Slot.unset).toArray = ls at hl ⊢
  have hl : lv_has ls 6 [(0, .ref h_t), (1, .int a1)] := hl
  have hf := ho
  have hw_108 : ∀ (v2 : Int32) (v3 : Int32) (k_56 : (Nat → Int32) → Int32 → Option (Int32 × (Nat → Int32))) (hk_56 : ∀ (t_doubts : Nat → Int32) (v4 : Int32), k_56 t_doubts v4 = some o → ∀ (H : Heap) (locs : List Loc), va_P G.1 vwCl [(h_t, .inr (8, [.long t_trace, .ref h_t_text, .int t_typed, .ref h_t_said, .ref h_t_many, .long t_when, .long t_then, .ref h_t_grades, .ref h_t_doubts, .int t_at, .int t_token, .int t_start, .ref h_t_vals, .ref h_t_waits, .int t_valMany, .int t_waitMany, .int t_open, .long t_saying, .ref h_t_fresh, .ref h_t_freshMany, .int t_quarrel])), (h_t_doubts, .inl (G.2.1.2.1, 64, .inl t_doubts))] H → va_D A [(h_t, .inr (8, [.long t_trace, .ref h_t_text, .int t_typed, .ref h_t_said, .ref h_t_many, .long t_when, .long t_then, .ref h_t_grades, .ref h_t_doubts, .int t_at, .int t_token, .int t_start, .ref h_t_vals, .ref h_t_waits, .int t_valMany, .int t_waitMany, .int t_open, .long t_saying, .ref h_t_fresh, .ref h_t_freshMany, .int t_quarrel])), (h_t_doubts, .inl (G.2.1.2.1, 64, .inl t_doubts))] → va_S A s.heap H locs → ∀ (ls : Array Slot), lv_has ls 6 [(0, .ref h_t), (1, .int a1), (2, .int v2), (3, .int v3), (4, .int v4)] → W p l e (headSpec wsX8_learn ({ frames := 2, cells := 0, slots := 0, locals := 46 } : Room)).room s m ([.ref h_t, .int a1] : List Value).toArray below meth c H locs 0 0 (MQ below (qcI Unit G o.1 (fun _ => True) (fun _ => [(h_t, .inr (8, [.long t_trace, .ref h_t_text, .int t_typed, .ref h_t_said, .ref h_t_many, .long t_when, .long t_then, .ref h_t_grades, .ref h_t_doubts, .int t_at, .int t_token, .int t_start, .ref h_t_vals, .ref h_t_waits, .int t_valMany, .int t_waitMany, .int t_open, .long t_saying, .ref h_t_fresh, .ref h_t_freshMany, .int t_quarrel])), (h_t_doubts, .inl (G.2.1.2.1, 64, .inl o.2))]) A) ([.ref h_t, .int a1] : List Value).toArray s 0 0 A) (F0 m 56 ls [])) (t_doubts : Nat → Int32) (v4 : Int32) (s0 : Int32), jn_X8_learn_108 t_then a1 v2 v3 k_56 t_doubts v4 s0 = some o → ∀ (H : Heap) (locs : List Loc), va_P G.1 vwCl [(h_t, .inr (8, [.long t_trace, .ref h_t_text, .int t_typed, .ref h_t_said, .ref h_t_many, .long t_when, .long t_then, .ref h_t_grades, .ref h_t_doubts, .int t_at, .int t_token, .int t_start, .ref h_t_vals, .ref h_t_waits, .int t_valMany, .int t_waitMany, .int t_open, .long t_saying, .ref h_t_fresh, .ref h_t_freshMany, .int t_quarrel])), (h_t_doubts, .inl (G.2.1.2.1, 64, .inl t_doubts))] H → va_D A [(h_t, .inr (8, [.long t_trace, .ref h_t_text, .int t_typed, .ref h_t_said, .ref h_t_many, .long t_when, .long t_then, .ref h_t_grades, .ref h_t_doubts, .int t_at, .int t_token, .int t_start, .ref h_t_vals, .ref h_t_waits, .int t_valMany, .int t_waitMany, .int t_open, .long t_saying, .ref h_t_fresh, .ref h_t_freshMany, .int t_quarrel])), (h_t_doubts, .inl (G.2.1.2.1, 64, .inl t_doubts))] → va_S A s.heap H locs → ∀ (ls : Array Slot), lv_has ls 6 [(0, .ref h_t), (1, .int a1), (2, .int v2), (3, .int v3), (4, .int v4)] → W p l e (headSpec wsX8_learn ({ frames := 2, cells := 0, slots := 0, locals := 46 } : Room)).room s m ([.ref h_t, .int a1] : List Value).toArray below meth c H locs 0 0 (MQ below (qcI Unit G o.1 (fun _ => True) (fun _ => [(h_t, .inr (8, [.long t_trace, .ref h_t_text, .int t_typed, .ref h_t_said, .ref h_t_many, .long t_when, .long t_then, .ref h_t_grades, .ref h_t_doubts, .int t_at, .int t_token, .int t_start, .ref h_t_vals, .ref h_t_waits, .int t_valMany, .int t_waitMany, .int t_open, .long t_saying, .ref h_t_fresh, .ref h_t_freshMany, .int t_quarrel])), (h_t_doubts, .inl (G.2.1.2.1, 64, .inl o.2))]) A) ([.ref h_t, .int a1] : List Value).toArray s 0 0 A) (F0 m 108 ls [.int s0]) := by
    intro v2 v3 k_56 hk_56 t_doubts v4 s0 hf H locs hP hD hS ls hl
    unfold jn_X8_learn_108 at hf
    refine lv_istore (lv' := [(5, .int s0), (0, .ref h_t), (1, .int a1), (2, .int v2), (3, .int v3), (4, .int v4)]) hx hb dX8_learn_108 hl (by decide) rfl (fun ls hl => ?_)
    refine lv_aload_n hx hb dX8_learn_110 rfl (lv_at hl 1 rfl) ?_
    refine va_get (D := G.1) (ci := 8) (v := .ref h_t_doubts) (C := RX8) (T := TX8) (N := 21) hx hb hts hiX8 hown hg.1 hP 0 rfl rfl 8 (by decide) (hts (.fieldLink RX8 23 "AsARuleModel" "doubts" "[I") (by decide +kernel)) (fun _ h9 => h9) rfl dX8_learn_111 ?_
    refine lv_iload hx hb dX8_learn_114 (lv_at hl 5 rfl) ?_
    refine lv_iload hx hb dX8_learn_116 (lv_at hl 0 rfl) ?_
    refine lv_bipush (v := (99 : Int32)) hx hb dX8_learn_118 (by decide) ?_
    refine lv_icmp_le (tgt := 128) hx hb dX8_learn_120 (by decide) (fun c1 => ?_) (fun c1 => ?_)
    · have hf := it_t c1 hf
      refine lv_iload hx hb dX8_learn_128 (lv_at hl 0 rfl) ?_
      refine va_iast hx hb hg.1 hP hD hS 1 1 rfl rfl (ib_in (gd_t hf)) dX8_learn_130 (fun H locs hP hD hS => ?_)
      have hf := gd_x hf
      have hP : va_P G.1 vwCl [(h_t, .inr (8, [.long t_trace, .ref h_t_text, .int t_typed, .ref h_t_said, .ref h_t_many, .long t_when, .long t_then, .ref h_t_grades, .ref h_t_doubts, .int t_at, .int t_token, .int t_start, .ref h_t_vals, .ref h_t_waits, .int t_valMany, .int t_waitMany, .int t_open, .long t_saying, .ref h_t_fresh, .ref h_t_freshMany, .int t_quarrel])), (h_t_doubts, .inl (G.2.1.2.1, 64, .inl (upd t_doubts v4.toNatClampNeg s0)))] H := hP
      have hD : va_D A [(h_t, .inr (8, [.long t_trace, .ref h_t_text, .int t_typed, .ref h_t_said, .ref h_t_many, .long t_when, .long t_then, .ref h_t_grades, .ref h_t_doubts, .int t_at, .int t_token, .int t_start, .ref h_t_vals, .ref h_t_waits, .int t_valMany, .int t_waitMany, .int t_open, .long t_saying, .ref h_t_fresh, .ref h_t_freshMany, .int t_quarrel])), (h_t_doubts, .inl (G.2.1.2.1, 64, .inl (upd t_doubts v4.toNatClampNeg s0)))] := hD
      obtain ⟨x2, ex2⟩ : ∃ y : Int32, y = (v4 + (1 : Int32)) := ⟨_, rfl⟩
      have hf := lt_n hf x2 ex2
      refine lv_iinc (v := x2) (lv' := [(4, .int x2), (5, .int s0), (0, .ref h_t), (1, .int a1), (2, .int v2), (3, .int v3)]) hx hb dX8_learn_131 hl (k := 5) rfl (by rw [ex2]; rfl) (by decide) rfl (fun ls hl => ?_)
      refine lv_goto (tgt := 56) hx hb dX8_learn_134 (by decide) ?_
      exact hk_56 ((upd t_doubts v4.toNatClampNeg s0)) x2 hf _ _ hP hD hS _ (lv_sub hl [2, 3, 4, 5, 0] rfl)
    · have hf := it_f c1 hf
      refine lv_bipush (v := (99 : Int32)) hx hb dX8_learn_123 (by decide) ?_
      refine lv_goto (tgt := 130) hx hb dX8_learn_125 (by decide) ?_
      refine va_iast hx hb hg.1 hP hD hS 1 1 rfl rfl (ib_in (gd_t hf)) dX8_learn_130 (fun H locs hP hD hS => ?_)
      have hf := gd_x hf
      have hP : va_P G.1 vwCl [(h_t, .inr (8, [.long t_trace, .ref h_t_text, .int t_typed, .ref h_t_said, .ref h_t_many, .long t_when, .long t_then, .ref h_t_grades, .ref h_t_doubts, .int t_at, .int t_token, .int t_start, .ref h_t_vals, .ref h_t_waits, .int t_valMany, .int t_waitMany, .int t_open, .long t_saying, .ref h_t_fresh, .ref h_t_freshMany, .int t_quarrel])), (h_t_doubts, .inl (G.2.1.2.1, 64, .inl (upd t_doubts v4.toNatClampNeg (99 : Int32))))] H := hP
      have hD : va_D A [(h_t, .inr (8, [.long t_trace, .ref h_t_text, .int t_typed, .ref h_t_said, .ref h_t_many, .long t_when, .long t_then, .ref h_t_grades, .ref h_t_doubts, .int t_at, .int t_token, .int t_start, .ref h_t_vals, .ref h_t_waits, .int t_valMany, .int t_waitMany, .int t_open, .long t_saying, .ref h_t_fresh, .ref h_t_freshMany, .int t_quarrel])), (h_t_doubts, .inl (G.2.1.2.1, 64, .inl (upd t_doubts v4.toNatClampNeg (99 : Int32))))] := hD
      obtain ⟨x3, ex3⟩ : ∃ y : Int32, y = (v4 + (1 : Int32)) := ⟨_, rfl⟩
      have hf := lt_n hf x3 ex3
      refine lv_iinc (v := x3) (lv' := [(4, .int x3), (5, .int s0), (0, .ref h_t), (1, .int a1), (2, .int v2), (3, .int v3)]) hx hb dX8_learn_131 hl (k := 5) rfl (by rw [ex3]; rfl) (by decide) rfl (fun ls hl => ?_)
      refine lv_goto (tgt := 56) hx hb dX8_learn_134 (by decide) ?_
      exact hk_56 ((upd t_doubts v4.toNatClampNeg (99 : Int32))) x3 hf _ _ hP hD hS _ (lv_sub hl [2, 3, 4, 5, 0] rfl)
  have hw_56 : ∀ (v2 : Int32) (v3 : Int32) (n : Nat) (t_doubts : Nat → Int32) (v4 : Int32), lp_X8_learn_56 t_then a1 v2 v3 n t_doubts v4 = some o → ∀ (H : Heap) (locs : List Loc), va_P G.1 vwCl [(h_t, .inr (8, [.long t_trace, .ref h_t_text, .int t_typed, .ref h_t_said, .ref h_t_many, .long t_when, .long t_then, .ref h_t_grades, .ref h_t_doubts, .int t_at, .int t_token, .int t_start, .ref h_t_vals, .ref h_t_waits, .int t_valMany, .int t_waitMany, .int t_open, .long t_saying, .ref h_t_fresh, .ref h_t_freshMany, .int t_quarrel])), (h_t_doubts, .inl (G.2.1.2.1, 64, .inl t_doubts))] H → va_D A [(h_t, .inr (8, [.long t_trace, .ref h_t_text, .int t_typed, .ref h_t_said, .ref h_t_many, .long t_when, .long t_then, .ref h_t_grades, .ref h_t_doubts, .int t_at, .int t_token, .int t_start, .ref h_t_vals, .ref h_t_waits, .int t_valMany, .int t_waitMany, .int t_open, .long t_saying, .ref h_t_fresh, .ref h_t_freshMany, .int t_quarrel])), (h_t_doubts, .inl (G.2.1.2.1, 64, .inl t_doubts))] → va_S A s.heap H locs → ∀ (ls : Array Slot), lv_has ls 6 [(0, .ref h_t), (1, .int a1), (2, .int v2), (3, .int v3), (4, .int v4)] → W p l e (headSpec wsX8_learn ({ frames := 2, cells := 0, slots := 0, locals := 46 } : Room)).room s m ([.ref h_t, .int a1] : List Value).toArray below meth c H locs 0 0 (MQ below (qcI Unit G o.1 (fun _ => True) (fun _ => [(h_t, .inr (8, [.long t_trace, .ref h_t_text, .int t_typed, .ref h_t_said, .ref h_t_many, .long t_when, .long t_then, .ref h_t_grades, .ref h_t_doubts, .int t_at, .int t_token, .int t_start, .ref h_t_vals, .ref h_t_waits, .int t_valMany, .int t_waitMany, .int t_open, .long t_saying, .ref h_t_fresh, .ref h_t_freshMany, .int t_quarrel])), (h_t_doubts, .inl (G.2.1.2.1, 64, .inl o.2))]) A) ([.ref h_t, .int a1] : List Value).toArray s 0 0 A) (F0 m 56 ls []) := by
    intro v2 v3
    intro n
    induction n with
    | zero =>
      intro t_doubts v4 hf
      exact absurd hf (by rw [lp_X8_learn_56]; intro h; cases h)
    | succ n ih =>
      intro t_doubts v4 hf H locs hP hD hS ls hl
      rw [lp_X8_learn_56] at hf
      refine lv_iload hx hb dX8_learn_56 (lv_at hl 4 rfl) ?_
      refine lv_bipush (v := (64 : Int32)) hx hb dX8_learn_58 (by decide) ?_
      refine lv_icmp_ge (tgt := 137) hx hb dX8_learn_60 (by decide) (fun c4 => ?_) (fun c4 => ?_)
      · have hf := it_t c4 hf
        refine lv_aload_n hx hb dX8_learn_137 rfl (lv_at hl 0 rfl) ?_
        obtain ⟨o5, ho5, hf⟩ := bd_e hf
        refine af_i (wr := []) (va_runV (As := []) (rest := []) ⟨hx, hb, hml, hown, hts⟩ (c_X8_plain l G h_t h_t_text h_t_said h_t_many h_t_grades h_t_doubts h_t_vals h_t_waits h_t_fresh h_t_freshMany H.size t_trace t_typed t_when t_then t_at t_token t_start t_valMany t_waitMany t_open t_saying t_quarrel t_doubts o5 ho5) (cwV 0 hts gX8_learn_X8_plain rfl rfl rfl (by decide +kernel) ⟨Nat.le_of_ble_eq_true rfl, Nat.le_of_ble_eq_true rfl⟩) (pcA_preV hg hc hP hD hS hA [0, 1] rfl (by decide) (q0 := 0) (ci := 8) rfl rfl rfl) rfl rfl hl.1 rfl (lv_room (Nat.le_of_ble_eq_true rfl)) dX8_learn_138 ⟨Nat.zero_le _, Nat.zero_le _⟩) hP hD hS hA [0, 1] [] rfl rfl (by decide) (by decide) (fun _ H locs _ hP hD hS => ?_)
        have hP : va_P G.1 vwCl [(h_t, .inr (8, [.long t_trace, .ref h_t_text, .int t_typed, .ref h_t_said, .ref h_t_many, .long t_when, .long t_then, .ref h_t_grades, .ref h_t_doubts, .int t_at, .int t_token, .int t_start, .ref h_t_vals, .ref h_t_waits, .int t_valMany, .int t_waitMany, .int t_open, .long t_saying, .ref h_t_fresh, .ref h_t_freshMany, .int t_quarrel])), (h_t_doubts, .inl (G.2.1.2.1, 64, .inl t_doubts))] H := hP
        have hD : va_D A [(h_t, .inr (8, [.long t_trace, .ref h_t_text, .int t_typed, .ref h_t_said, .ref h_t_many, .long t_when, .long t_then, .ref h_t_grades, .ref h_t_doubts, .int t_at, .int t_token, .int t_start, .ref h_t_vals, .ref h_t_waits, .int t_valMany, .int t_waitMany, .int t_open, .long t_saying, .ref h_t_fresh, .ref h_t_freshMany, .int t_quarrel])), (h_t_doubts, .inl (G.2.1.2.1, 64, .inl t_doubts))] := hD
        rw [← Option.some.inj hf]
        exact rt_i (u := ()) hx hb hr hlocks hP hD trivial hS dX8_learn_141
      · have hf := it_f c4 hf
        refine lv_aload_n hx hb dX8_learn_63 rfl (lv_at hl 0 rfl) ?_
        refine va_get (D := G.1) (ci := 8) (v := .ref h_t_doubts) (C := RX8) (T := TX8) (N := 21) hx hb hts hiX8 hown hg.1 hP 0 rfl rfl 8 (by decide) (hts (.fieldLink RX8 23 "AsARuleModel" "doubts" "[I") (by decide +kernel)) (fun _ h9 => h9) rfl dX8_learn_64 ?_
        refine lv_iload hx hb dX8_learn_67 (lv_at hl 4 rfl) ?_
        refine va_iald hx hb hg.1 hP 1 1 rfl rfl (ib_in (gd_t hf)) dX8_learn_69 ?_
        have hf := gd_x hf
        refine lv_if_lt (tgt := 131) hx hb dX8_learn_70 (by decide) (fun c6 => ?_) (fun c6 => ?_)
        · have hf := it_t c6 hf
          obtain ⟨x7, ex7⟩ : ∃ y : Int32, y = (v4 + (1 : Int32)) := ⟨_, rfl⟩
          have hf := lt_n hf x7 ex7
          refine lv_iinc (v := x7) (lv' := [(4, .int x7), (0, .ref h_t), (1, .int a1), (2, .int v2), (3, .int v3)]) hx hb dX8_learn_131 hl (k := 4) rfl (by rw [ex7]; rfl) (by decide) rfl (fun ls hl => ?_)
          refine lv_goto (tgt := 56) hx hb dX8_learn_134 (by decide) ?_
          exact ih t_doubts x7 hf _ _ hP hD hS _ (lv_sub hl [1, 2, 3, 4, 0] rfl)
        · have hf := it_f c6 hf
          refine lv_aload_n hx hb dX8_learn_73 rfl (lv_at hl 0 rfl) ?_
          refine va_get (D := G.1) (ci := 8) (v := .long t_then) (C := RX8) (T := TX8) (N := 21) hx hb hts hiX8 hown hg.1 hP 0 rfl rfl 6 (by decide) (hts (.fieldLink RX8 44 "AsARuleModel" "then" "J") (by decide +kernel)) (fun _ h9 => h9) rfl dX8_learn_74 ?_
          refine lv_iload hx hb dX8_learn_77 (lv_at hl 4 rfl) ?_
          obtain ⟨o8, ho8, hf⟩ := bd_e hf
          refine af0_i (va_runS (As := [.long t_then, .int v4]) (rest := []) ⟨hx, hb, hml, hown, hts⟩ (c_X8_has l G H.size t_then v4 o8 ho8) (va_cwS 2 hts gX8_learn_X8_has rfl rfl rfl (by decide +kernel) ⟨Nat.le_of_ble_eq_true rfl, Nat.le_of_ble_eq_true rfl⟩) (pcA_pre hg hc hP hD hS hA [] rfl rfl [.long t_then, .int v4]) rfl rfl hl.1 rfl (lv_room (Nat.le_of_ble_eq_true rfl)) dX8_learn_79 ⟨Nat.zero_le _, Nat.zero_le _⟩) hP hD hS hA (fun H locs hP hD hS => ?_)
          refine lv_if_eq (tgt := 97) hx hb dX8_learn_82 (by decide) (fun c9 => ?_) (fun c9 => ?_)
          · have hf := it_t c9 hf
            refine lv_aload_n hx hb dX8_learn_97 rfl (lv_at hl 0 rfl) ?_
            refine va_get (D := G.1) (ci := 8) (v := .ref h_t_doubts) (C := RX8) (T := TX8) (N := 21) hx hb hts hiX8 hown hg.1 hP 0 rfl rfl 8 (by decide) (hts (.fieldLink RX8 23 "AsARuleModel" "doubts" "[I") (by decide +kernel)) (fun _ h9 => h9) rfl dX8_learn_98 ?_
            refine lv_iload hx hb dX8_learn_101 (lv_at hl 4 rfl) ?_
            refine va_iald hx hb hg.1 hP 1 1 rfl rfl (ib_in (gd_t hf)) dX8_learn_103 ?_
            have hf := gd_x hf
            refine lv_iload_n hx hb dX8_learn_104 rfl (lv_at hl 3 rfl) ?_
            refine lv_isub hx hb dX8_learn_105 ?_
            refine lv_iload_n hx hb dX8_learn_106 rfl (lv_at hl 1 rfl) ?_
            refine lv_iadd hx hb dX8_learn_107 ?_
            exact hw_108 v2 v3 _ ih t_doubts v4 (((t_doubts v4.toNatClampNeg) - v3) + a1) hf _ _ hP hD hS _ hl
          · have hf := it_f c9 hf
            refine lv_aload_n hx hb dX8_learn_85 rfl (lv_at hl 0 rfl) ?_
            refine va_get (D := G.1) (ci := 8) (v := .ref h_t_doubts) (C := RX8) (T := TX8) (N := 21) hx hb hts hiX8 hown hg.1 hP 0 rfl rfl 8 (by decide) (hts (.fieldLink RX8 23 "AsARuleModel" "doubts" "[I") (by decide +kernel)) (fun _ h9 => h9) rfl dX8_learn_86 ?_
            refine lv_iload hx hb dX8_learn_89 (lv_at hl 4 rfl) ?_
            refine va_iald hx hb hg.1 hP 1 1 rfl rfl (ib_in (gd_t hf)) dX8_learn_91 ?_
            have hf := gd_x hf
            refine lv_iload_n hx hb dX8_learn_92 rfl (lv_at hl 2 rfl) ?_
            refine lv_isub hx hb dX8_learn_93 ?_
            refine lv_goto (tgt := 108) hx hb dX8_learn_94 (by decide) ?_
            exact hw_108 v2 v3 _ ih t_doubts v4 ((t_doubts v4.toNatClampNeg) - v2) hf _ _ hP hD hS _ hl
  unfold f_X8_learn at hf
  refine en (fun H locs hP hD hS => ?_) hP hD
  refine lv_iload_n hx hb dX8_learn_0 rfl (lv_at hl 1 rfl) ?_
  refine lv_i2l (v := (a1).toInt64) hx hb dX8_learn_1 rfl ?_
  refine lv_lconst (v := (1 : Int64)) hx hb dX8_learn_2 (by decide) ?_
  refine lv_ldc2 (v := (20 : Int64)) hx hb hown (hts (.constantLong RX8 226 (20 : Int64)) (by decide +kernel)) dX8_learn_3 ?_
  obtain ⟨o10, ho10, hf⟩ := bd_e hf
  refine af0_i (va_runS (As := [.long ((a1).toInt64), .long (1 : Int64), .long (20 : Int64)]) (rest := []) ⟨hx, hb, hml, hown, hts⟩ (c_X8_in l G H.size ((a1).toInt64) (1 : Int64) (20 : Int64) o10 ho10) (va_cwS 3 hts gX8_learn_X8_in rfl rfl rfl (by decide +kernel) ⟨Nat.le_of_ble_eq_true rfl, Nat.le_of_ble_eq_true rfl⟩) (pcA_pre hg hc hP hD hS hA [] rfl rfl [.long ((a1).toInt64), .long (1 : Int64), .long (20 : Int64)]) rfl rfl hl.1 rfl (lv_room (Nat.le_of_ble_eq_true rfl)) dX8_learn_6 ⟨Nat.zero_le _, Nat.zero_le _⟩) hP hD hS hA (fun H locs hP hD hS => ?_)
  refine lv_if_ne (tgt := 14) hx hb dX8_learn_9 (by decide) (fun c11 => ?_) (fun c11 => ?_)
  · have hf := it_f c11 hf
    refine lv_aload_n hx hb dX8_learn_14 rfl (lv_at hl 0 rfl) ?_
    refine lv_aload_n hx hb dX8_learn_15 rfl (lv_at hl 0 rfl) ?_
    refine va_get (D := G.1) (ci := 8) (v := .long t_then) (C := RX8) (T := TX8) (N := 21) hx hb hts hiX8 hown hg.1 hP 0 rfl rfl 6 (by decide) (hts (.fieldLink RX8 44 "AsARuleModel" "then" "J") (by decide +kernel)) (fun _ h9 => h9) rfl dX8_learn_16 ?_
    obtain ⟨o12, ho12, hf⟩ := bd_e hf
    refine af_i (wr := []) (va_runV (As := [.long t_then]) (rest := []) ⟨hx, hb, hml, hown, hts⟩ (c_X8_leastOf l G h_t h_t_text h_t_said h_t_many h_t_grades h_t_doubts h_t_vals h_t_waits h_t_fresh h_t_freshMany H.size t_trace t_typed t_when t_then t_at t_token t_start t_valMany t_waitMany t_open t_saying t_quarrel t_doubts t_then o12 ho12) (cwV 1 hts gX8_learn_X8_leastOf rfl rfl rfl (by decide +kernel) ⟨Nat.le_of_ble_eq_true rfl, Nat.le_of_ble_eq_true rfl⟩) (pcA_preV hg hc hP hD hS hA [0, 1] rfl (by decide) (q0 := 0) (ci := 8) rfl rfl rfl) rfl rfl hl.1 rfl (lv_room (Nat.le_of_ble_eq_true rfl)) dX8_learn_19 ⟨Nat.zero_le _, Nat.zero_le _⟩) hP hD hS hA [0, 1] [] rfl rfl (by decide) (by decide) (fun _ H locs _ hP hD hS => ?_)
    have hP : va_P G.1 vwCl [(h_t, .inr (8, [.long t_trace, .ref h_t_text, .int t_typed, .ref h_t_said, .ref h_t_many, .long t_when, .long t_then, .ref h_t_grades, .ref h_t_doubts, .int t_at, .int t_token, .int t_start, .ref h_t_vals, .ref h_t_waits, .int t_valMany, .int t_waitMany, .int t_open, .long t_saying, .ref h_t_fresh, .ref h_t_freshMany, .int t_quarrel])), (h_t_doubts, .inl (G.2.1.2.1, 64, .inl t_doubts))] H := hP
    have hD : va_D A [(h_t, .inr (8, [.long t_trace, .ref h_t_text, .int t_typed, .ref h_t_said, .ref h_t_many, .long t_when, .long t_then, .ref h_t_grades, .ref h_t_doubts, .int t_at, .int t_token, .int t_start, .ref h_t_vals, .ref h_t_waits, .int t_valMany, .int t_waitMany, .int t_open, .long t_saying, .ref h_t_fresh, .ref h_t_freshMany, .int t_quarrel])), (h_t_doubts, .inl (G.2.1.2.1, 64, .inl t_doubts))] := hD
    refine lv_istore_n (lv' := [(2, .int o12), (0, .ref h_t), (1, .int a1)]) hx hb dX8_learn_22 rfl hl (by decide) rfl (fun ls hl => ?_)
    refine lv_aload_n hx hb dX8_learn_23 rfl (lv_at hl 1 rfl) ?_
    refine lv_aload_n hx hb dX8_learn_24 rfl (lv_at hl 1 rfl) ?_
    refine va_get (D := G.1) (ci := 8) (v := .long t_then) (C := RX8) (T := TX8) (N := 21) hx hb hts hiX8 hown hg.1 hP 0 rfl rfl 6 (by decide) (hts (.fieldLink RX8 44 "AsARuleModel" "then" "J") (by decide +kernel)) (fun _ h9 => h9) rfl dX8_learn_25 ?_
    refine lv_ldc2 (v := (-1 : Int64)) hx hb hown (hts (.constantLong RX8 38 (-1 : Int64)) (by decide +kernel)) dX8_learn_28 ?_
    refine lv_lxor hx hb dX8_learn_31 ?_
    obtain ⟨o13, ho13, hf⟩ := bd_e hf
    refine af_i (wr := []) (va_runV (As := [.long (t_then ^^^ (-1 : Int64))]) (rest := []) ⟨hx, hb, hml, hown, hts⟩ (c_X8_leastOf l G h_t h_t_text h_t_said h_t_many h_t_grades h_t_doubts h_t_vals h_t_waits h_t_fresh h_t_freshMany H.size t_trace t_typed t_when t_then t_at t_token t_start t_valMany t_waitMany t_open t_saying t_quarrel t_doubts (t_then ^^^ (-1 : Int64)) o13 ho13) (cwV 1 hts gX8_learn_X8_leastOf rfl rfl rfl (by decide +kernel) ⟨Nat.le_of_ble_eq_true rfl, Nat.le_of_ble_eq_true rfl⟩) (pcA_preV hg hc hP hD hS hA [0, 1] rfl (by decide) (q0 := 0) (ci := 8) rfl rfl rfl) rfl rfl hl.1 rfl (lv_room (Nat.le_of_ble_eq_true rfl)) dX8_learn_32 ⟨Nat.zero_le _, Nat.zero_le _⟩) hP hD hS hA [0, 1] [] rfl rfl (by decide) (by decide) (fun _ H locs _ hP hD hS => ?_)
    have hP : va_P G.1 vwCl [(h_t, .inr (8, [.long t_trace, .ref h_t_text, .int t_typed, .ref h_t_said, .ref h_t_many, .long t_when, .long t_then, .ref h_t_grades, .ref h_t_doubts, .int t_at, .int t_token, .int t_start, .ref h_t_vals, .ref h_t_waits, .int t_valMany, .int t_waitMany, .int t_open, .long t_saying, .ref h_t_fresh, .ref h_t_freshMany, .int t_quarrel])), (h_t_doubts, .inl (G.2.1.2.1, 64, .inl t_doubts))] H := hP
    have hD : va_D A [(h_t, .inr (8, [.long t_trace, .ref h_t_text, .int t_typed, .ref h_t_said, .ref h_t_many, .long t_when, .long t_then, .ref h_t_grades, .ref h_t_doubts, .int t_at, .int t_token, .int t_start, .ref h_t_vals, .ref h_t_waits, .int t_valMany, .int t_waitMany, .int t_open, .long t_saying, .ref h_t_fresh, .ref h_t_freshMany, .int t_quarrel])), (h_t_doubts, .inl (G.2.1.2.1, 64, .inl t_doubts))] := hD
    refine lv_istore_n (lv' := [(3, .int o13), (2, .int o12), (0, .ref h_t), (1, .int a1)]) hx hb dX8_learn_35 rfl hl (by decide) rfl (fun ls hl => ?_)
    refine lv_iload_n hx hb dX8_learn_36 rfl (lv_at hl 1 rfl) ?_
    refine lv_sipush (v := (1000 : Int32)) hx hb dX8_learn_37 (by decide) ?_
    refine lv_icmp_eq (tgt := 50) hx hb dX8_learn_40 (by decide) (fun c14 => ?_) (fun c14 => ?_)
    · have hf := it_t c14 hf
      refine lv_bipush (v := (-2 : Int32)) hx hb dX8_learn_50 (by decide) ?_
      rw [← Option.some.inj hf]
      exact rt_i (u := ()) hx hb hr hlocks hP hD trivial hS dX8_learn_52
    · have hf := it_f c14 hf
      refine lv_iload_n hx hb dX8_learn_43 rfl (lv_at hl 0 rfl) ?_
      refine lv_sipush (v := (1000 : Int32)) hx hb dX8_learn_44 (by decide) ?_
      refine lv_icmp_ne (tgt := 53) hx hb dX8_learn_47 (by decide) (fun c15 => ?_) (fun c15 => ?_)
      · have hf := it_f c15 hf
        refine lv_iconst (v := (0 : Int32)) hx hb dX8_learn_53 (by decide) ?_
        refine lv_istore (lv' := [(4, .int (0 : Int32)), (3, .int o13), (2, .int o12), (0, .ref h_t), (1, .int a1)]) hx hb dX8_learn_54 hl (by decide) rfl (fun ls hl => ?_)
        exact hw_56 o12 o13 fu t_doubts (0 : Int32) hf _ _ hP hD hS _ (lv_sub hl [3, 4, 2, 1, 0] rfl)
      · have hf := it_t c15 hf
        refine lv_bipush (v := (-2 : Int32)) hx hb dX8_learn_50 (by decide) ?_
        rw [← Option.some.inj hf]
        exact rt_i (u := ()) hx hb hr hlocks hP hD trivial hS dX8_learn_52
  · have hf := it_t c11 hf
    refine lv_iconst (v := (-1 : Int32)) hx hb dX8_learn_12 (by decide) ?_
    rw [← Option.some.inj hf]
    exact rt_i (u := ()) hx hb hr hlocks hP hD trivial hS dX8_learn_13
-- method X8_believed
def f_X8_believed (t_then : Int64) (t_doubts : Nat → Int32) : Option (Int32) :=
  bd (f_X8_leastOf t_doubts t_then) (fun o1 => bd (f_X8_leastOf t_doubts (t_then ^^^ (-1 : Int64))) (fun o2 => if o2 = (1000 : Int32) then some ((99 : Int32)) else if o1 = (1000 : Int32) then some ((-99 : Int32)) else some ((o2 - o1))))
set_option maxHeartbeats 4000000 in
set_option maxRecDepth 100000 in
theorem c_X8_believed (l : Launch) (G : GG) (h_t h_t_text h_t_said h_t_many h_t_grades h_t_doubts h_t_vals h_t_waits h_t_fresh h_t_freshMany : Nat) (sz : Nat) (t_trace : Int64) (t_typed : Int32) (t_when : Int64) (t_then : Int64) (t_at : Int32) (t_token : Int32) (t_start : Int32) (t_valMany : Int32) (t_waitMany : Int32) (t_open : Int32) (t_saying : Int64) (t_quarrel : Int32) (t_doubts : Nat → Int32)  (o : Int32) (ho : f_X8_believed t_then t_doubts = some o)  : Met l yX8_believed wsX8_believed ({ frames := 2, cells := 0, slots := 0, locals := 46 } : Room) (pcA G [.ref h_t] [(h_t, .inr (8, [.long t_trace, .ref h_t_text, .int t_typed, .ref h_t_said, .ref h_t_many, .long t_when, .long t_then, .ref h_t_grades, .ref h_t_doubts, .int t_at, .int t_token, .int t_start, .ref h_t_vals, .ref h_t_waits, .int t_valMany, .int t_waitMany, .int t_open, .long t_saying, .ref h_t_fresh, .ref h_t_freshMany, .int t_quarrel])), (h_t_doubts, .inl (G.2.1.2.1, 64, .inl t_doubts))] sz) (qcI Unit G o (fun _ => True) (fun _ => [(h_t, .inr (8, [.long t_trace, .ref h_t_text, .int t_typed, .ref h_t_said, .ref h_t_many, .long t_when, .long t_then, .ref h_t_grades, .ref h_t_doubts, .int t_at, .int t_token, .int t_start, .ref h_t_vals, .ref h_t_waits, .int t_valMany, .int t_waitMany, .int t_open, .long t_saying, .ref h_t_fresh, .ref h_t_freshMany, .int t_quarrel])), (h_t_doubts, .inl (G.2.1.2.1, 64, .inl t_doubts))]) (va_A [(h_t, .inr (8, [.long t_trace, .ref h_t_text, .int t_typed, .ref h_t_said, .ref h_t_many, .long t_when, .long t_then, .ref h_t_grades, .ref h_t_doubts, .int t_at, .int t_token, .int t_start, .ref h_t_vals, .ref h_t_waits, .int t_valMany, .int t_waitMany, .int t_open, .long t_saying, .ref h_t_fresh, .ref h_t_freshMany, .int t_quarrel])), (h_t_doubts, .inl (G.2.1.2.1, 64, .inl t_doubts))] sz)) 0 0 (va_A [(h_t, .inr (8, [.long t_trace, .ref h_t_text, .int t_typed, .ref h_t_said, .ref h_t_many, .long t_when, .long t_then, .ref h_t_grades, .ref h_t_doubts, .int t_at, .int t_token, .int t_start, .ref h_t_vals, .ref h_t_waits, .int t_valMany, .int t_waitMany, .int t_open, .long t_saying, .ref h_t_fresh, .ref h_t_freshMany, .int t_quarrel])), (h_t_doubts, .inl (G.2.1.2.1, 64, .inl t_doubts))] sz) := by
  refine Met.ofW (cc := cX8_believed) (maxL := 3) (ret := (some .int)) (by decide) rfl ?_
  intro p e s m args below meth c s₁ B hml hv
  obtain ⟨rfl, hsz, hP, hg, hD0, hc⟩ := hv
  have hx := B.exec
  have hb := B.bytes
  have hr := B.returns
  have hts := atoms_spec (ws := wsX8_believed) B.pre
  have hown : s.vm.findClass RX8 = some m.cls := findClass_of_methodNamed B.named
  have hlocks := B.notSynchronized
  subst hsz
  have hD := hD0.self (sz := s.heap.size)
  generalize hAe : va_A [(h_t, .inr (8, [.long t_trace, .ref h_t_text, .int t_typed, .ref h_t_said, .ref h_t_many, .long t_when, .long t_then, .ref h_t_grades, .ref h_t_doubts, .int t_at, .int t_token, .int t_start, .ref h_t_vals, .ref h_t_waits, .int t_valMany, .int t_waitMany, .int t_open, .long t_saying, .ref h_t_fresh, .ref h_t_freshMany, .int t_quarrel])), (h_t_doubts, .inl (G.2.1.2.1, 64, .inl t_doubts))] s.heap.size = A at hD hc ⊢
  have hA : ∀ q : Nat, s.heap.size ≤ q → A q := fun q h => by rw [← hAe]; exact Or.inr h
  have hiX8 : ∀ w ∈ wsX80, w ∈ wsX8_believed := by decide +kernel
  have hl := lv_entry ([.ref h_t]) (n := 3) (Nat.le_of_ble_eq_true rfl)
  rw [lg_entry_eq]
  generalize (lg_sl ([.ref h_t]) ++ List.replicate (3 - (lg_sl ([.ref h_t])).length) Slot.unset).toArray = ls at hl ⊢
  have hl : lv_has ls 3 [(0, .ref h_t)] := hl
  have hf := ho
  unfold f_X8_believed at hf
  refine en (fun H locs hP hD hS => ?_) hP hD
  refine lv_aload_n hx hb dX8_believed_0 rfl (lv_at hl 0 rfl) ?_
  refine lv_aload_n hx hb dX8_believed_1 rfl (lv_at hl 0 rfl) ?_
  refine va_get (D := G.1) (ci := 8) (v := .long t_then) (C := RX8) (T := TX8) (N := 21) hx hb hts hiX8 hown hg.1 hP 0 rfl rfl 6 (by decide) (hts (.fieldLink RX8 44 "AsARuleModel" "then" "J") (by decide +kernel)) (fun _ h9 => h9) rfl dX8_believed_2 ?_
  obtain ⟨o1, ho1, hf⟩ := bd_e hf
  refine af_i (wr := []) (va_runV (As := [.long t_then]) (rest := []) ⟨hx, hb, hml, hown, hts⟩ (c_X8_leastOf l G h_t h_t_text h_t_said h_t_many h_t_grades h_t_doubts h_t_vals h_t_waits h_t_fresh h_t_freshMany H.size t_trace t_typed t_when t_then t_at t_token t_start t_valMany t_waitMany t_open t_saying t_quarrel t_doubts t_then o1 ho1) (cwV 1 hts gX8_believed_X8_leastOf rfl rfl rfl (by decide +kernel) ⟨Nat.le_of_ble_eq_true rfl, Nat.le_of_ble_eq_true rfl⟩) (pcA_preV hg hc hP hD hS hA [0, 1] rfl (by decide) (q0 := 0) (ci := 8) rfl rfl rfl) rfl rfl hl.1 rfl (lv_room (Nat.le_of_ble_eq_true rfl)) dX8_believed_5 ⟨Nat.zero_le _, Nat.zero_le _⟩) hP hD hS hA [0, 1] [] rfl rfl (by decide) (by decide) (fun _ H locs _ hP hD hS => ?_)
  have hP : va_P G.1 vwCl [(h_t, .inr (8, [.long t_trace, .ref h_t_text, .int t_typed, .ref h_t_said, .ref h_t_many, .long t_when, .long t_then, .ref h_t_grades, .ref h_t_doubts, .int t_at, .int t_token, .int t_start, .ref h_t_vals, .ref h_t_waits, .int t_valMany, .int t_waitMany, .int t_open, .long t_saying, .ref h_t_fresh, .ref h_t_freshMany, .int t_quarrel])), (h_t_doubts, .inl (G.2.1.2.1, 64, .inl t_doubts))] H := hP
  have hD : va_D A [(h_t, .inr (8, [.long t_trace, .ref h_t_text, .int t_typed, .ref h_t_said, .ref h_t_many, .long t_when, .long t_then, .ref h_t_grades, .ref h_t_doubts, .int t_at, .int t_token, .int t_start, .ref h_t_vals, .ref h_t_waits, .int t_valMany, .int t_waitMany, .int t_open, .long t_saying, .ref h_t_fresh, .ref h_t_freshMany, .int t_quarrel])), (h_t_doubts, .inl (G.2.1.2.1, 64, .inl t_doubts))] := hD
  refine lv_istore_n (lv' := [(1, .int o1), (0, .ref h_t)]) hx hb dX8_believed_8 rfl hl (by decide) rfl (fun ls hl => ?_)
  refine lv_aload_n hx hb dX8_believed_9 rfl (lv_at hl 1 rfl) ?_
  refine lv_aload_n hx hb dX8_believed_10 rfl (lv_at hl 1 rfl) ?_
  refine va_get (D := G.1) (ci := 8) (v := .long t_then) (C := RX8) (T := TX8) (N := 21) hx hb hts hiX8 hown hg.1 hP 0 rfl rfl 6 (by decide) (hts (.fieldLink RX8 44 "AsARuleModel" "then" "J") (by decide +kernel)) (fun _ h9 => h9) rfl dX8_believed_11 ?_
  refine lv_ldc2 (v := (-1 : Int64)) hx hb hown (hts (.constantLong RX8 38 (-1 : Int64)) (by decide +kernel)) dX8_believed_14 ?_
  refine lv_lxor hx hb dX8_believed_17 ?_
  obtain ⟨o2, ho2, hf⟩ := bd_e hf
  refine af_i (wr := []) (va_runV (As := [.long (t_then ^^^ (-1 : Int64))]) (rest := []) ⟨hx, hb, hml, hown, hts⟩ (c_X8_leastOf l G h_t h_t_text h_t_said h_t_many h_t_grades h_t_doubts h_t_vals h_t_waits h_t_fresh h_t_freshMany H.size t_trace t_typed t_when t_then t_at t_token t_start t_valMany t_waitMany t_open t_saying t_quarrel t_doubts (t_then ^^^ (-1 : Int64)) o2 ho2) (cwV 1 hts gX8_believed_X8_leastOf rfl rfl rfl (by decide +kernel) ⟨Nat.le_of_ble_eq_true rfl, Nat.le_of_ble_eq_true rfl⟩) (pcA_preV hg hc hP hD hS hA [0, 1] rfl (by decide) (q0 := 0) (ci := 8) rfl rfl rfl) rfl rfl hl.1 rfl (lv_room (Nat.le_of_ble_eq_true rfl)) dX8_believed_18 ⟨Nat.zero_le _, Nat.zero_le _⟩) hP hD hS hA [0, 1] [] rfl rfl (by decide) (by decide) (fun _ H locs _ hP hD hS => ?_)
  have hP : va_P G.1 vwCl [(h_t, .inr (8, [.long t_trace, .ref h_t_text, .int t_typed, .ref h_t_said, .ref h_t_many, .long t_when, .long t_then, .ref h_t_grades, .ref h_t_doubts, .int t_at, .int t_token, .int t_start, .ref h_t_vals, .ref h_t_waits, .int t_valMany, .int t_waitMany, .int t_open, .long t_saying, .ref h_t_fresh, .ref h_t_freshMany, .int t_quarrel])), (h_t_doubts, .inl (G.2.1.2.1, 64, .inl t_doubts))] H := hP
  have hD : va_D A [(h_t, .inr (8, [.long t_trace, .ref h_t_text, .int t_typed, .ref h_t_said, .ref h_t_many, .long t_when, .long t_then, .ref h_t_grades, .ref h_t_doubts, .int t_at, .int t_token, .int t_start, .ref h_t_vals, .ref h_t_waits, .int t_valMany, .int t_waitMany, .int t_open, .long t_saying, .ref h_t_fresh, .ref h_t_freshMany, .int t_quarrel])), (h_t_doubts, .inl (G.2.1.2.1, 64, .inl t_doubts))] := hD
  refine lv_istore_n (lv' := [(2, .int o2), (1, .int o1), (0, .ref h_t)]) hx hb dX8_believed_21 rfl hl (by decide) rfl (fun ls hl => ?_)
  refine lv_iload_n hx hb dX8_believed_22 rfl (lv_at hl 0 rfl) ?_
  refine lv_sipush (v := (1000 : Int32)) hx hb dX8_believed_23 (by decide) ?_
  refine lv_icmp_ne (tgt := 34) hx hb dX8_believed_26 (by decide) (fun c3 => ?_) (fun c3 => ?_)
  · have hf := it_f c3 hf
    refine lv_iload_n hx hb dX8_believed_34 rfl (lv_at hl 1 rfl) ?_
    refine lv_sipush (v := (1000 : Int32)) hx hb dX8_believed_35 (by decide) ?_
    refine lv_icmp_ne (tgt := 46) hx hb dX8_believed_38 (by decide) (fun c4 => ?_) (fun c4 => ?_)
    · have hf := it_f c4 hf
      refine lv_iload_n hx hb dX8_believed_46 rfl (lv_at hl 0 rfl) ?_
      refine lv_iload_n hx hb dX8_believed_47 rfl (lv_at hl 1 rfl) ?_
      refine lv_isub hx hb dX8_believed_48 ?_
      rw [← Option.some.inj hf]
      exact rt_i (u := ()) hx hb hr hlocks hP hD trivial hS dX8_believed_49
    · have hf := it_t c4 hf
      refine lv_bipush (v := (-99 : Int32)) hx hb dX8_believed_41 (by decide) ?_
      refine lv_goto (tgt := 49) hx hb dX8_believed_43 (by decide) ?_
      rw [← Option.some.inj hf]
      exact rt_i (u := ()) hx hb hr hlocks hP hD trivial hS dX8_believed_49
  · have hf := it_t c3 hf
    refine lv_bipush (v := (99 : Int32)) hx hb dX8_believed_29 (by decide) ?_
    refine lv_goto (tgt := 49) hx hb dX8_believed_31 (by decide) ?_
    rw [← Option.some.inj hf]
    exact rt_i (u := ()) hx hb hr hlocks hP hD trivial hS dX8_believed_49
-- method X8_forget
def f_X8_forget (t_said : Nat → Int64) (t_many : Nat → Int32) (t_grades : Nat → Int32) (t_doubts : Nat → Int32) : Option (Int32 × (Nat → Int32)) :=
  bd (f_X8_forgets t_said t_many t_grades t_doubts) (fun o1 => bd (f_X8_plain o1) (fun o2 => some (o2, o1)))
set_option maxHeartbeats 4000000 in
set_option maxRecDepth 100000 in
theorem c_X8_forget (l : Launch) (G : GG) (h_t h_t_text h_t_said h_t_many h_t_grades h_t_doubts h_t_vals h_t_waits h_t_fresh h_t_freshMany : Nat) (sz : Nat) (t_trace : Int64) (t_typed : Int32) (t_when : Int64) (t_then : Int64) (t_at : Int32) (t_token : Int32) (t_start : Int32) (t_valMany : Int32) (t_waitMany : Int32) (t_open : Int32) (t_saying : Int64) (t_quarrel : Int32) (t_said : Nat → Int64) (t_many : Nat → Int32) (t_grades : Nat → Int32) (t_doubts : Nat → Int32)  (o : Int32 × (Nat → Int32)) (ho : f_X8_forget t_said t_many t_grades t_doubts = some o)  : Met l yX8_forget wsX8_forget ({ frames := 4, cells := 0, slots := 0, locals := 89 } : Room) (pcA G [.ref h_t] [(h_t, .inr (8, [.long t_trace, .ref h_t_text, .int t_typed, .ref h_t_said, .ref h_t_many, .long t_when, .long t_then, .ref h_t_grades, .ref h_t_doubts, .int t_at, .int t_token, .int t_start, .ref h_t_vals, .ref h_t_waits, .int t_valMany, .int t_waitMany, .int t_open, .long t_saying, .ref h_t_fresh, .ref h_t_freshMany, .int t_quarrel])), (h_t_said, .inl (G.2.1.2.2, 45, .inr (.inl t_said))), (h_t_many, .inl (G.2.1.2.1, 5, .inl t_many)), (h_t_grades, .inl (G.2.1.2.1, 9, .inl t_grades)), (h_t_doubts, .inl (G.2.1.2.1, 64, .inl t_doubts))] sz) (qcI Unit G o.1 (fun _ => True) (fun _ => [(h_t, .inr (8, [.long t_trace, .ref h_t_text, .int t_typed, .ref h_t_said, .ref h_t_many, .long t_when, .long t_then, .ref h_t_grades, .ref h_t_doubts, .int t_at, .int t_token, .int t_start, .ref h_t_vals, .ref h_t_waits, .int t_valMany, .int t_waitMany, .int t_open, .long t_saying, .ref h_t_fresh, .ref h_t_freshMany, .int t_quarrel])), (h_t_said, .inl (G.2.1.2.2, 45, .inr (.inl t_said))), (h_t_many, .inl (G.2.1.2.1, 5, .inl t_many)), (h_t_grades, .inl (G.2.1.2.1, 9, .inl t_grades)), (h_t_doubts, .inl (G.2.1.2.1, 64, .inl o.2))]) (va_A [(h_t, .inr (8, [.long t_trace, .ref h_t_text, .int t_typed, .ref h_t_said, .ref h_t_many, .long t_when, .long t_then, .ref h_t_grades, .ref h_t_doubts, .int t_at, .int t_token, .int t_start, .ref h_t_vals, .ref h_t_waits, .int t_valMany, .int t_waitMany, .int t_open, .long t_saying, .ref h_t_fresh, .ref h_t_freshMany, .int t_quarrel])), (h_t_said, .inl (G.2.1.2.2, 45, .inr (.inl t_said))), (h_t_many, .inl (G.2.1.2.1, 5, .inl t_many)), (h_t_grades, .inl (G.2.1.2.1, 9, .inl t_grades)), (h_t_doubts, .inl (G.2.1.2.1, 64, .inl t_doubts))] sz)) 0 0 (va_A [(h_t, .inr (8, [.long t_trace, .ref h_t_text, .int t_typed, .ref h_t_said, .ref h_t_many, .long t_when, .long t_then, .ref h_t_grades, .ref h_t_doubts, .int t_at, .int t_token, .int t_start, .ref h_t_vals, .ref h_t_waits, .int t_valMany, .int t_waitMany, .int t_open, .long t_saying, .ref h_t_fresh, .ref h_t_freshMany, .int t_quarrel])), (h_t_said, .inl (G.2.1.2.2, 45, .inr (.inl t_said))), (h_t_many, .inl (G.2.1.2.1, 5, .inl t_many)), (h_t_grades, .inl (G.2.1.2.1, 9, .inl t_grades)), (h_t_doubts, .inl (G.2.1.2.1, 64, .inl t_doubts))] sz) := by
  refine Met.ofW (cc := cX8_forget) (maxL := 1) (ret := (some .int)) (by decide) rfl ?_
  intro p e s m args below meth c s₁ B hml hv
  obtain ⟨rfl, hsz, hP, hg, hD0, hc⟩ := hv
  have hx := B.exec
  have hb := B.bytes
  have hr := B.returns
  have hts := atoms_spec (ws := wsX8_forget) B.pre
  have hown : s.vm.findClass RX8 = some m.cls := findClass_of_methodNamed B.named
  have hlocks := B.notSynchronized
  subst hsz
  have hD := hD0.self (sz := s.heap.size)
  generalize hAe : va_A [(h_t, .inr (8, [.long t_trace, .ref h_t_text, .int t_typed, .ref h_t_said, .ref h_t_many, .long t_when, .long t_then, .ref h_t_grades, .ref h_t_doubts, .int t_at, .int t_token, .int t_start, .ref h_t_vals, .ref h_t_waits, .int t_valMany, .int t_waitMany, .int t_open, .long t_saying, .ref h_t_fresh, .ref h_t_freshMany, .int t_quarrel])), (h_t_said, .inl (G.2.1.2.2, 45, .inr (.inl t_said))), (h_t_many, .inl (G.2.1.2.1, 5, .inl t_many)), (h_t_grades, .inl (G.2.1.2.1, 9, .inl t_grades)), (h_t_doubts, .inl (G.2.1.2.1, 64, .inl t_doubts))] s.heap.size = A at hD hc ⊢
  have hA : ∀ q : Nat, s.heap.size ≤ q → A q := fun q h => by rw [← hAe]; exact Or.inr h
  have hl := lv_entry ([.ref h_t]) (n := 1) (Nat.le_of_ble_eq_true rfl)
  rw [lg_entry_eq]
  generalize (lg_sl ([.ref h_t]) ++ List.replicate (1 - (lg_sl ([.ref h_t])).length) Slot.unset).toArray = ls at hl ⊢
  have hl : lv_has ls 1 [(0, .ref h_t)] := hl
  have hf := ho
  unfold f_X8_forget at hf
  refine en (fun H locs hP hD hS => ?_) hP hD
  refine lv_aload_n hx hb dX8_forget_0 rfl (lv_at hl 0 rfl) ?_
  obtain ⟨o1, ho1, hf⟩ := bd_e hf
  refine af_v (wr := []) (va_runV (As := []) (rest := []) ⟨hx, hb, hml, hown, hts⟩ (c_X8_forgets l G h_t h_t_text h_t_said h_t_many h_t_grades h_t_doubts h_t_vals h_t_waits h_t_fresh h_t_freshMany H.size t_trace t_typed t_when t_then t_at t_token t_start t_valMany t_waitMany t_open t_saying t_quarrel t_said t_many t_grades t_doubts o1 ho1) (cwV 0 hts gX8_forget_X8_forgets rfl rfl rfl (by decide +kernel) ⟨Nat.le_of_ble_eq_true rfl, Nat.le_of_ble_eq_true rfl⟩) (pcA_preV hg hc hP hD hS hA [0, 1, 2, 3, 4] rfl (by decide) (q0 := 0) (ci := 8) rfl rfl rfl) rfl rfl hl.1 rfl (lv_room (Nat.le_of_ble_eq_true rfl)) dX8_forget_1 ⟨Nat.zero_le _, Nat.zero_le _⟩) hP hD hS hA [0, 1, 2, 3, 4] [] rfl rfl (by decide) (by decide) (fun _ H locs _ hP hD hS => ?_)
  have hP : va_P G.1 vwCl [(h_t, .inr (8, [.long t_trace, .ref h_t_text, .int t_typed, .ref h_t_said, .ref h_t_many, .long t_when, .long t_then, .ref h_t_grades, .ref h_t_doubts, .int t_at, .int t_token, .int t_start, .ref h_t_vals, .ref h_t_waits, .int t_valMany, .int t_waitMany, .int t_open, .long t_saying, .ref h_t_fresh, .ref h_t_freshMany, .int t_quarrel])), (h_t_said, .inl (G.2.1.2.2, 45, .inr (.inl t_said))), (h_t_many, .inl (G.2.1.2.1, 5, .inl t_many)), (h_t_grades, .inl (G.2.1.2.1, 9, .inl t_grades)), (h_t_doubts, .inl (G.2.1.2.1, 64, .inl o1))] H := hP
  have hD : va_D A [(h_t, .inr (8, [.long t_trace, .ref h_t_text, .int t_typed, .ref h_t_said, .ref h_t_many, .long t_when, .long t_then, .ref h_t_grades, .ref h_t_doubts, .int t_at, .int t_token, .int t_start, .ref h_t_vals, .ref h_t_waits, .int t_valMany, .int t_waitMany, .int t_open, .long t_saying, .ref h_t_fresh, .ref h_t_freshMany, .int t_quarrel])), (h_t_said, .inl (G.2.1.2.2, 45, .inr (.inl t_said))), (h_t_many, .inl (G.2.1.2.1, 5, .inl t_many)), (h_t_grades, .inl (G.2.1.2.1, 9, .inl t_grades)), (h_t_doubts, .inl (G.2.1.2.1, 64, .inl o1))] := hD
  refine lv_aload_n hx hb dX8_forget_4 rfl (lv_at hl 0 rfl) ?_
  obtain ⟨o2, ho2, hf⟩ := bd_e hf
  refine af_i (wr := [(h_t_said, .inl (G.2.1.2.2, 45, .inr (.inl t_said))), (h_t_many, .inl (G.2.1.2.1, 5, .inl t_many)), (h_t_grades, .inl (G.2.1.2.1, 9, .inl t_grades))]) (va_runV (As := []) (rest := []) ⟨hx, hb, hml, hown, hts⟩ (c_X8_plain l G h_t h_t_text h_t_said h_t_many h_t_grades h_t_doubts h_t_vals h_t_waits h_t_fresh h_t_freshMany H.size t_trace t_typed t_when t_then t_at t_token t_start t_valMany t_waitMany t_open t_saying t_quarrel o1 o2 ho2) (cwV 0 hts gX8_forget_X8_plain rfl rfl rfl (by decide +kernel) ⟨Nat.le_of_ble_eq_true rfl, Nat.le_of_ble_eq_true rfl⟩) (pcA_preV hg hc hP hD hS hA [0, 4] rfl (by decide) (q0 := 0) (ci := 8) rfl rfl rfl) rfl rfl hl.1 rfl (lv_room (Nat.le_of_ble_eq_true rfl)) dX8_forget_5 ⟨Nat.zero_le _, Nat.zero_le _⟩) hP hD hS hA [0, 4] [1, 2, 3] rfl rfl (by decide) (by decide) (fun _ H locs _ hP hD hS => ?_)
  have hP : va_P G.1 vwCl [(h_t, .inr (8, [.long t_trace, .ref h_t_text, .int t_typed, .ref h_t_said, .ref h_t_many, .long t_when, .long t_then, .ref h_t_grades, .ref h_t_doubts, .int t_at, .int t_token, .int t_start, .ref h_t_vals, .ref h_t_waits, .int t_valMany, .int t_waitMany, .int t_open, .long t_saying, .ref h_t_fresh, .ref h_t_freshMany, .int t_quarrel])), (h_t_said, .inl (G.2.1.2.2, 45, .inr (.inl t_said))), (h_t_many, .inl (G.2.1.2.1, 5, .inl t_many)), (h_t_grades, .inl (G.2.1.2.1, 9, .inl t_grades)), (h_t_doubts, .inl (G.2.1.2.1, 64, .inl o1))] H := hP.sub [3, 0, 1, 2, 4] rfl
  have hD : va_D A [(h_t, .inr (8, [.long t_trace, .ref h_t_text, .int t_typed, .ref h_t_said, .ref h_t_many, .long t_when, .long t_then, .ref h_t_grades, .ref h_t_doubts, .int t_at, .int t_token, .int t_start, .ref h_t_vals, .ref h_t_waits, .int t_valMany, .int t_waitMany, .int t_open, .long t_saying, .ref h_t_fresh, .ref h_t_freshMany, .int t_quarrel])), (h_t_said, .inl (G.2.1.2.2, 45, .inr (.inl t_said))), (h_t_many, .inl (G.2.1.2.1, 5, .inl t_many)), (h_t_grades, .inl (G.2.1.2.1, 9, .inl t_grades)), (h_t_doubts, .inl (G.2.1.2.1, 64, .inl o1))] := hD.sub [3, 0, 1, 2, 4] (by decide) rfl
  rw [← Option.some.inj hf]
  exact rt_i (u := ()) hx hb hr hlocks hP hD trivial hS dX8_forget_8
-- method X8_adds
def f_X8_adds (t_trace : Int64) (a1 : Int32) : Option (Int32 × Int64) :=
  lt (t_trace + ((a1).toInt64)) (fun x1 => some ((0 : Int32), x1))
set_option maxHeartbeats 4000000 in
set_option maxRecDepth 100000 in
theorem c_X8_adds (l : Launch) (G : GG) (h_t h_t_text h_t_said h_t_many h_t_grades h_t_doubts h_t_vals h_t_waits h_t_fresh h_t_freshMany : Nat) (sz : Nat) (t_trace : Int64) (t_typed : Int32) (t_when : Int64) (t_then : Int64) (t_at : Int32) (t_token : Int32) (t_start : Int32) (t_valMany : Int32) (t_waitMany : Int32) (t_open : Int32) (t_saying : Int64) (t_quarrel : Int32) (a1 : Int32) (o : Int32 × Int64) (ho : f_X8_adds t_trace a1 = some o)  : Met l yX8_adds wsX8_adds ({ frames := 0, cells := 0, slots := 0, locals := 0 } : Room) (pcA G [.ref h_t, .int a1] [(h_t, .inr (8, [.long t_trace, .ref h_t_text, .int t_typed, .ref h_t_said, .ref h_t_many, .long t_when, .long t_then, .ref h_t_grades, .ref h_t_doubts, .int t_at, .int t_token, .int t_start, .ref h_t_vals, .ref h_t_waits, .int t_valMany, .int t_waitMany, .int t_open, .long t_saying, .ref h_t_fresh, .ref h_t_freshMany, .int t_quarrel]))] sz) (qcI Unit G o.1 (fun _ => True) (fun _ => [(h_t, .inr (8, [.long o.2, .ref h_t_text, .int t_typed, .ref h_t_said, .ref h_t_many, .long t_when, .long t_then, .ref h_t_grades, .ref h_t_doubts, .int t_at, .int t_token, .int t_start, .ref h_t_vals, .ref h_t_waits, .int t_valMany, .int t_waitMany, .int t_open, .long t_saying, .ref h_t_fresh, .ref h_t_freshMany, .int t_quarrel]))]) (va_A [(h_t, .inr (8, [.long t_trace, .ref h_t_text, .int t_typed, .ref h_t_said, .ref h_t_many, .long t_when, .long t_then, .ref h_t_grades, .ref h_t_doubts, .int t_at, .int t_token, .int t_start, .ref h_t_vals, .ref h_t_waits, .int t_valMany, .int t_waitMany, .int t_open, .long t_saying, .ref h_t_fresh, .ref h_t_freshMany, .int t_quarrel]))] sz)) 0 0 (va_A [(h_t, .inr (8, [.long t_trace, .ref h_t_text, .int t_typed, .ref h_t_said, .ref h_t_many, .long t_when, .long t_then, .ref h_t_grades, .ref h_t_doubts, .int t_at, .int t_token, .int t_start, .ref h_t_vals, .ref h_t_waits, .int t_valMany, .int t_waitMany, .int t_open, .long t_saying, .ref h_t_fresh, .ref h_t_freshMany, .int t_quarrel]))] sz) := by
  refine Met.ofW (cc := cX8_adds) (maxL := 2) (ret := (some .int)) (by decide) rfl ?_
  intro p e s m args below meth c s₁ B hml hv
  obtain ⟨rfl, hsz, hP, hg, hD0, hc⟩ := hv
  have hx := B.exec
  have hb := B.bytes
  have hr := B.returns
  have hts := atoms_spec (ws := wsX8_adds) B.pre
  have hown : s.vm.findClass RX8 = some m.cls := findClass_of_methodNamed B.named
  have hlocks := B.notSynchronized
  subst hsz
  have hD := hD0.self (sz := s.heap.size)
  generalize hAe : va_A [(h_t, .inr (8, [.long t_trace, .ref h_t_text, .int t_typed, .ref h_t_said, .ref h_t_many, .long t_when, .long t_then, .ref h_t_grades, .ref h_t_doubts, .int t_at, .int t_token, .int t_start, .ref h_t_vals, .ref h_t_waits, .int t_valMany, .int t_waitMany, .int t_open, .long t_saying, .ref h_t_fresh, .ref h_t_freshMany, .int t_quarrel]))] s.heap.size = A at hD hc ⊢
  have hA : ∀ q : Nat, s.heap.size ≤ q → A q := fun q h => by rw [← hAe]; exact Or.inr h
  have hiX8 : ∀ w ∈ wsX80, w ∈ wsX8_adds := by decide +kernel
  have hl := lv_entry ([.ref h_t, .int a1]) (n := 2) (Nat.le_of_ble_eq_true rfl)
  rw [lg_entry_eq]
  generalize (lg_sl ([.ref h_t, .int a1]) ++ List.replicate (2 - (lg_sl ([.ref h_t, .int a1])).length) Slot.unset).toArray = ls at hl ⊢
  have hl : lv_has ls 2 [(0, .ref h_t), (1, .int a1)] := hl
  have hf := ho
  unfold f_X8_adds at hf
  refine en (fun H locs hP hD hS => ?_) hP hD
  refine lv_aload_n hx hb dX8_adds_0 rfl (lv_at hl 0 rfl) ?_
  refine lv_dup hx hb dX8_adds_1 rfl ?_
  refine va_get (D := G.1) (ci := 8) (v := .long t_trace) (C := RX8) (T := TX8) (N := 21) hx hb hts hiX8 hown hg.1 hP 0 rfl rfl 0 (by decide) (hts (.fieldLink RX8 235 "AsARuleModel" "trace" "J") (by decide +kernel)) (fun _ h9 => h9) rfl dX8_adds_2 ?_
  refine lv_iload_n hx hb dX8_adds_5 rfl (lv_at hl 1 rfl) ?_
  refine lv_i2l (v := (a1).toInt64) hx hb dX8_adds_6 rfl ?_
  refine lv_ladd hx hb dX8_adds_7 ?_
  refine lv_topl (fun x1 ex1 => ?_)
  have hf := lt_n hf x1 ex1
  refine va_put (D := G.1) (ci := 8) (v := .long x1) (ty := .long) (C := RX8) (T := TX8) (N := 21) hx hb hts hiX8 tyX8 tyX8_ok nmX8 hown hg.1 hP hD hS 0 rfl rfl 0 (by decide) (hts (.fieldLink RX8 235 "AsARuleModel" "trace" "J") (by decide +kernel)) (fun _ h9 => h9) rfl (by decide +kernel) rfl rfl (Nat.le_of_ble_eq_true rfl) dX8_adds_8 (fun H locs hP hD hS => ?_)
  have hP : va_P G.1 vwCl [(h_t, .inr (8, [.long x1, .ref h_t_text, .int t_typed, .ref h_t_said, .ref h_t_many, .long t_when, .long t_then, .ref h_t_grades, .ref h_t_doubts, .int t_at, .int t_token, .int t_start, .ref h_t_vals, .ref h_t_waits, .int t_valMany, .int t_waitMany, .int t_open, .long t_saying, .ref h_t_fresh, .ref h_t_freshMany, .int t_quarrel]))] H := hP
  have hD : va_D A [(h_t, .inr (8, [.long x1, .ref h_t_text, .int t_typed, .ref h_t_said, .ref h_t_many, .long t_when, .long t_then, .ref h_t_grades, .ref h_t_doubts, .int t_at, .int t_token, .int t_start, .ref h_t_vals, .ref h_t_waits, .int t_valMany, .int t_waitMany, .int t_open, .long t_saying, .ref h_t_fresh, .ref h_t_freshMany, .int t_quarrel]))] := hD
  refine lv_iconst (v := (0 : Int32)) hx hb dX8_adds_11 (by decide) ?_
  rw [← Option.some.inj hf]
  exact rt_i (u := ()) hx hb hr hlocks hP hD trivial hS dX8_adds_12
-- method X8_saying
def f_X8_saying (t_trace : Int64) (t_said : Nat → Int64) (t_many : Nat → Int32) (a1 : Int32) : Option (Int32 × Int64) :=
  bd (f_X8_adds t_trace (1 : Int32)) (fun o1 => bd (f_X8_thereNow t_said t_many) (fun o2 => gd (ib ((9 : Int32) + a1) 45) (bd (f_X8_sizeOf (o2 &&& (t_said ((9 : Int32) + a1).toNatClampNeg))) (fun o3 => some ((o1.1 + o3), o1.2)))))
set_option maxHeartbeats 4000000 in
set_option maxRecDepth 100000 in
theorem c_X8_saying (l : Launch) (G : GG) (h_t h_t_text h_t_said h_t_many h_t_grades h_t_doubts h_t_vals h_t_waits h_t_fresh h_t_freshMany : Nat) (sz : Nat) (t_trace : Int64) (t_typed : Int32) (t_when : Int64) (t_then : Int64) (t_at : Int32) (t_token : Int32) (t_start : Int32) (t_valMany : Int32) (t_waitMany : Int32) (t_open : Int32) (t_saying : Int64) (t_quarrel : Int32) (t_said : Nat → Int64) (t_many : Nat → Int32) (a1 : Int32) (o : Int32 × Int64) (ho : f_X8_saying t_trace t_said t_many a1 = some o)  : Met l yX8_saying wsX8_saying ({ frames := 2, cells := 0, slots := 0, locals := 45 } : Room) (pcA G [.ref h_t, .int a1] [(h_t, .inr (8, [.long t_trace, .ref h_t_text, .int t_typed, .ref h_t_said, .ref h_t_many, .long t_when, .long t_then, .ref h_t_grades, .ref h_t_doubts, .int t_at, .int t_token, .int t_start, .ref h_t_vals, .ref h_t_waits, .int t_valMany, .int t_waitMany, .int t_open, .long t_saying, .ref h_t_fresh, .ref h_t_freshMany, .int t_quarrel])), (h_t_said, .inl (G.2.1.2.2, 45, .inr (.inl t_said))), (h_t_many, .inl (G.2.1.2.1, 5, .inl t_many))] sz) (qcI Unit G o.1 (fun _ => True) (fun _ => [(h_t, .inr (8, [.long o.2, .ref h_t_text, .int t_typed, .ref h_t_said, .ref h_t_many, .long t_when, .long t_then, .ref h_t_grades, .ref h_t_doubts, .int t_at, .int t_token, .int t_start, .ref h_t_vals, .ref h_t_waits, .int t_valMany, .int t_waitMany, .int t_open, .long t_saying, .ref h_t_fresh, .ref h_t_freshMany, .int t_quarrel])), (h_t_said, .inl (G.2.1.2.2, 45, .inr (.inl t_said))), (h_t_many, .inl (G.2.1.2.1, 5, .inl t_many))]) (va_A [(h_t, .inr (8, [.long t_trace, .ref h_t_text, .int t_typed, .ref h_t_said, .ref h_t_many, .long t_when, .long t_then, .ref h_t_grades, .ref h_t_doubts, .int t_at, .int t_token, .int t_start, .ref h_t_vals, .ref h_t_waits, .int t_valMany, .int t_waitMany, .int t_open, .long t_saying, .ref h_t_fresh, .ref h_t_freshMany, .int t_quarrel])), (h_t_said, .inl (G.2.1.2.2, 45, .inr (.inl t_said))), (h_t_many, .inl (G.2.1.2.1, 5, .inl t_many))] sz)) 0 0 (va_A [(h_t, .inr (8, [.long t_trace, .ref h_t_text, .int t_typed, .ref h_t_said, .ref h_t_many, .long t_when, .long t_then, .ref h_t_grades, .ref h_t_doubts, .int t_at, .int t_token, .int t_start, .ref h_t_vals, .ref h_t_waits, .int t_valMany, .int t_waitMany, .int t_open, .long t_saying, .ref h_t_fresh, .ref h_t_freshMany, .int t_quarrel])), (h_t_said, .inl (G.2.1.2.2, 45, .inr (.inl t_said))), (h_t_many, .inl (G.2.1.2.1, 5, .inl t_many))] sz) := by
  refine Met.ofW (cc := cX8_saying) (maxL := 2) (ret := (some .int)) (by decide) rfl ?_
  intro p e s m args below meth c s₁ B hml hv
  obtain ⟨rfl, hsz, hP, hg, hD0, hc⟩ := hv
  have hx := B.exec
  have hb := B.bytes
  have hr := B.returns
  have hts := atoms_spec (ws := wsX8_saying) B.pre
  have hown : s.vm.findClass RX8 = some m.cls := findClass_of_methodNamed B.named
  have hlocks := B.notSynchronized
  subst hsz
  have hD := hD0.self (sz := s.heap.size)
  generalize hAe : va_A [(h_t, .inr (8, [.long t_trace, .ref h_t_text, .int t_typed, .ref h_t_said, .ref h_t_many, .long t_when, .long t_then, .ref h_t_grades, .ref h_t_doubts, .int t_at, .int t_token, .int t_start, .ref h_t_vals, .ref h_t_waits, .int t_valMany, .int t_waitMany, .int t_open, .long t_saying, .ref h_t_fresh, .ref h_t_freshMany, .int t_quarrel])), (h_t_said, .inl (G.2.1.2.2, 45, .inr (.inl t_said))), (h_t_many, .inl (G.2.1.2.1, 5, .inl t_many))] s.heap.size = A at hD hc ⊢
  have hA : ∀ q : Nat, s.heap.size ≤ q → A q := fun q h => by rw [← hAe]; exact Or.inr h
  have hiX8 : ∀ w ∈ wsX80, w ∈ wsX8_saying := by decide +kernel
  have hl := lv_entry ([.ref h_t, .int a1]) (n := 2) (Nat.le_of_ble_eq_true rfl)
  rw [lg_entry_eq]
  generalize (lg_sl ([.ref h_t, .int a1]) ++ List.replicate (2 - (lg_sl ([.ref h_t, .int a1])).length) Slot.unset).toArray = ls at hl ⊢
  have hl : lv_has ls 2 [(0, .ref h_t), (1, .int a1)] := hl
  have hf := ho
  unfold f_X8_saying at hf
  refine en (fun H locs hP hD hS => ?_) hP hD
  refine lv_aload_n hx hb dX8_saying_0 rfl (lv_at hl 0 rfl) ?_
  refine lv_iconst (v := (1 : Int32)) hx hb dX8_saying_1 (by decide) ?_
  obtain ⟨o1, ho1, hf⟩ := bd_e hf
  refine af_i (wr := [(h_t_said, .inl (G.2.1.2.2, 45, .inr (.inl t_said))), (h_t_many, .inl (G.2.1.2.1, 5, .inl t_many))]) (va_runV (As := [.int (1 : Int32)]) (rest := []) ⟨hx, hb, hml, hown, hts⟩ (c_X8_adds l G h_t h_t_text h_t_said h_t_many h_t_grades h_t_doubts h_t_vals h_t_waits h_t_fresh h_t_freshMany H.size t_trace t_typed t_when t_then t_at t_token t_start t_valMany t_waitMany t_open t_saying t_quarrel (1 : Int32) o1 ho1) (cwV 1 hts gX8_saying_X8_adds rfl rfl rfl (by decide +kernel) ⟨Nat.le_of_ble_eq_true rfl, Nat.le_of_ble_eq_true rfl⟩) (pcA_preV hg hc hP hD hS hA [0] rfl (by decide) (q0 := 0) (ci := 8) rfl rfl rfl) rfl rfl hl.1 rfl (lv_room (Nat.le_of_ble_eq_true rfl)) dX8_saying_2 ⟨Nat.zero_le _, Nat.zero_le _⟩) hP hD hS hA [0] [1, 2] rfl rfl (by decide) (by decide) (fun _ H locs _ hP hD hS => ?_)
  have hP : va_P G.1 vwCl [(h_t, .inr (8, [.long o1.2, .ref h_t_text, .int t_typed, .ref h_t_said, .ref h_t_many, .long t_when, .long t_then, .ref h_t_grades, .ref h_t_doubts, .int t_at, .int t_token, .int t_start, .ref h_t_vals, .ref h_t_waits, .int t_valMany, .int t_waitMany, .int t_open, .long t_saying, .ref h_t_fresh, .ref h_t_freshMany, .int t_quarrel])), (h_t_said, .inl (G.2.1.2.2, 45, .inr (.inl t_said))), (h_t_many, .inl (G.2.1.2.1, 5, .inl t_many))] H := hP.sub [2, 0, 1] rfl
  have hD : va_D A [(h_t, .inr (8, [.long o1.2, .ref h_t_text, .int t_typed, .ref h_t_said, .ref h_t_many, .long t_when, .long t_then, .ref h_t_grades, .ref h_t_doubts, .int t_at, .int t_token, .int t_start, .ref h_t_vals, .ref h_t_waits, .int t_valMany, .int t_waitMany, .int t_open, .long t_saying, .ref h_t_fresh, .ref h_t_freshMany, .int t_quarrel])), (h_t_said, .inl (G.2.1.2.2, 45, .inr (.inl t_said))), (h_t_many, .inl (G.2.1.2.1, 5, .inl t_many))] := hD.sub [2, 0, 1] (by decide) rfl
  refine lv_aload_n hx hb dX8_saying_5 rfl (lv_at hl 0 rfl) ?_
  obtain ⟨o2, ho2, hf⟩ := bd_e hf
  refine af_l (wr := []) (va_runV (As := []) (rest := [.int o1.1]) ⟨hx, hb, hml, hown, hts⟩ (c_X8_thereNow l G h_t h_t_text h_t_said h_t_many h_t_grades h_t_doubts h_t_vals h_t_waits h_t_fresh h_t_freshMany H.size o1.2 t_typed t_when t_then t_at t_token t_start t_valMany t_waitMany t_open t_saying t_quarrel t_said t_many o2 ho2) (cwV 0 hts gX8_saying_X8_thereNow rfl rfl rfl (by decide +kernel) ⟨Nat.le_of_ble_eq_true rfl, Nat.le_of_ble_eq_true rfl⟩) (pcA_preV hg hc hP hD hS hA [0, 1, 2] rfl (by decide) (q0 := 0) (ci := 8) rfl rfl rfl) rfl rfl hl.1 rfl (lv_room (Nat.le_of_ble_eq_true rfl)) dX8_saying_6 ⟨Nat.zero_le _, Nat.zero_le _⟩) hP hD hS hA [0, 1, 2] [] rfl rfl (by decide) (by decide) (fun _ H locs _ hP hD hS => ?_)
  have hP : va_P G.1 vwCl [(h_t, .inr (8, [.long o1.2, .ref h_t_text, .int t_typed, .ref h_t_said, .ref h_t_many, .long t_when, .long t_then, .ref h_t_grades, .ref h_t_doubts, .int t_at, .int t_token, .int t_start, .ref h_t_vals, .ref h_t_waits, .int t_valMany, .int t_waitMany, .int t_open, .long t_saying, .ref h_t_fresh, .ref h_t_freshMany, .int t_quarrel])), (h_t_said, .inl (G.2.1.2.2, 45, .inr (.inl t_said))), (h_t_many, .inl (G.2.1.2.1, 5, .inl t_many))] H := hP
  have hD : va_D A [(h_t, .inr (8, [.long o1.2, .ref h_t_text, .int t_typed, .ref h_t_said, .ref h_t_many, .long t_when, .long t_then, .ref h_t_grades, .ref h_t_doubts, .int t_at, .int t_token, .int t_start, .ref h_t_vals, .ref h_t_waits, .int t_valMany, .int t_waitMany, .int t_open, .long t_saying, .ref h_t_fresh, .ref h_t_freshMany, .int t_quarrel])), (h_t_said, .inl (G.2.1.2.2, 45, .inr (.inl t_said))), (h_t_many, .inl (G.2.1.2.1, 5, .inl t_many))] := hD
  refine lv_aload_n hx hb dX8_saying_9 rfl (lv_at hl 0 rfl) ?_
  refine va_get (D := G.1) (ci := 8) (v := .ref h_t_said) (C := RX8) (T := TX8) (N := 21) hx hb hts hiX8 hown hg.1 hP 0 rfl rfl 3 (by decide) (hts (.fieldLink RX8 13 "AsARuleModel" "said" "[J") (by decide +kernel)) (fun _ h9 => h9) rfl dX8_saying_10 ?_
  refine lv_bipush (v := (9 : Int32)) hx hb dX8_saying_13 (by decide) ?_
  refine lv_iload_n hx hb dX8_saying_15 rfl (lv_at hl 1 rfl) ?_
  refine lv_iadd hx hb dX8_saying_16 ?_
  refine va_lald hx hb hg.1 hP 1 2 rfl rfl (ib_in (gd_t hf)) dX8_saying_17 ?_
  have hf := gd_x hf
  refine lv_land hx hb dX8_saying_18 ?_
  obtain ⟨o3, ho3, hf⟩ := bd_e hf
  refine af0_i (va_runS (As := [.long (o2 &&& (t_said ((9 : Int32) + a1).toNatClampNeg))]) (rest := [.int o1.1]) ⟨hx, hb, hml, hown, hts⟩ (c_X8_sizeOf l G H.size (o2 &&& (t_said ((9 : Int32) + a1).toNatClampNeg)) o3 ho3) (va_cwS 1 hts gX8_saying_X8_sizeOf rfl rfl rfl (by decide +kernel) ⟨Nat.le_of_ble_eq_true rfl, Nat.le_of_ble_eq_true rfl⟩) (pcA_pre hg hc hP hD hS hA [] rfl rfl [.long (o2 &&& (t_said ((9 : Int32) + a1).toNatClampNeg))]) rfl rfl hl.1 rfl (lv_room (Nat.le_of_ble_eq_true rfl)) dX8_saying_19 ⟨Nat.zero_le _, Nat.zero_le _⟩) hP hD hS hA (fun H locs hP hD hS => ?_)
  refine lv_iadd hx hb dX8_saying_22 ?_
  rw [← Option.some.inj hf]
  exact rt_i (u := ()) hx hb hr hlocks hP hD trivial hS dX8_saying_23
-- method X8_ruled
def f_X8_ruled (t_trace : Int64) (t_said : Nat → Int64) (t_many : Nat → Int32) (t_grades : Nat → Int32) (a1 : Int32) : Option (Int32 × Int64) :=
  bd (f_X8_adds t_trace (10 : Int32)) (fun o1 => bd (f_X8_saying o1.2 t_said t_many a1) (fun o2 => bd (f_X8_gradeOfRule t_grades a1) (fun o3 => some (((o1.1 + o2.1) + o3), o2.2))))
set_option maxHeartbeats 4000000 in
set_option maxRecDepth 100000 in
theorem c_X8_ruled (l : Launch) (G : GG) (h_t h_t_text h_t_said h_t_many h_t_grades h_t_doubts h_t_vals h_t_waits h_t_fresh h_t_freshMany : Nat) (sz : Nat) (t_trace : Int64) (t_typed : Int32) (t_when : Int64) (t_then : Int64) (t_at : Int32) (t_token : Int32) (t_start : Int32) (t_valMany : Int32) (t_waitMany : Int32) (t_open : Int32) (t_saying : Int64) (t_quarrel : Int32) (t_said : Nat → Int64) (t_many : Nat → Int32) (t_grades : Nat → Int32) (a1 : Int32) (o : Int32 × Int64) (ho : f_X8_ruled t_trace t_said t_many t_grades a1 = some o)  : Met l yX8_ruled wsX8_ruled ({ frames := 3, cells := 0, slots := 0, locals := 66 } : Room) (pcA G [.ref h_t, .int a1] [(h_t, .inr (8, [.long t_trace, .ref h_t_text, .int t_typed, .ref h_t_said, .ref h_t_many, .long t_when, .long t_then, .ref h_t_grades, .ref h_t_doubts, .int t_at, .int t_token, .int t_start, .ref h_t_vals, .ref h_t_waits, .int t_valMany, .int t_waitMany, .int t_open, .long t_saying, .ref h_t_fresh, .ref h_t_freshMany, .int t_quarrel])), (h_t_said, .inl (G.2.1.2.2, 45, .inr (.inl t_said))), (h_t_many, .inl (G.2.1.2.1, 5, .inl t_many)), (h_t_grades, .inl (G.2.1.2.1, 9, .inl t_grades))] sz) (qcI Unit G o.1 (fun _ => True) (fun _ => [(h_t, .inr (8, [.long o.2, .ref h_t_text, .int t_typed, .ref h_t_said, .ref h_t_many, .long t_when, .long t_then, .ref h_t_grades, .ref h_t_doubts, .int t_at, .int t_token, .int t_start, .ref h_t_vals, .ref h_t_waits, .int t_valMany, .int t_waitMany, .int t_open, .long t_saying, .ref h_t_fresh, .ref h_t_freshMany, .int t_quarrel])), (h_t_said, .inl (G.2.1.2.2, 45, .inr (.inl t_said))), (h_t_many, .inl (G.2.1.2.1, 5, .inl t_many)), (h_t_grades, .inl (G.2.1.2.1, 9, .inl t_grades))]) (va_A [(h_t, .inr (8, [.long t_trace, .ref h_t_text, .int t_typed, .ref h_t_said, .ref h_t_many, .long t_when, .long t_then, .ref h_t_grades, .ref h_t_doubts, .int t_at, .int t_token, .int t_start, .ref h_t_vals, .ref h_t_waits, .int t_valMany, .int t_waitMany, .int t_open, .long t_saying, .ref h_t_fresh, .ref h_t_freshMany, .int t_quarrel])), (h_t_said, .inl (G.2.1.2.2, 45, .inr (.inl t_said))), (h_t_many, .inl (G.2.1.2.1, 5, .inl t_many)), (h_t_grades, .inl (G.2.1.2.1, 9, .inl t_grades))] sz)) 0 0 (va_A [(h_t, .inr (8, [.long t_trace, .ref h_t_text, .int t_typed, .ref h_t_said, .ref h_t_many, .long t_when, .long t_then, .ref h_t_grades, .ref h_t_doubts, .int t_at, .int t_token, .int t_start, .ref h_t_vals, .ref h_t_waits, .int t_valMany, .int t_waitMany, .int t_open, .long t_saying, .ref h_t_fresh, .ref h_t_freshMany, .int t_quarrel])), (h_t_said, .inl (G.2.1.2.2, 45, .inr (.inl t_said))), (h_t_many, .inl (G.2.1.2.1, 5, .inl t_many)), (h_t_grades, .inl (G.2.1.2.1, 9, .inl t_grades))] sz) := by
  refine Met.ofW (cc := cX8_ruled) (maxL := 2) (ret := (some .int)) (by decide) rfl ?_
  intro p e s m args below meth c s₁ B hml hv
  obtain ⟨rfl, hsz, hP, hg, hD0, hc⟩ := hv
  have hx := B.exec
  have hb := B.bytes
  have hr := B.returns
  have hts := atoms_spec (ws := wsX8_ruled) B.pre
  have hown : s.vm.findClass RX8 = some m.cls := findClass_of_methodNamed B.named
  have hlocks := B.notSynchronized
  subst hsz
  have hD := hD0.self (sz := s.heap.size)
  generalize hAe : va_A [(h_t, .inr (8, [.long t_trace, .ref h_t_text, .int t_typed, .ref h_t_said, .ref h_t_many, .long t_when, .long t_then, .ref h_t_grades, .ref h_t_doubts, .int t_at, .int t_token, .int t_start, .ref h_t_vals, .ref h_t_waits, .int t_valMany, .int t_waitMany, .int t_open, .long t_saying, .ref h_t_fresh, .ref h_t_freshMany, .int t_quarrel])), (h_t_said, .inl (G.2.1.2.2, 45, .inr (.inl t_said))), (h_t_many, .inl (G.2.1.2.1, 5, .inl t_many)), (h_t_grades, .inl (G.2.1.2.1, 9, .inl t_grades))] s.heap.size = A at hD hc ⊢
  have hA : ∀ q : Nat, s.heap.size ≤ q → A q := fun q h => by rw [← hAe]; exact Or.inr h
  have hl := lv_entry ([.ref h_t, .int a1]) (n := 2) (Nat.le_of_ble_eq_true rfl)
  rw [lg_entry_eq]
  generalize (lg_sl ([.ref h_t, .int a1]) ++ List.replicate (2 - (lg_sl ([.ref h_t, .int a1])).length) Slot.unset).toArray = ls at hl ⊢
  have hl : lv_has ls 2 [(0, .ref h_t), (1, .int a1)] := hl
  have hf := ho
  unfold f_X8_ruled at hf
  refine en (fun H locs hP hD hS => ?_) hP hD
  refine lv_aload_n hx hb dX8_ruled_0 rfl (lv_at hl 0 rfl) ?_
  refine lv_bipush (v := (10 : Int32)) hx hb dX8_ruled_1 (by decide) ?_
  obtain ⟨o1, ho1, hf⟩ := bd_e hf
  refine af_i (wr := [(h_t_said, .inl (G.2.1.2.2, 45, .inr (.inl t_said))), (h_t_many, .inl (G.2.1.2.1, 5, .inl t_many)), (h_t_grades, .inl (G.2.1.2.1, 9, .inl t_grades))]) (va_runV (As := [.int (10 : Int32)]) (rest := []) ⟨hx, hb, hml, hown, hts⟩ (c_X8_adds l G h_t h_t_text h_t_said h_t_many h_t_grades h_t_doubts h_t_vals h_t_waits h_t_fresh h_t_freshMany H.size t_trace t_typed t_when t_then t_at t_token t_start t_valMany t_waitMany t_open t_saying t_quarrel (10 : Int32) o1 ho1) (cwV 1 hts gX8_ruled_X8_adds rfl rfl rfl (by decide +kernel) ⟨Nat.le_of_ble_eq_true rfl, Nat.le_of_ble_eq_true rfl⟩) (pcA_preV hg hc hP hD hS hA [0] rfl (by decide) (q0 := 0) (ci := 8) rfl rfl rfl) rfl rfl hl.1 rfl (lv_room (Nat.le_of_ble_eq_true rfl)) dX8_ruled_3 ⟨Nat.zero_le _, Nat.zero_le _⟩) hP hD hS hA [0] [1, 2, 3] rfl rfl (by decide) (by decide) (fun _ H locs _ hP hD hS => ?_)
  have hP : va_P G.1 vwCl [(h_t, .inr (8, [.long o1.2, .ref h_t_text, .int t_typed, .ref h_t_said, .ref h_t_many, .long t_when, .long t_then, .ref h_t_grades, .ref h_t_doubts, .int t_at, .int t_token, .int t_start, .ref h_t_vals, .ref h_t_waits, .int t_valMany, .int t_waitMany, .int t_open, .long t_saying, .ref h_t_fresh, .ref h_t_freshMany, .int t_quarrel])), (h_t_said, .inl (G.2.1.2.2, 45, .inr (.inl t_said))), (h_t_many, .inl (G.2.1.2.1, 5, .inl t_many)), (h_t_grades, .inl (G.2.1.2.1, 9, .inl t_grades))] H := hP.sub [3, 0, 1, 2] rfl
  have hD : va_D A [(h_t, .inr (8, [.long o1.2, .ref h_t_text, .int t_typed, .ref h_t_said, .ref h_t_many, .long t_when, .long t_then, .ref h_t_grades, .ref h_t_doubts, .int t_at, .int t_token, .int t_start, .ref h_t_vals, .ref h_t_waits, .int t_valMany, .int t_waitMany, .int t_open, .long t_saying, .ref h_t_fresh, .ref h_t_freshMany, .int t_quarrel])), (h_t_said, .inl (G.2.1.2.2, 45, .inr (.inl t_said))), (h_t_many, .inl (G.2.1.2.1, 5, .inl t_many)), (h_t_grades, .inl (G.2.1.2.1, 9, .inl t_grades))] := hD.sub [3, 0, 1, 2] (by decide) rfl
  refine lv_aload_n hx hb dX8_ruled_6 rfl (lv_at hl 0 rfl) ?_
  refine lv_iload_n hx hb dX8_ruled_7 rfl (lv_at hl 1 rfl) ?_
  obtain ⟨o2, ho2, hf⟩ := bd_e hf
  refine af_i (wr := [(h_t_grades, .inl (G.2.1.2.1, 9, .inl t_grades))]) (va_runV (As := [.int a1]) (rest := [.int o1.1]) ⟨hx, hb, hml, hown, hts⟩ (c_X8_saying l G h_t h_t_text h_t_said h_t_many h_t_grades h_t_doubts h_t_vals h_t_waits h_t_fresh h_t_freshMany H.size o1.2 t_typed t_when t_then t_at t_token t_start t_valMany t_waitMany t_open t_saying t_quarrel t_said t_many a1 o2 ho2) (cwV 1 hts gX8_ruled_X8_saying rfl rfl rfl (by decide +kernel) ⟨Nat.le_of_ble_eq_true rfl, Nat.le_of_ble_eq_true rfl⟩) (pcA_preV hg hc hP hD hS hA [0, 1, 2] rfl (by decide) (q0 := 0) (ci := 8) rfl rfl rfl) rfl rfl hl.1 rfl (lv_room (Nat.le_of_ble_eq_true rfl)) dX8_ruled_8 ⟨Nat.zero_le _, Nat.zero_le _⟩) hP hD hS hA [0, 1, 2] [3] rfl rfl (by decide) (by decide) (fun _ H locs _ hP hD hS => ?_)
  have hP : va_P G.1 vwCl [(h_t, .inr (8, [.long o2.2, .ref h_t_text, .int t_typed, .ref h_t_said, .ref h_t_many, .long t_when, .long t_then, .ref h_t_grades, .ref h_t_doubts, .int t_at, .int t_token, .int t_start, .ref h_t_vals, .ref h_t_waits, .int t_valMany, .int t_waitMany, .int t_open, .long t_saying, .ref h_t_fresh, .ref h_t_freshMany, .int t_quarrel])), (h_t_said, .inl (G.2.1.2.2, 45, .inr (.inl t_said))), (h_t_many, .inl (G.2.1.2.1, 5, .inl t_many)), (h_t_grades, .inl (G.2.1.2.1, 9, .inl t_grades))] H := hP.sub [1, 2, 3, 0] rfl
  have hD : va_D A [(h_t, .inr (8, [.long o2.2, .ref h_t_text, .int t_typed, .ref h_t_said, .ref h_t_many, .long t_when, .long t_then, .ref h_t_grades, .ref h_t_doubts, .int t_at, .int t_token, .int t_start, .ref h_t_vals, .ref h_t_waits, .int t_valMany, .int t_waitMany, .int t_open, .long t_saying, .ref h_t_fresh, .ref h_t_freshMany, .int t_quarrel])), (h_t_said, .inl (G.2.1.2.2, 45, .inr (.inl t_said))), (h_t_many, .inl (G.2.1.2.1, 5, .inl t_many)), (h_t_grades, .inl (G.2.1.2.1, 9, .inl t_grades))] := hD.sub [1, 2, 3, 0] (by decide) rfl
  refine lv_iadd hx hb dX8_ruled_11 ?_
  refine lv_aload_n hx hb dX8_ruled_12 rfl (lv_at hl 0 rfl) ?_
  refine lv_iload_n hx hb dX8_ruled_13 rfl (lv_at hl 1 rfl) ?_
  obtain ⟨o3, ho3, hf⟩ := bd_e hf
  refine af_i (wr := [(h_t_said, .inl (G.2.1.2.2, 45, .inr (.inl t_said))), (h_t_many, .inl (G.2.1.2.1, 5, .inl t_many))]) (va_runV (As := [.int a1]) (rest := [.int (o1.1 + o2.1)]) ⟨hx, hb, hml, hown, hts⟩ (c_X8_gradeOfRule l G h_t h_t_text h_t_said h_t_many h_t_grades h_t_doubts h_t_vals h_t_waits h_t_fresh h_t_freshMany H.size o2.2 t_typed t_when t_then t_at t_token t_start t_valMany t_waitMany t_open t_saying t_quarrel t_grades a1 o3 ho3) (cwV 1 hts gX8_ruled_X8_gradeOfRule rfl rfl rfl (by decide +kernel) ⟨Nat.le_of_ble_eq_true rfl, Nat.le_of_ble_eq_true rfl⟩) (pcA_preV hg hc hP hD hS hA [0, 3] rfl (by decide) (q0 := 0) (ci := 8) rfl rfl rfl) rfl rfl hl.1 rfl (lv_room (Nat.le_of_ble_eq_true rfl)) dX8_ruled_14 ⟨Nat.zero_le _, Nat.zero_le _⟩) hP hD hS hA [0, 3] [1, 2] rfl rfl (by decide) (by decide) (fun _ H locs _ hP hD hS => ?_)
  have hP : va_P G.1 vwCl [(h_t, .inr (8, [.long o2.2, .ref h_t_text, .int t_typed, .ref h_t_said, .ref h_t_many, .long t_when, .long t_then, .ref h_t_grades, .ref h_t_doubts, .int t_at, .int t_token, .int t_start, .ref h_t_vals, .ref h_t_waits, .int t_valMany, .int t_waitMany, .int t_open, .long t_saying, .ref h_t_fresh, .ref h_t_freshMany, .int t_quarrel])), (h_t_said, .inl (G.2.1.2.2, 45, .inr (.inl t_said))), (h_t_many, .inl (G.2.1.2.1, 5, .inl t_many)), (h_t_grades, .inl (G.2.1.2.1, 9, .inl t_grades))] H := hP.sub [2, 0, 1, 3] rfl
  have hD : va_D A [(h_t, .inr (8, [.long o2.2, .ref h_t_text, .int t_typed, .ref h_t_said, .ref h_t_many, .long t_when, .long t_then, .ref h_t_grades, .ref h_t_doubts, .int t_at, .int t_token, .int t_start, .ref h_t_vals, .ref h_t_waits, .int t_valMany, .int t_waitMany, .int t_open, .long t_saying, .ref h_t_fresh, .ref h_t_freshMany, .int t_quarrel])), (h_t_said, .inl (G.2.1.2.2, 45, .inr (.inl t_said))), (h_t_many, .inl (G.2.1.2.1, 5, .inl t_many)), (h_t_grades, .inl (G.2.1.2.1, 9, .inl t_grades))] := hD.sub [2, 0, 1, 3] (by decide) rfl
  refine lv_iadd hx hb dX8_ruled_17 ?_
  rw [← Option.some.inj hf]
  exact rt_i (u := ()) hx hb hr hlocks hP hD trivial hS dX8_ruled_18
-- method X8_weight
def f_X8_weight (t_trace : Int64) (t_said : Nat → Int64) (t_many : Nat → Int32) (t_grades : Nat → Int32) (a1 : Int32) (a2 : Int32) : Option (Int32 × Int64) :=
  bd (f_X8_in ((a1).toInt64) (0 : Int64) (3 : Int64)) (fun o1 => if o1 = (0 : Int32) then some ((-1000 : Int32), t_trace) else bd (f_X8_isRule t_many a2) (fun o3 => if o3 = (0 : Int32) then some ((-1000 : Int32), t_trace) else if a1 = (0 : Int32) then bd (f_X8_saying t_trace t_said t_many a2) (fun o6 => some (o6.1, o6.2)) else if a1 = (1 : Int32) then bd (f_X8_ruled t_trace t_said t_many t_grades a2) (fun o8 => some (o8.1, o8.2)) else if a1 = (2 : Int32) then bd (f_X8_adds t_trace (100 : Int32)) (fun o10 => bd (f_X8_saying o10.2 t_said t_many a2) (fun o11 => some ((o10.1 + (o11.1 / (2 : Int32))), o11.2))) else bd (f_X8_adds t_trace (1000 : Int32)) (fun o12 => bd (f_X8_ruled o12.2 t_said t_many t_grades a2) (fun o13 => bd (f_X8_thereNow t_said t_many) (fun o14 => bd (f_X8_broken t_said a2) (fun o15 => bd (f_X8_sizeOf (o14 &&& o15)) (fun o16 => some (((o12.1 + ((2 : Int32) * o13.1)) - o16), o13.2))))))))
set_option maxHeartbeats 4000000 in
set_option maxRecDepth 100000 in
theorem c_X8_weight (l : Launch) (G : GG) (h_t h_t_text h_t_said h_t_many h_t_grades h_t_doubts h_t_vals h_t_waits h_t_fresh h_t_freshMany : Nat) (sz : Nat) (t_trace : Int64) (t_typed : Int32) (t_when : Int64) (t_then : Int64) (t_at : Int32) (t_token : Int32) (t_start : Int32) (t_valMany : Int32) (t_waitMany : Int32) (t_open : Int32) (t_saying : Int64) (t_quarrel : Int32) (t_said : Nat → Int64) (t_many : Nat → Int32) (t_grades : Nat → Int32) (a1 : Int32) (a2 : Int32) (o : Int32 × Int64) (ho : f_X8_weight t_trace t_said t_many t_grades a1 a2 = some o)  : Met l yX8_weight wsX8_weight ({ frames := 4, cells := 0, slots := 0, locals := 87 } : Room) (pcA G [.ref h_t, .int a1, .int a2] [(h_t, .inr (8, [.long t_trace, .ref h_t_text, .int t_typed, .ref h_t_said, .ref h_t_many, .long t_when, .long t_then, .ref h_t_grades, .ref h_t_doubts, .int t_at, .int t_token, .int t_start, .ref h_t_vals, .ref h_t_waits, .int t_valMany, .int t_waitMany, .int t_open, .long t_saying, .ref h_t_fresh, .ref h_t_freshMany, .int t_quarrel])), (h_t_said, .inl (G.2.1.2.2, 45, .inr (.inl t_said))), (h_t_many, .inl (G.2.1.2.1, 5, .inl t_many)), (h_t_grades, .inl (G.2.1.2.1, 9, .inl t_grades))] sz) (qcI Unit G o.1 (fun _ => True) (fun _ => [(h_t, .inr (8, [.long o.2, .ref h_t_text, .int t_typed, .ref h_t_said, .ref h_t_many, .long t_when, .long t_then, .ref h_t_grades, .ref h_t_doubts, .int t_at, .int t_token, .int t_start, .ref h_t_vals, .ref h_t_waits, .int t_valMany, .int t_waitMany, .int t_open, .long t_saying, .ref h_t_fresh, .ref h_t_freshMany, .int t_quarrel])), (h_t_said, .inl (G.2.1.2.2, 45, .inr (.inl t_said))), (h_t_many, .inl (G.2.1.2.1, 5, .inl t_many)), (h_t_grades, .inl (G.2.1.2.1, 9, .inl t_grades))]) (va_A [(h_t, .inr (8, [.long t_trace, .ref h_t_text, .int t_typed, .ref h_t_said, .ref h_t_many, .long t_when, .long t_then, .ref h_t_grades, .ref h_t_doubts, .int t_at, .int t_token, .int t_start, .ref h_t_vals, .ref h_t_waits, .int t_valMany, .int t_waitMany, .int t_open, .long t_saying, .ref h_t_fresh, .ref h_t_freshMany, .int t_quarrel])), (h_t_said, .inl (G.2.1.2.2, 45, .inr (.inl t_said))), (h_t_many, .inl (G.2.1.2.1, 5, .inl t_many)), (h_t_grades, .inl (G.2.1.2.1, 9, .inl t_grades))] sz)) 0 0 (va_A [(h_t, .inr (8, [.long t_trace, .ref h_t_text, .int t_typed, .ref h_t_said, .ref h_t_many, .long t_when, .long t_then, .ref h_t_grades, .ref h_t_doubts, .int t_at, .int t_token, .int t_start, .ref h_t_vals, .ref h_t_waits, .int t_valMany, .int t_waitMany, .int t_open, .long t_saying, .ref h_t_fresh, .ref h_t_freshMany, .int t_quarrel])), (h_t_said, .inl (G.2.1.2.2, 45, .inr (.inl t_said))), (h_t_many, .inl (G.2.1.2.1, 5, .inl t_many)), (h_t_grades, .inl (G.2.1.2.1, 9, .inl t_grades))] sz) := by
  refine Met.ofW (cc := cX8_weight) (maxL := 3) (ret := (some .int)) (by decide) rfl ?_
  intro p e s m args below meth c s₁ B hml hv
  obtain ⟨rfl, hsz, hP, hg, hD0, hc⟩ := hv
  have hx := B.exec
  have hb := B.bytes
  have hr := B.returns
  have hts := atoms_spec (ws := wsX8_weight) B.pre
  have hown : s.vm.findClass RX8 = some m.cls := findClass_of_methodNamed B.named
  have hlocks := B.notSynchronized
  subst hsz
  have hD := hD0.self (sz := s.heap.size)
  generalize hAe : va_A [(h_t, .inr (8, [.long t_trace, .ref h_t_text, .int t_typed, .ref h_t_said, .ref h_t_many, .long t_when, .long t_then, .ref h_t_grades, .ref h_t_doubts, .int t_at, .int t_token, .int t_start, .ref h_t_vals, .ref h_t_waits, .int t_valMany, .int t_waitMany, .int t_open, .long t_saying, .ref h_t_fresh, .ref h_t_freshMany, .int t_quarrel])), (h_t_said, .inl (G.2.1.2.2, 45, .inr (.inl t_said))), (h_t_many, .inl (G.2.1.2.1, 5, .inl t_many)), (h_t_grades, .inl (G.2.1.2.1, 9, .inl t_grades))] s.heap.size = A at hD hc ⊢
  have hA : ∀ q : Nat, s.heap.size ≤ q → A q := fun q h => by rw [← hAe]; exact Or.inr h
  have hl := lv_entry ([.ref h_t, .int a1, .int a2]) (n := 3) (Nat.le_of_ble_eq_true rfl)
  rw [lg_entry_eq]
  generalize (lg_sl ([.ref h_t, .int a1, .int a2]) ++ List.replicate (3 - (lg_sl ([.ref h_t, .int a1, .int a2])).length) Slot.unset).toArray = ls at hl ⊢
  have hl : lv_has ls 3 [(0, .ref h_t), (1, .int a1), (2, .int a2)] := hl
  have hf := ho
  unfold f_X8_weight at hf
  refine en (fun H locs hP hD hS => ?_) hP hD
  refine lv_iload_n hx hb dX8_weight_0 rfl (lv_at hl 1 rfl) ?_
  refine lv_i2l (v := (a1).toInt64) hx hb dX8_weight_1 rfl ?_
  refine lv_lconst (v := (0 : Int64)) hx hb dX8_weight_2 (by decide) ?_
  refine lv_ldc2 (v := (3 : Int64)) hx hb hown (hts (.constantLong RX8 199 (3 : Int64)) (by decide +kernel)) dX8_weight_3 ?_
  obtain ⟨o1, ho1, hf⟩ := bd_e hf
  refine af0_i (va_runS (As := [.long ((a1).toInt64), .long (0 : Int64), .long (3 : Int64)]) (rest := []) ⟨hx, hb, hml, hown, hts⟩ (c_X8_in l G H.size ((a1).toInt64) (0 : Int64) (3 : Int64) o1 ho1) (va_cwS 3 hts gX8_weight_X8_in rfl rfl rfl (by decide +kernel) ⟨Nat.le_of_ble_eq_true rfl, Nat.le_of_ble_eq_true rfl⟩) (pcA_pre hg hc hP hD hS hA [] rfl rfl [.long ((a1).toInt64), .long (0 : Int64), .long (3 : Int64)]) rfl rfl hl.1 rfl (lv_room (Nat.le_of_ble_eq_true rfl)) dX8_weight_6 ⟨Nat.zero_le _, Nat.zero_le _⟩) hP hD hS hA (fun H locs hP hD hS => ?_)
  refine lv_if_eq (tgt := 20) hx hb dX8_weight_9 (by decide) (fun c2 => ?_) (fun c2 => ?_)
  · have hf := it_t c2 hf
    refine lv_sipush (v := (-1000 : Int32)) hx hb dX8_weight_20 (by decide) ?_
    rw [← Option.some.inj hf]
    exact rt_i (u := ()) hx hb hr hlocks hP hD trivial hS dX8_weight_23
  · have hf := it_f c2 hf
    refine lv_aload_n hx hb dX8_weight_12 rfl (lv_at hl 0 rfl) ?_
    refine lv_iload_n hx hb dX8_weight_13 rfl (lv_at hl 2 rfl) ?_
    obtain ⟨o3, ho3, hf⟩ := bd_e hf
    refine af_i (wr := [(h_t_said, .inl (G.2.1.2.2, 45, .inr (.inl t_said))), (h_t_grades, .inl (G.2.1.2.1, 9, .inl t_grades))]) (va_runV (As := [.int a2]) (rest := []) ⟨hx, hb, hml, hown, hts⟩ (c_X8_isRule l G h_t h_t_text h_t_said h_t_many h_t_grades h_t_doubts h_t_vals h_t_waits h_t_fresh h_t_freshMany H.size t_trace t_typed t_when t_then t_at t_token t_start t_valMany t_waitMany t_open t_saying t_quarrel t_many a2 o3 ho3) (cwV 1 hts gX8_weight_X8_isRule rfl rfl rfl (by decide +kernel) ⟨Nat.le_of_ble_eq_true rfl, Nat.le_of_ble_eq_true rfl⟩) (pcA_preV hg hc hP hD hS hA [0, 2] rfl (by decide) (q0 := 0) (ci := 8) rfl rfl rfl) rfl rfl hl.1 rfl (lv_room (Nat.le_of_ble_eq_true rfl)) dX8_weight_14 ⟨Nat.zero_le _, Nat.zero_le _⟩) hP hD hS hA [0, 2] [1, 3] rfl rfl (by decide) (by decide) (fun _ H locs _ hP hD hS => ?_)
    have hP : va_P G.1 vwCl [(h_t, .inr (8, [.long t_trace, .ref h_t_text, .int t_typed, .ref h_t_said, .ref h_t_many, .long t_when, .long t_then, .ref h_t_grades, .ref h_t_doubts, .int t_at, .int t_token, .int t_start, .ref h_t_vals, .ref h_t_waits, .int t_valMany, .int t_waitMany, .int t_open, .long t_saying, .ref h_t_fresh, .ref h_t_freshMany, .int t_quarrel])), (h_t_said, .inl (G.2.1.2.2, 45, .inr (.inl t_said))), (h_t_many, .inl (G.2.1.2.1, 5, .inl t_many)), (h_t_grades, .inl (G.2.1.2.1, 9, .inl t_grades))] H := hP.sub [2, 0, 3, 1] rfl
    have hD : va_D A [(h_t, .inr (8, [.long t_trace, .ref h_t_text, .int t_typed, .ref h_t_said, .ref h_t_many, .long t_when, .long t_then, .ref h_t_grades, .ref h_t_doubts, .int t_at, .int t_token, .int t_start, .ref h_t_vals, .ref h_t_waits, .int t_valMany, .int t_waitMany, .int t_open, .long t_saying, .ref h_t_fresh, .ref h_t_freshMany, .int t_quarrel])), (h_t_said, .inl (G.2.1.2.2, 45, .inr (.inl t_said))), (h_t_many, .inl (G.2.1.2.1, 5, .inl t_many)), (h_t_grades, .inl (G.2.1.2.1, 9, .inl t_grades))] := hD.sub [2, 0, 3, 1] (by decide) rfl
    refine lv_if_ne (tgt := 24) hx hb dX8_weight_17 (by decide) (fun c4 => ?_) (fun c4 => ?_)
    · have hf := it_f c4 hf
      refine lv_iload_n hx hb dX8_weight_24 rfl (lv_at hl 1 rfl) ?_
      by_cases c5 : a1 = (0 : Int32)
      · have hf := it_t c5 hf
        refine lv_tableIn (off := 27) (tgt := 52) hx hb dX8_weight_25 (by rw [c5]; decide) (by rw [c5]; decide) (by rw [c5]; rfl) (by decide) ?_
        refine lv_aload_n hx hb dX8_weight_52 rfl (lv_at hl 0 rfl) ?_
        refine lv_iload_n hx hb dX8_weight_53 rfl (lv_at hl 2 rfl) ?_
        obtain ⟨o6, ho6, hf⟩ := bd_e hf
        refine af_i (wr := [(h_t_grades, .inl (G.2.1.2.1, 9, .inl t_grades))]) (va_runV (As := [.int a2]) (rest := []) ⟨hx, hb, hml, hown, hts⟩ (c_X8_saying l G h_t h_t_text h_t_said h_t_many h_t_grades h_t_doubts h_t_vals h_t_waits h_t_fresh h_t_freshMany H.size t_trace t_typed t_when t_then t_at t_token t_start t_valMany t_waitMany t_open t_saying t_quarrel t_said t_many a2 o6 ho6) (cwV 1 hts gX8_weight_X8_saying rfl rfl rfl (by decide +kernel) ⟨Nat.le_of_ble_eq_true rfl, Nat.le_of_ble_eq_true rfl⟩) (pcA_preV hg hc hP hD hS hA [0, 1, 2] rfl (by decide) (q0 := 0) (ci := 8) rfl rfl rfl) rfl rfl hl.1 rfl (lv_room (Nat.le_of_ble_eq_true rfl)) dX8_weight_54 ⟨Nat.zero_le _, Nat.zero_le _⟩) hP hD hS hA [0, 1, 2] [3] rfl rfl (by decide) (by decide) (fun _ H locs _ hP hD hS => ?_)
        have hP : va_P G.1 vwCl [(h_t, .inr (8, [.long o6.2, .ref h_t_text, .int t_typed, .ref h_t_said, .ref h_t_many, .long t_when, .long t_then, .ref h_t_grades, .ref h_t_doubts, .int t_at, .int t_token, .int t_start, .ref h_t_vals, .ref h_t_waits, .int t_valMany, .int t_waitMany, .int t_open, .long t_saying, .ref h_t_fresh, .ref h_t_freshMany, .int t_quarrel])), (h_t_said, .inl (G.2.1.2.2, 45, .inr (.inl t_said))), (h_t_many, .inl (G.2.1.2.1, 5, .inl t_many)), (h_t_grades, .inl (G.2.1.2.1, 9, .inl t_grades))] H := hP.sub [1, 2, 3, 0] rfl
        have hD : va_D A [(h_t, .inr (8, [.long o6.2, .ref h_t_text, .int t_typed, .ref h_t_said, .ref h_t_many, .long t_when, .long t_then, .ref h_t_grades, .ref h_t_doubts, .int t_at, .int t_token, .int t_start, .ref h_t_vals, .ref h_t_waits, .int t_valMany, .int t_waitMany, .int t_open, .long t_saying, .ref h_t_fresh, .ref h_t_freshMany, .int t_quarrel])), (h_t_said, .inl (G.2.1.2.2, 45, .inr (.inl t_said))), (h_t_many, .inl (G.2.1.2.1, 5, .inl t_many)), (h_t_grades, .inl (G.2.1.2.1, 9, .inl t_grades))] := hD.sub [1, 2, 3, 0] (by decide) rfl
        rw [← Option.some.inj hf]
        exact rt_i (u := ()) hx hb hr hlocks hP hD trivial hS dX8_weight_57
      · have hf := it_f c5 hf
        by_cases c7 : a1 = (1 : Int32)
        · have hf := it_t c7 hf
          refine lv_tableIn (off := 33) (tgt := 58) hx hb dX8_weight_25 (by rw [c7]; decide) (by rw [c7]; decide) (by rw [c7]; rfl) (by decide) ?_
          refine lv_aload_n hx hb dX8_weight_58 rfl (lv_at hl 0 rfl) ?_
          refine lv_iload_n hx hb dX8_weight_59 rfl (lv_at hl 2 rfl) ?_
          obtain ⟨o8, ho8, hf⟩ := bd_e hf
          refine af_i (wr := []) (va_runV (As := [.int a2]) (rest := []) ⟨hx, hb, hml, hown, hts⟩ (c_X8_ruled l G h_t h_t_text h_t_said h_t_many h_t_grades h_t_doubts h_t_vals h_t_waits h_t_fresh h_t_freshMany H.size t_trace t_typed t_when t_then t_at t_token t_start t_valMany t_waitMany t_open t_saying t_quarrel t_said t_many t_grades a2 o8 ho8) (cwV 1 hts gX8_weight_X8_ruled rfl rfl rfl (by decide +kernel) ⟨Nat.le_of_ble_eq_true rfl, Nat.le_of_ble_eq_true rfl⟩) (pcA_preV hg hc hP hD hS hA [0, 1, 2, 3] rfl (by decide) (q0 := 0) (ci := 8) rfl rfl rfl) rfl rfl hl.1 rfl (lv_room (Nat.le_of_ble_eq_true rfl)) dX8_weight_60 ⟨Nat.zero_le _, Nat.zero_le _⟩) hP hD hS hA [0, 1, 2, 3] [] rfl rfl (by decide) (by decide) (fun _ H locs _ hP hD hS => ?_)
          have hP : va_P G.1 vwCl [(h_t, .inr (8, [.long o8.2, .ref h_t_text, .int t_typed, .ref h_t_said, .ref h_t_many, .long t_when, .long t_then, .ref h_t_grades, .ref h_t_doubts, .int t_at, .int t_token, .int t_start, .ref h_t_vals, .ref h_t_waits, .int t_valMany, .int t_waitMany, .int t_open, .long t_saying, .ref h_t_fresh, .ref h_t_freshMany, .int t_quarrel])), (h_t_said, .inl (G.2.1.2.2, 45, .inr (.inl t_said))), (h_t_many, .inl (G.2.1.2.1, 5, .inl t_many)), (h_t_grades, .inl (G.2.1.2.1, 9, .inl t_grades))] H := hP
          have hD : va_D A [(h_t, .inr (8, [.long o8.2, .ref h_t_text, .int t_typed, .ref h_t_said, .ref h_t_many, .long t_when, .long t_then, .ref h_t_grades, .ref h_t_doubts, .int t_at, .int t_token, .int t_start, .ref h_t_vals, .ref h_t_waits, .int t_valMany, .int t_waitMany, .int t_open, .long t_saying, .ref h_t_fresh, .ref h_t_freshMany, .int t_quarrel])), (h_t_said, .inl (G.2.1.2.2, 45, .inr (.inl t_said))), (h_t_many, .inl (G.2.1.2.1, 5, .inl t_many)), (h_t_grades, .inl (G.2.1.2.1, 9, .inl t_grades))] := hD
          rw [← Option.some.inj hf]
          exact rt_i (u := ()) hx hb hr hlocks hP hD trivial hS dX8_weight_63
        · have hf := it_f c7 hf
          by_cases c9 : a1 = (2 : Int32)
          · have hf := it_t c9 hf
            refine lv_tableIn (off := 39) (tgt := 64) hx hb dX8_weight_25 (by rw [c9]; decide) (by rw [c9]; decide) (by rw [c9]; rfl) (by decide) ?_
            refine lv_aload_n hx hb dX8_weight_64 rfl (lv_at hl 0 rfl) ?_
            refine lv_bipush (v := (100 : Int32)) hx hb dX8_weight_65 (by decide) ?_
            obtain ⟨o10, ho10, hf⟩ := bd_e hf
            refine af_i (wr := [(h_t_said, .inl (G.2.1.2.2, 45, .inr (.inl t_said))), (h_t_many, .inl (G.2.1.2.1, 5, .inl t_many)), (h_t_grades, .inl (G.2.1.2.1, 9, .inl t_grades))]) (va_runV (As := [.int (100 : Int32)]) (rest := []) ⟨hx, hb, hml, hown, hts⟩ (c_X8_adds l G h_t h_t_text h_t_said h_t_many h_t_grades h_t_doubts h_t_vals h_t_waits h_t_fresh h_t_freshMany H.size t_trace t_typed t_when t_then t_at t_token t_start t_valMany t_waitMany t_open t_saying t_quarrel (100 : Int32) o10 ho10) (cwV 1 hts gX8_weight_X8_adds rfl rfl rfl (by decide +kernel) ⟨Nat.le_of_ble_eq_true rfl, Nat.le_of_ble_eq_true rfl⟩) (pcA_preV hg hc hP hD hS hA [0] rfl (by decide) (q0 := 0) (ci := 8) rfl rfl rfl) rfl rfl hl.1 rfl (lv_room (Nat.le_of_ble_eq_true rfl)) dX8_weight_67 ⟨Nat.zero_le _, Nat.zero_le _⟩) hP hD hS hA [0] [1, 2, 3] rfl rfl (by decide) (by decide) (fun _ H locs _ hP hD hS => ?_)
            have hP : va_P G.1 vwCl [(h_t, .inr (8, [.long o10.2, .ref h_t_text, .int t_typed, .ref h_t_said, .ref h_t_many, .long t_when, .long t_then, .ref h_t_grades, .ref h_t_doubts, .int t_at, .int t_token, .int t_start, .ref h_t_vals, .ref h_t_waits, .int t_valMany, .int t_waitMany, .int t_open, .long t_saying, .ref h_t_fresh, .ref h_t_freshMany, .int t_quarrel])), (h_t_said, .inl (G.2.1.2.2, 45, .inr (.inl t_said))), (h_t_many, .inl (G.2.1.2.1, 5, .inl t_many)), (h_t_grades, .inl (G.2.1.2.1, 9, .inl t_grades))] H := hP.sub [3, 0, 1, 2] rfl
            have hD : va_D A [(h_t, .inr (8, [.long o10.2, .ref h_t_text, .int t_typed, .ref h_t_said, .ref h_t_many, .long t_when, .long t_then, .ref h_t_grades, .ref h_t_doubts, .int t_at, .int t_token, .int t_start, .ref h_t_vals, .ref h_t_waits, .int t_valMany, .int t_waitMany, .int t_open, .long t_saying, .ref h_t_fresh, .ref h_t_freshMany, .int t_quarrel])), (h_t_said, .inl (G.2.1.2.2, 45, .inr (.inl t_said))), (h_t_many, .inl (G.2.1.2.1, 5, .inl t_many)), (h_t_grades, .inl (G.2.1.2.1, 9, .inl t_grades))] := hD.sub [3, 0, 1, 2] (by decide) rfl
            refine lv_aload_n hx hb dX8_weight_70 rfl (lv_at hl 0 rfl) ?_
            refine lv_iload_n hx hb dX8_weight_71 rfl (lv_at hl 2 rfl) ?_
            obtain ⟨o11, ho11, hf⟩ := bd_e hf
            refine af_i (wr := [(h_t_grades, .inl (G.2.1.2.1, 9, .inl t_grades))]) (va_runV (As := [.int a2]) (rest := [.int o10.1]) ⟨hx, hb, hml, hown, hts⟩ (c_X8_saying l G h_t h_t_text h_t_said h_t_many h_t_grades h_t_doubts h_t_vals h_t_waits h_t_fresh h_t_freshMany H.size o10.2 t_typed t_when t_then t_at t_token t_start t_valMany t_waitMany t_open t_saying t_quarrel t_said t_many a2 o11 ho11) (cwV 1 hts gX8_weight_X8_saying rfl rfl rfl (by decide +kernel) ⟨Nat.le_of_ble_eq_true rfl, Nat.le_of_ble_eq_true rfl⟩) (pcA_preV hg hc hP hD hS hA [0, 1, 2] rfl (by decide) (q0 := 0) (ci := 8) rfl rfl rfl) rfl rfl hl.1 rfl (lv_room (Nat.le_of_ble_eq_true rfl)) dX8_weight_72 ⟨Nat.zero_le _, Nat.zero_le _⟩) hP hD hS hA [0, 1, 2] [3] rfl rfl (by decide) (by decide) (fun _ H locs _ hP hD hS => ?_)
            have hP : va_P G.1 vwCl [(h_t, .inr (8, [.long o11.2, .ref h_t_text, .int t_typed, .ref h_t_said, .ref h_t_many, .long t_when, .long t_then, .ref h_t_grades, .ref h_t_doubts, .int t_at, .int t_token, .int t_start, .ref h_t_vals, .ref h_t_waits, .int t_valMany, .int t_waitMany, .int t_open, .long t_saying, .ref h_t_fresh, .ref h_t_freshMany, .int t_quarrel])), (h_t_said, .inl (G.2.1.2.2, 45, .inr (.inl t_said))), (h_t_many, .inl (G.2.1.2.1, 5, .inl t_many)), (h_t_grades, .inl (G.2.1.2.1, 9, .inl t_grades))] H := hP.sub [1, 2, 3, 0] rfl
            have hD : va_D A [(h_t, .inr (8, [.long o11.2, .ref h_t_text, .int t_typed, .ref h_t_said, .ref h_t_many, .long t_when, .long t_then, .ref h_t_grades, .ref h_t_doubts, .int t_at, .int t_token, .int t_start, .ref h_t_vals, .ref h_t_waits, .int t_valMany, .int t_waitMany, .int t_open, .long t_saying, .ref h_t_fresh, .ref h_t_freshMany, .int t_quarrel])), (h_t_said, .inl (G.2.1.2.2, 45, .inr (.inl t_said))), (h_t_many, .inl (G.2.1.2.1, 5, .inl t_many)), (h_t_grades, .inl (G.2.1.2.1, 9, .inl t_grades))] := hD.sub [1, 2, 3, 0] (by decide) rfl
            refine lv_iconst (v := (2 : Int32)) hx hb dX8_weight_75 (by decide) ?_
            refine lv_idiv hx hb dX8_weight_76 (by decide) ?_
            refine lv_iadd hx hb dX8_weight_77 ?_
            rw [← Option.some.inj hf]
            exact rt_i (u := ()) hx hb hr hlocks hP hD trivial hS dX8_weight_78
          · have hf := it_f c9 hf
            have q_0 := lv_neT c5 (a := 0) rfl
            have q_1 := lv_neT c7 (a := 1) rfl
            have q_2 := lv_neT c9 (a := 2) rfl
            refine lv_tableOut (tgt := 79) hx hb dX8_weight_25 (by omega) (by decide) ?_
            refine lv_aload_n hx hb dX8_weight_79 rfl (lv_at hl 0 rfl) ?_
            refine lv_sipush (v := (1000 : Int32)) hx hb dX8_weight_80 (by decide) ?_
            obtain ⟨o12, ho12, hf⟩ := bd_e hf
            refine af_i (wr := [(h_t_said, .inl (G.2.1.2.2, 45, .inr (.inl t_said))), (h_t_many, .inl (G.2.1.2.1, 5, .inl t_many)), (h_t_grades, .inl (G.2.1.2.1, 9, .inl t_grades))]) (va_runV (As := [.int (1000 : Int32)]) (rest := []) ⟨hx, hb, hml, hown, hts⟩ (c_X8_adds l G h_t h_t_text h_t_said h_t_many h_t_grades h_t_doubts h_t_vals h_t_waits h_t_fresh h_t_freshMany H.size t_trace t_typed t_when t_then t_at t_token t_start t_valMany t_waitMany t_open t_saying t_quarrel (1000 : Int32) o12 ho12) (cwV 1 hts gX8_weight_X8_adds rfl rfl rfl (by decide +kernel) ⟨Nat.le_of_ble_eq_true rfl, Nat.le_of_ble_eq_true rfl⟩) (pcA_preV hg hc hP hD hS hA [0] rfl (by decide) (q0 := 0) (ci := 8) rfl rfl rfl) rfl rfl hl.1 rfl (lv_room (Nat.le_of_ble_eq_true rfl)) dX8_weight_83 ⟨Nat.zero_le _, Nat.zero_le _⟩) hP hD hS hA [0] [1, 2, 3] rfl rfl (by decide) (by decide) (fun _ H locs _ hP hD hS => ?_)
            have hP : va_P G.1 vwCl [(h_t, .inr (8, [.long o12.2, .ref h_t_text, .int t_typed, .ref h_t_said, .ref h_t_many, .long t_when, .long t_then, .ref h_t_grades, .ref h_t_doubts, .int t_at, .int t_token, .int t_start, .ref h_t_vals, .ref h_t_waits, .int t_valMany, .int t_waitMany, .int t_open, .long t_saying, .ref h_t_fresh, .ref h_t_freshMany, .int t_quarrel])), (h_t_said, .inl (G.2.1.2.2, 45, .inr (.inl t_said))), (h_t_many, .inl (G.2.1.2.1, 5, .inl t_many)), (h_t_grades, .inl (G.2.1.2.1, 9, .inl t_grades))] H := hP.sub [3, 0, 1, 2] rfl
            have hD : va_D A [(h_t, .inr (8, [.long o12.2, .ref h_t_text, .int t_typed, .ref h_t_said, .ref h_t_many, .long t_when, .long t_then, .ref h_t_grades, .ref h_t_doubts, .int t_at, .int t_token, .int t_start, .ref h_t_vals, .ref h_t_waits, .int t_valMany, .int t_waitMany, .int t_open, .long t_saying, .ref h_t_fresh, .ref h_t_freshMany, .int t_quarrel])), (h_t_said, .inl (G.2.1.2.2, 45, .inr (.inl t_said))), (h_t_many, .inl (G.2.1.2.1, 5, .inl t_many)), (h_t_grades, .inl (G.2.1.2.1, 9, .inl t_grades))] := hD.sub [3, 0, 1, 2] (by decide) rfl
            refine lv_iconst (v := (2 : Int32)) hx hb dX8_weight_86 (by decide) ?_
            refine lv_aload_n hx hb dX8_weight_87 rfl (lv_at hl 0 rfl) ?_
            refine lv_iload_n hx hb dX8_weight_88 rfl (lv_at hl 2 rfl) ?_
            obtain ⟨o13, ho13, hf⟩ := bd_e hf
            refine af_i (wr := []) (va_runV (As := [.int a2]) (rest := [.int (2 : Int32), .int o12.1]) ⟨hx, hb, hml, hown, hts⟩ (c_X8_ruled l G h_t h_t_text h_t_said h_t_many h_t_grades h_t_doubts h_t_vals h_t_waits h_t_fresh h_t_freshMany H.size o12.2 t_typed t_when t_then t_at t_token t_start t_valMany t_waitMany t_open t_saying t_quarrel t_said t_many t_grades a2 o13 ho13) (cwV 1 hts gX8_weight_X8_ruled rfl rfl rfl (by decide +kernel) ⟨Nat.le_of_ble_eq_true rfl, Nat.le_of_ble_eq_true rfl⟩) (pcA_preV hg hc hP hD hS hA [0, 1, 2, 3] rfl (by decide) (q0 := 0) (ci := 8) rfl rfl rfl) rfl rfl hl.1 rfl (lv_room (Nat.le_of_ble_eq_true rfl)) dX8_weight_89 ⟨Nat.zero_le _, Nat.zero_le _⟩) hP hD hS hA [0, 1, 2, 3] [] rfl rfl (by decide) (by decide) (fun _ H locs _ hP hD hS => ?_)
            have hP : va_P G.1 vwCl [(h_t, .inr (8, [.long o13.2, .ref h_t_text, .int t_typed, .ref h_t_said, .ref h_t_many, .long t_when, .long t_then, .ref h_t_grades, .ref h_t_doubts, .int t_at, .int t_token, .int t_start, .ref h_t_vals, .ref h_t_waits, .int t_valMany, .int t_waitMany, .int t_open, .long t_saying, .ref h_t_fresh, .ref h_t_freshMany, .int t_quarrel])), (h_t_said, .inl (G.2.1.2.2, 45, .inr (.inl t_said))), (h_t_many, .inl (G.2.1.2.1, 5, .inl t_many)), (h_t_grades, .inl (G.2.1.2.1, 9, .inl t_grades))] H := hP
            have hD : va_D A [(h_t, .inr (8, [.long o13.2, .ref h_t_text, .int t_typed, .ref h_t_said, .ref h_t_many, .long t_when, .long t_then, .ref h_t_grades, .ref h_t_doubts, .int t_at, .int t_token, .int t_start, .ref h_t_vals, .ref h_t_waits, .int t_valMany, .int t_waitMany, .int t_open, .long t_saying, .ref h_t_fresh, .ref h_t_freshMany, .int t_quarrel])), (h_t_said, .inl (G.2.1.2.2, 45, .inr (.inl t_said))), (h_t_many, .inl (G.2.1.2.1, 5, .inl t_many)), (h_t_grades, .inl (G.2.1.2.1, 9, .inl t_grades))] := hD
            refine lv_imul hx hb dX8_weight_92 ?_
            refine lv_iadd hx hb dX8_weight_93 ?_
            refine lv_aload_n hx hb dX8_weight_94 rfl (lv_at hl 0 rfl) ?_
            obtain ⟨o14, ho14, hf⟩ := bd_e hf
            refine af_l (wr := [(h_t_grades, .inl (G.2.1.2.1, 9, .inl t_grades))]) (va_runV (As := []) (rest := [.int (o12.1 + ((2 : Int32) * o13.1))]) ⟨hx, hb, hml, hown, hts⟩ (c_X8_thereNow l G h_t h_t_text h_t_said h_t_many h_t_grades h_t_doubts h_t_vals h_t_waits h_t_fresh h_t_freshMany H.size o13.2 t_typed t_when t_then t_at t_token t_start t_valMany t_waitMany t_open t_saying t_quarrel t_said t_many o14 ho14) (cwV 0 hts gX8_weight_X8_thereNow rfl rfl rfl (by decide +kernel) ⟨Nat.le_of_ble_eq_true rfl, Nat.le_of_ble_eq_true rfl⟩) (pcA_preV hg hc hP hD hS hA [0, 1, 2] rfl (by decide) (q0 := 0) (ci := 8) rfl rfl rfl) rfl rfl hl.1 rfl (lv_room (Nat.le_of_ble_eq_true rfl)) dX8_weight_95 ⟨Nat.zero_le _, Nat.zero_le _⟩) hP hD hS hA [0, 1, 2] [3] rfl rfl (by decide) (by decide) (fun _ H locs _ hP hD hS => ?_)
            have hP : va_P G.1 vwCl [(h_t, .inr (8, [.long o13.2, .ref h_t_text, .int t_typed, .ref h_t_said, .ref h_t_many, .long t_when, .long t_then, .ref h_t_grades, .ref h_t_doubts, .int t_at, .int t_token, .int t_start, .ref h_t_vals, .ref h_t_waits, .int t_valMany, .int t_waitMany, .int t_open, .long t_saying, .ref h_t_fresh, .ref h_t_freshMany, .int t_quarrel])), (h_t_said, .inl (G.2.1.2.2, 45, .inr (.inl t_said))), (h_t_many, .inl (G.2.1.2.1, 5, .inl t_many)), (h_t_grades, .inl (G.2.1.2.1, 9, .inl t_grades))] H := hP.sub [1, 2, 3, 0] rfl
            have hD : va_D A [(h_t, .inr (8, [.long o13.2, .ref h_t_text, .int t_typed, .ref h_t_said, .ref h_t_many, .long t_when, .long t_then, .ref h_t_grades, .ref h_t_doubts, .int t_at, .int t_token, .int t_start, .ref h_t_vals, .ref h_t_waits, .int t_valMany, .int t_waitMany, .int t_open, .long t_saying, .ref h_t_fresh, .ref h_t_freshMany, .int t_quarrel])), (h_t_said, .inl (G.2.1.2.2, 45, .inr (.inl t_said))), (h_t_many, .inl (G.2.1.2.1, 5, .inl t_many)), (h_t_grades, .inl (G.2.1.2.1, 9, .inl t_grades))] := hD.sub [1, 2, 3, 0] (by decide) rfl
            refine lv_aload_n hx hb dX8_weight_98 rfl (lv_at hl 0 rfl) ?_
            refine lv_iload_n hx hb dX8_weight_99 rfl (lv_at hl 2 rfl) ?_
            obtain ⟨o15, ho15, hf⟩ := bd_e hf
            refine af_l (wr := [(h_t_many, .inl (G.2.1.2.1, 5, .inl t_many)), (h_t_grades, .inl (G.2.1.2.1, 9, .inl t_grades))]) (va_runV (As := [.int a2]) (rest := [.long o14, .int (o12.1 + ((2 : Int32) * o13.1))]) ⟨hx, hb, hml, hown, hts⟩ (c_X8_broken l G h_t h_t_text h_t_said h_t_many h_t_grades h_t_doubts h_t_vals h_t_waits h_t_fresh h_t_freshMany H.size o13.2 t_typed t_when t_then t_at t_token t_start t_valMany t_waitMany t_open t_saying t_quarrel t_said a2 o15 ho15) (cwV 1 hts gX8_weight_X8_broken rfl rfl rfl (by decide +kernel) ⟨Nat.le_of_ble_eq_true rfl, Nat.le_of_ble_eq_true rfl⟩) (pcA_preV hg hc hP hD hS hA [0, 1] rfl (by decide) (q0 := 0) (ci := 8) rfl rfl rfl) rfl rfl hl.1 rfl (lv_room (Nat.le_of_ble_eq_true rfl)) dX8_weight_100 ⟨Nat.zero_le _, Nat.zero_le _⟩) hP hD hS hA [0, 1] [2, 3] rfl rfl (by decide) (by decide) (fun _ H locs _ hP hD hS => ?_)
            have hP : va_P G.1 vwCl [(h_t, .inr (8, [.long o13.2, .ref h_t_text, .int t_typed, .ref h_t_said, .ref h_t_many, .long t_when, .long t_then, .ref h_t_grades, .ref h_t_doubts, .int t_at, .int t_token, .int t_start, .ref h_t_vals, .ref h_t_waits, .int t_valMany, .int t_waitMany, .int t_open, .long t_saying, .ref h_t_fresh, .ref h_t_freshMany, .int t_quarrel])), (h_t_said, .inl (G.2.1.2.2, 45, .inr (.inl t_said))), (h_t_many, .inl (G.2.1.2.1, 5, .inl t_many)), (h_t_grades, .inl (G.2.1.2.1, 9, .inl t_grades))] H := hP.sub [2, 3, 0, 1] rfl
            have hD : va_D A [(h_t, .inr (8, [.long o13.2, .ref h_t_text, .int t_typed, .ref h_t_said, .ref h_t_many, .long t_when, .long t_then, .ref h_t_grades, .ref h_t_doubts, .int t_at, .int t_token, .int t_start, .ref h_t_vals, .ref h_t_waits, .int t_valMany, .int t_waitMany, .int t_open, .long t_saying, .ref h_t_fresh, .ref h_t_freshMany, .int t_quarrel])), (h_t_said, .inl (G.2.1.2.2, 45, .inr (.inl t_said))), (h_t_many, .inl (G.2.1.2.1, 5, .inl t_many)), (h_t_grades, .inl (G.2.1.2.1, 9, .inl t_grades))] := hD.sub [2, 3, 0, 1] (by decide) rfl
            refine lv_land hx hb dX8_weight_103 ?_
            obtain ⟨o16, ho16, hf⟩ := bd_e hf
            refine af0_i (va_runS (As := [.long (o14 &&& o15)]) (rest := [.int (o12.1 + ((2 : Int32) * o13.1))]) ⟨hx, hb, hml, hown, hts⟩ (c_X8_sizeOf l G H.size (o14 &&& o15) o16 ho16) (va_cwS 1 hts gX8_weight_X8_sizeOf rfl rfl rfl (by decide +kernel) ⟨Nat.le_of_ble_eq_true rfl, Nat.le_of_ble_eq_true rfl⟩) (pcA_pre hg hc hP hD hS hA [] rfl rfl [.long (o14 &&& o15)]) rfl rfl hl.1 rfl (lv_room (Nat.le_of_ble_eq_true rfl)) dX8_weight_104 ⟨Nat.zero_le _, Nat.zero_le _⟩) hP hD hS hA (fun H locs hP hD hS => ?_)
            refine lv_isub hx hb dX8_weight_107 ?_
            rw [← Option.some.inj hf]
            exact rt_i (u := ()) hx hb hr hlocks hP hD trivial hS dX8_weight_108
    · have hf := it_t c4 hf
      refine lv_sipush (v := (-1000 : Int32)) hx hb dX8_weight_20 (by decide) ?_
      rw [← Option.some.inj hf]
      exact rt_i (u := ()) hx hb hr hlocks hP hD trivial hS dX8_weight_23
-- method X8_count
def f_X8_count (t_typed : Int32) (t_quarrel : Int32) (t_said : Nat → Int64) (t_many : Nat → Int32) (a1 : Int32) : Option (Int32) :=
  if a1 = (0 : Int32) then gd (ib (0 : Int32) 5) (some ((t_many (0 : Int32).toNatClampNeg))) else if a1 = (1 : Int32) then gd (ib (1 : Int32) 5) (some ((t_many (1 : Int32).toNatClampNeg))) else if a1 = (2 : Int32) then gd (ib (3 : Int32) 5) (some ((t_many (3 : Int32).toNatClampNeg))) else if a1 = (3 : Int32) then gd (ib (4 : Int32) 5) (some ((t_many (4 : Int32).toNatClampNeg))) else if a1 = (4 : Int32) then if t_quarrel = (0 : Int32) then some ((0 : Int32)) else some ((1 : Int32)) else if a1 = (5 : Int32) then some (t_typed) else if a1 = (6 : Int32) then bd (f_X8_thereNow t_said t_many) (fun o9 => bd (f_X8_sizeOf o9) (fun o10 => some (o10))) else some ((-1 : Int32))
set_option maxHeartbeats 4000000 in
set_option maxRecDepth 100000 in
theorem c_X8_count (l : Launch) (G : GG) (h_t h_t_text h_t_said h_t_many h_t_grades h_t_doubts h_t_vals h_t_waits h_t_fresh h_t_freshMany : Nat) (sz : Nat) (t_trace : Int64) (t_typed : Int32) (t_when : Int64) (t_then : Int64) (t_at : Int32) (t_token : Int32) (t_start : Int32) (t_valMany : Int32) (t_waitMany : Int32) (t_open : Int32) (t_saying : Int64) (t_quarrel : Int32) (t_said : Nat → Int64) (t_many : Nat → Int32) (a1 : Int32) (o : Int32) (ho : f_X8_count t_typed t_quarrel t_said t_many a1 = some o)  : Met l yX8_count wsX8_count ({ frames := 2, cells := 0, slots := 0, locals := 45 } : Room) (pcA G [.ref h_t, .int a1] [(h_t, .inr (8, [.long t_trace, .ref h_t_text, .int t_typed, .ref h_t_said, .ref h_t_many, .long t_when, .long t_then, .ref h_t_grades, .ref h_t_doubts, .int t_at, .int t_token, .int t_start, .ref h_t_vals, .ref h_t_waits, .int t_valMany, .int t_waitMany, .int t_open, .long t_saying, .ref h_t_fresh, .ref h_t_freshMany, .int t_quarrel])), (h_t_said, .inl (G.2.1.2.2, 45, .inr (.inl t_said))), (h_t_many, .inl (G.2.1.2.1, 5, .inl t_many))] sz) (qcI Unit G o (fun _ => True) (fun _ => [(h_t, .inr (8, [.long t_trace, .ref h_t_text, .int t_typed, .ref h_t_said, .ref h_t_many, .long t_when, .long t_then, .ref h_t_grades, .ref h_t_doubts, .int t_at, .int t_token, .int t_start, .ref h_t_vals, .ref h_t_waits, .int t_valMany, .int t_waitMany, .int t_open, .long t_saying, .ref h_t_fresh, .ref h_t_freshMany, .int t_quarrel])), (h_t_said, .inl (G.2.1.2.2, 45, .inr (.inl t_said))), (h_t_many, .inl (G.2.1.2.1, 5, .inl t_many))]) (va_A [(h_t, .inr (8, [.long t_trace, .ref h_t_text, .int t_typed, .ref h_t_said, .ref h_t_many, .long t_when, .long t_then, .ref h_t_grades, .ref h_t_doubts, .int t_at, .int t_token, .int t_start, .ref h_t_vals, .ref h_t_waits, .int t_valMany, .int t_waitMany, .int t_open, .long t_saying, .ref h_t_fresh, .ref h_t_freshMany, .int t_quarrel])), (h_t_said, .inl (G.2.1.2.2, 45, .inr (.inl t_said))), (h_t_many, .inl (G.2.1.2.1, 5, .inl t_many))] sz)) 0 0 (va_A [(h_t, .inr (8, [.long t_trace, .ref h_t_text, .int t_typed, .ref h_t_said, .ref h_t_many, .long t_when, .long t_then, .ref h_t_grades, .ref h_t_doubts, .int t_at, .int t_token, .int t_start, .ref h_t_vals, .ref h_t_waits, .int t_valMany, .int t_waitMany, .int t_open, .long t_saying, .ref h_t_fresh, .ref h_t_freshMany, .int t_quarrel])), (h_t_said, .inl (G.2.1.2.2, 45, .inr (.inl t_said))), (h_t_many, .inl (G.2.1.2.1, 5, .inl t_many))] sz) := by
  refine Met.ofW (cc := cX8_count) (maxL := 2) (ret := (some .int)) (by decide) rfl ?_
  intro p e s m args below meth c s₁ B hml hv
  obtain ⟨rfl, hsz, hP, hg, hD0, hc⟩ := hv
  have hx := B.exec
  have hb := B.bytes
  have hr := B.returns
  have hts := atoms_spec (ws := wsX8_count) B.pre
  have hown : s.vm.findClass RX8 = some m.cls := findClass_of_methodNamed B.named
  have hlocks := B.notSynchronized
  subst hsz
  have hD := hD0.self (sz := s.heap.size)
  generalize hAe : va_A [(h_t, .inr (8, [.long t_trace, .ref h_t_text, .int t_typed, .ref h_t_said, .ref h_t_many, .long t_when, .long t_then, .ref h_t_grades, .ref h_t_doubts, .int t_at, .int t_token, .int t_start, .ref h_t_vals, .ref h_t_waits, .int t_valMany, .int t_waitMany, .int t_open, .long t_saying, .ref h_t_fresh, .ref h_t_freshMany, .int t_quarrel])), (h_t_said, .inl (G.2.1.2.2, 45, .inr (.inl t_said))), (h_t_many, .inl (G.2.1.2.1, 5, .inl t_many))] s.heap.size = A at hD hc ⊢
  have hA : ∀ q : Nat, s.heap.size ≤ q → A q := fun q h => by rw [← hAe]; exact Or.inr h
  have hiX8 : ∀ w ∈ wsX80, w ∈ wsX8_count := by decide +kernel
  have hl := lv_entry ([.ref h_t, .int a1]) (n := 2) (Nat.le_of_ble_eq_true rfl)
  rw [lg_entry_eq]
  generalize (lg_sl ([.ref h_t, .int a1]) ++ List.replicate (2 - (lg_sl ([.ref h_t, .int a1])).length) Slot.unset).toArray = ls at hl ⊢
  have hl : lv_has ls 2 [(0, .ref h_t), (1, .int a1)] := hl
  have hf := ho
  unfold f_X8_count at hf
  refine en (fun H locs hP hD hS => ?_) hP hD
  refine lv_iload_n hx hb dX8_count_0 rfl (lv_at hl 1 rfl) ?_
  by_cases c1 : a1 = (0 : Int32)
  · have hf := it_t c1 hf
    refine lv_tableIn (off := 43) (tgt := 44) hx hb dX8_count_1 (by rw [c1]; decide) (by rw [c1]; decide) (by rw [c1]; rfl) (by decide) ?_
    refine lv_aload_n hx hb dX8_count_44 rfl (lv_at hl 0 rfl) ?_
    refine va_get (D := G.1) (ci := 8) (v := .ref h_t_many) (C := RX8) (T := TX8) (N := 21) hx hb hts hiX8 hown hg.1 hP 0 rfl rfl 4 (by decide) (hts (.fieldLink RX8 17 "AsARuleModel" "many" "[I") (by decide +kernel)) (fun _ h9 => h9) rfl dX8_count_45 ?_
    refine lv_iconst (v := (0 : Int32)) hx hb dX8_count_48 (by decide) ?_
    refine va_iald hx hb hg.1 hP 2 1 rfl rfl (ib_in (gd_t hf)) dX8_count_49 ?_
    have hf := gd_x hf
    rw [← Option.some.inj hf]
    exact rt_i (u := ()) hx hb hr hlocks hP hD trivial hS dX8_count_50
  · have hf := it_f c1 hf
    by_cases c2 : a1 = (1 : Int32)
    · have hf := it_t c2 hf
      refine lv_tableIn (off := 50) (tgt := 51) hx hb dX8_count_1 (by rw [c2]; decide) (by rw [c2]; decide) (by rw [c2]; rfl) (by decide) ?_
      refine lv_aload_n hx hb dX8_count_51 rfl (lv_at hl 0 rfl) ?_
      refine va_get (D := G.1) (ci := 8) (v := .ref h_t_many) (C := RX8) (T := TX8) (N := 21) hx hb hts hiX8 hown hg.1 hP 0 rfl rfl 4 (by decide) (hts (.fieldLink RX8 17 "AsARuleModel" "many" "[I") (by decide +kernel)) (fun _ h9 => h9) rfl dX8_count_52 ?_
      refine lv_iconst (v := (1 : Int32)) hx hb dX8_count_55 (by decide) ?_
      refine va_iald hx hb hg.1 hP 2 1 rfl rfl (ib_in (gd_t hf)) dX8_count_56 ?_
      have hf := gd_x hf
      rw [← Option.some.inj hf]
      exact rt_i (u := ()) hx hb hr hlocks hP hD trivial hS dX8_count_57
    · have hf := it_f c2 hf
      by_cases c3 : a1 = (2 : Int32)
      · have hf := it_t c3 hf
        refine lv_tableIn (off := 57) (tgt := 58) hx hb dX8_count_1 (by rw [c3]; decide) (by rw [c3]; decide) (by rw [c3]; rfl) (by decide) ?_
        refine lv_aload_n hx hb dX8_count_58 rfl (lv_at hl 0 rfl) ?_
        refine va_get (D := G.1) (ci := 8) (v := .ref h_t_many) (C := RX8) (T := TX8) (N := 21) hx hb hts hiX8 hown hg.1 hP 0 rfl rfl 4 (by decide) (hts (.fieldLink RX8 17 "AsARuleModel" "many" "[I") (by decide +kernel)) (fun _ h9 => h9) rfl dX8_count_59 ?_
        refine lv_iconst (v := (3 : Int32)) hx hb dX8_count_62 (by decide) ?_
        refine va_iald hx hb hg.1 hP 2 1 rfl rfl (ib_in (gd_t hf)) dX8_count_63 ?_
        have hf := gd_x hf
        rw [← Option.some.inj hf]
        exact rt_i (u := ()) hx hb hr hlocks hP hD trivial hS dX8_count_64
      · have hf := it_f c3 hf
        by_cases c4 : a1 = (3 : Int32)
        · have hf := it_t c4 hf
          refine lv_tableIn (off := 64) (tgt := 65) hx hb dX8_count_1 (by rw [c4]; decide) (by rw [c4]; decide) (by rw [c4]; rfl) (by decide) ?_
          refine lv_aload_n hx hb dX8_count_65 rfl (lv_at hl 0 rfl) ?_
          refine va_get (D := G.1) (ci := 8) (v := .ref h_t_many) (C := RX8) (T := TX8) (N := 21) hx hb hts hiX8 hown hg.1 hP 0 rfl rfl 4 (by decide) (hts (.fieldLink RX8 17 "AsARuleModel" "many" "[I") (by decide +kernel)) (fun _ h9 => h9) rfl dX8_count_66 ?_
          refine lv_iconst (v := (4 : Int32)) hx hb dX8_count_69 (by decide) ?_
          refine va_iald hx hb hg.1 hP 2 1 rfl rfl (ib_in (gd_t hf)) dX8_count_70 ?_
          have hf := gd_x hf
          rw [← Option.some.inj hf]
          exact rt_i (u := ()) hx hb hr hlocks hP hD trivial hS dX8_count_71
        · have hf := it_f c4 hf
          by_cases c5 : a1 = (4 : Int32)
          · have hf := it_t c5 hf
            refine lv_tableIn (off := 71) (tgt := 72) hx hb dX8_count_1 (by rw [c5]; decide) (by rw [c5]; decide) (by rw [c5]; rfl) (by decide) ?_
            refine lv_aload_n hx hb dX8_count_72 rfl (lv_at hl 0 rfl) ?_
            refine va_get (D := G.1) (ci := 8) (v := .int t_quarrel) (C := RX8) (T := TX8) (N := 21) hx hb hts hiX8 hown hg.1 hP 0 rfl rfl 20 (by decide) (hts (.fieldLink RX8 169 "AsARuleModel" "quarrel" "Z") (by decide +kernel)) (fun _ h9 => h9) rfl dX8_count_73 ?_
            refine lv_if_eq (tgt := 83) hx hb dX8_count_76 (by decide) (fun c6 => ?_) (fun c6 => ?_)
            · have hf := it_t c6 hf
              refine lv_iconst (v := (0 : Int32)) hx hb dX8_count_83 (by decide) ?_
              rw [← Option.some.inj hf]
              exact rt_i (u := ()) hx hb hr hlocks hP hD trivial hS dX8_count_84
            · have hf := it_f c6 hf
              refine lv_iconst (v := (1 : Int32)) hx hb dX8_count_79 (by decide) ?_
              refine lv_goto (tgt := 84) hx hb dX8_count_80 (by decide) ?_
              rw [← Option.some.inj hf]
              exact rt_i (u := ()) hx hb hr hlocks hP hD trivial hS dX8_count_84
          · have hf := it_f c5 hf
            by_cases c7 : a1 = (5 : Int32)
            · have hf := it_t c7 hf
              refine lv_tableIn (off := 84) (tgt := 85) hx hb dX8_count_1 (by rw [c7]; decide) (by rw [c7]; decide) (by rw [c7]; rfl) (by decide) ?_
              refine lv_aload_n hx hb dX8_count_85 rfl (lv_at hl 0 rfl) ?_
              refine va_get (D := G.1) (ci := 8) (v := .int t_typed) (C := RX8) (T := TX8) (N := 21) hx hb hts hiX8 hown hg.1 hP 0 rfl rfl 2 (by decide) (hts (.fieldLink RX8 59 "AsARuleModel" "typed" "I") (by decide +kernel)) (fun _ h9 => h9) rfl dX8_count_86 ?_
              rw [← Option.some.inj hf]
              exact rt_i (u := ()) hx hb hr hlocks hP hD trivial hS dX8_count_89
            · have hf := it_f c7 hf
              by_cases c8 : a1 = (6 : Int32)
              · have hf := it_t c8 hf
                refine lv_tableIn (off := 89) (tgt := 90) hx hb dX8_count_1 (by rw [c8]; decide) (by rw [c8]; decide) (by rw [c8]; rfl) (by decide) ?_
                refine lv_aload_n hx hb dX8_count_90 rfl (lv_at hl 0 rfl) ?_
                obtain ⟨o9, ho9, hf⟩ := bd_e hf
                refine af_l (wr := []) (va_runV (As := []) (rest := []) ⟨hx, hb, hml, hown, hts⟩ (c_X8_thereNow l G h_t h_t_text h_t_said h_t_many h_t_grades h_t_doubts h_t_vals h_t_waits h_t_fresh h_t_freshMany H.size t_trace t_typed t_when t_then t_at t_token t_start t_valMany t_waitMany t_open t_saying t_quarrel t_said t_many o9 ho9) (cwV 0 hts gX8_count_X8_thereNow rfl rfl rfl (by decide +kernel) ⟨Nat.le_of_ble_eq_true rfl, Nat.le_of_ble_eq_true rfl⟩) (pcA_preV hg hc hP hD hS hA [0, 1, 2] rfl (by decide) (q0 := 0) (ci := 8) rfl rfl rfl) rfl rfl hl.1 rfl (lv_room (Nat.le_of_ble_eq_true rfl)) dX8_count_91 ⟨Nat.zero_le _, Nat.zero_le _⟩) hP hD hS hA [0, 1, 2] [] rfl rfl (by decide) (by decide) (fun _ H locs _ hP hD hS => ?_)
                have hP : va_P G.1 vwCl [(h_t, .inr (8, [.long t_trace, .ref h_t_text, .int t_typed, .ref h_t_said, .ref h_t_many, .long t_when, .long t_then, .ref h_t_grades, .ref h_t_doubts, .int t_at, .int t_token, .int t_start, .ref h_t_vals, .ref h_t_waits, .int t_valMany, .int t_waitMany, .int t_open, .long t_saying, .ref h_t_fresh, .ref h_t_freshMany, .int t_quarrel])), (h_t_said, .inl (G.2.1.2.2, 45, .inr (.inl t_said))), (h_t_many, .inl (G.2.1.2.1, 5, .inl t_many))] H := hP
                have hD : va_D A [(h_t, .inr (8, [.long t_trace, .ref h_t_text, .int t_typed, .ref h_t_said, .ref h_t_many, .long t_when, .long t_then, .ref h_t_grades, .ref h_t_doubts, .int t_at, .int t_token, .int t_start, .ref h_t_vals, .ref h_t_waits, .int t_valMany, .int t_waitMany, .int t_open, .long t_saying, .ref h_t_fresh, .ref h_t_freshMany, .int t_quarrel])), (h_t_said, .inl (G.2.1.2.2, 45, .inr (.inl t_said))), (h_t_many, .inl (G.2.1.2.1, 5, .inl t_many))] := hD
                obtain ⟨o10, ho10, hf⟩ := bd_e hf
                refine af0_i (va_runS (As := [.long o9]) (rest := []) ⟨hx, hb, hml, hown, hts⟩ (c_X8_sizeOf l G H.size o9 o10 ho10) (va_cwS 1 hts gX8_count_X8_sizeOf rfl rfl rfl (by decide +kernel) ⟨Nat.le_of_ble_eq_true rfl, Nat.le_of_ble_eq_true rfl⟩) (pcA_pre hg hc hP hD hS hA [] rfl rfl [.long o9]) rfl rfl hl.1 rfl (lv_room (Nat.le_of_ble_eq_true rfl)) dX8_count_94 ⟨Nat.zero_le _, Nat.zero_le _⟩) hP hD hS hA (fun H locs hP hD hS => ?_)
                rw [← Option.some.inj hf]
                exact rt_i (u := ()) hx hb hr hlocks hP hD trivial hS dX8_count_97
              · have hf := it_f c8 hf
                have q_0 := lv_neT c1 (a := 0) rfl
                have q_1 := lv_neT c2 (a := 1) rfl
                have q_2 := lv_neT c3 (a := 2) rfl
                have q_3 := lv_neT c4 (a := 3) rfl
                have q_4 := lv_neT c5 (a := 4) rfl
                have q_5 := lv_neT c7 (a := 5) rfl
                have q_6 := lv_neT c8 (a := 6) rfl
                refine lv_tableOut (tgt := 98) hx hb dX8_count_1 (by omega) (by decide) ?_
                refine lv_iconst (v := (-1 : Int32)) hx hb dX8_count_98 (by decide) ?_
                rw [← Option.some.inj hf]
                exact rt_i (u := ()) hx hb hr hlocks hP hD trivial hS dX8_count_99
-- method X8_trace
def f_X8_trace (t_trace : Int64) : Option (Int64) :=
  some (t_trace)
set_option maxHeartbeats 4000000 in
set_option maxRecDepth 100000 in
theorem c_X8_trace (l : Launch) (G : GG) (h_t h_t_text h_t_said h_t_many h_t_grades h_t_doubts h_t_vals h_t_waits h_t_fresh h_t_freshMany : Nat) (sz : Nat) (t_trace : Int64) (t_typed : Int32) (t_when : Int64) (t_then : Int64) (t_at : Int32) (t_token : Int32) (t_start : Int32) (t_valMany : Int32) (t_waitMany : Int32) (t_open : Int32) (t_saying : Int64) (t_quarrel : Int32)  (o : Int64) (ho : f_X8_trace t_trace = some o)  : Met l yX8_trace wsX8_trace ({ frames := 0, cells := 0, slots := 0, locals := 0 } : Room) (pcA G [.ref h_t] [(h_t, .inr (8, [.long t_trace, .ref h_t_text, .int t_typed, .ref h_t_said, .ref h_t_many, .long t_when, .long t_then, .ref h_t_grades, .ref h_t_doubts, .int t_at, .int t_token, .int t_start, .ref h_t_vals, .ref h_t_waits, .int t_valMany, .int t_waitMany, .int t_open, .long t_saying, .ref h_t_fresh, .ref h_t_freshMany, .int t_quarrel]))] sz) (qcL Unit G o (fun _ => True) (fun _ => [(h_t, .inr (8, [.long t_trace, .ref h_t_text, .int t_typed, .ref h_t_said, .ref h_t_many, .long t_when, .long t_then, .ref h_t_grades, .ref h_t_doubts, .int t_at, .int t_token, .int t_start, .ref h_t_vals, .ref h_t_waits, .int t_valMany, .int t_waitMany, .int t_open, .long t_saying, .ref h_t_fresh, .ref h_t_freshMany, .int t_quarrel]))]) (va_A [(h_t, .inr (8, [.long t_trace, .ref h_t_text, .int t_typed, .ref h_t_said, .ref h_t_many, .long t_when, .long t_then, .ref h_t_grades, .ref h_t_doubts, .int t_at, .int t_token, .int t_start, .ref h_t_vals, .ref h_t_waits, .int t_valMany, .int t_waitMany, .int t_open, .long t_saying, .ref h_t_fresh, .ref h_t_freshMany, .int t_quarrel]))] sz)) 0 0 (va_A [(h_t, .inr (8, [.long t_trace, .ref h_t_text, .int t_typed, .ref h_t_said, .ref h_t_many, .long t_when, .long t_then, .ref h_t_grades, .ref h_t_doubts, .int t_at, .int t_token, .int t_start, .ref h_t_vals, .ref h_t_waits, .int t_valMany, .int t_waitMany, .int t_open, .long t_saying, .ref h_t_fresh, .ref h_t_freshMany, .int t_quarrel]))] sz) := by
  refine Met.ofW (cc := cX8_trace) (maxL := 1) (ret := (some .long)) (by decide) rfl ?_
  intro p e s m args below meth c s₁ B hml hv
  obtain ⟨rfl, hsz, hP, hg, hD0, hc⟩ := hv
  have hx := B.exec
  have hb := B.bytes
  have hr := B.returns
  have hts := atoms_spec (ws := wsX8_trace) B.pre
  have hown : s.vm.findClass RX8 = some m.cls := findClass_of_methodNamed B.named
  have hlocks := B.notSynchronized
  subst hsz
  have hD := hD0.self (sz := s.heap.size)
  generalize hAe : va_A [(h_t, .inr (8, [.long t_trace, .ref h_t_text, .int t_typed, .ref h_t_said, .ref h_t_many, .long t_when, .long t_then, .ref h_t_grades, .ref h_t_doubts, .int t_at, .int t_token, .int t_start, .ref h_t_vals, .ref h_t_waits, .int t_valMany, .int t_waitMany, .int t_open, .long t_saying, .ref h_t_fresh, .ref h_t_freshMany, .int t_quarrel]))] s.heap.size = A at hD hc ⊢
  have hA : ∀ q : Nat, s.heap.size ≤ q → A q := fun q h => by rw [← hAe]; exact Or.inr h
  have hiX8 : ∀ w ∈ wsX80, w ∈ wsX8_trace := by decide +kernel
  have hl := lv_entry ([.ref h_t]) (n := 1) (Nat.le_of_ble_eq_true rfl)
  rw [lg_entry_eq]
  generalize (lg_sl ([.ref h_t]) ++ List.replicate (1 - (lg_sl ([.ref h_t])).length) Slot.unset).toArray = ls at hl ⊢
  have hl : lv_has ls 1 [(0, .ref h_t)] := hl
  have hf := ho
  unfold f_X8_trace at hf
  refine en (fun H locs hP hD hS => ?_) hP hD
  refine lv_aload_n hx hb dX8_trace_0 rfl (lv_at hl 0 rfl) ?_
  refine va_get (D := G.1) (ci := 8) (v := .long t_trace) (C := RX8) (T := TX8) (N := 21) hx hb hts hiX8 hown hg.1 hP 0 rfl rfl 0 (by decide) (hts (.fieldLink RX8 235 "AsARuleModel" "trace" "J") (by decide +kernel)) (fun _ h9 => h9) rfl dX8_trace_1 ?_
  rw [← Option.some.inj hf]
  exact rt_l (u := ()) hx hb hr hlocks hP hD trivial hS dX8_trace_4
