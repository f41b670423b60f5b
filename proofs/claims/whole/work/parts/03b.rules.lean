-- method X4_size
def f_X4_size (t_whens_size : Int32) : Option (Int32) :=
  bd (f_X5_size t_whens_size) (fun o1 => some (o1))
set_option maxHeartbeats 4000000 in
set_option maxRecDepth 100000 in
theorem c_X4_size (l : Launch) (G : GG) (h_t h_t_whens h_t_thens h_t_grades h_t_whens_kept : Nat) (sz : Nat) (t_quarrel : Int32) (t_whens_most : Int32) (t_whens_size : Int32)  (o : Int32) (ho : f_X4_size t_whens_size = some o)  : Met l yX4_size wsX4_size ({ frames := 1, cells := 0, slots := 0, locals := 20 } : Room) (pcA G [.ref h_t] [(h_t, .inr (4, [.ref h_t_whens, .ref h_t_thens, .ref h_t_grades, .int t_quarrel])), (h_t_whens, .inr (5, [.ref h_t_whens_kept, .int t_whens_most, .int t_whens_size]))] sz) (qcI Unit G o (fun _ => True) (fun _ => [(h_t, .inr (4, [.ref h_t_whens, .ref h_t_thens, .ref h_t_grades, .int t_quarrel])), (h_t_whens, .inr (5, [.ref h_t_whens_kept, .int t_whens_most, .int t_whens_size]))]) (va_A [(h_t, .inr (4, [.ref h_t_whens, .ref h_t_thens, .ref h_t_grades, .int t_quarrel])), (h_t_whens, .inr (5, [.ref h_t_whens_kept, .int t_whens_most, .int t_whens_size]))] sz)) 0 0 (va_A [(h_t, .inr (4, [.ref h_t_whens, .ref h_t_thens, .ref h_t_grades, .int t_quarrel])), (h_t_whens, .inr (5, [.ref h_t_whens_kept, .int t_whens_most, .int t_whens_size]))] sz) := by
  refine Met.ofW (cc := cX4_size) (maxL := 1) (ret := (some .int)) (by decide) rfl ?_
  intro p e s m args below meth c s₁ B hml hv
  obtain ⟨rfl, hsz, hP, hg, hD0, hc⟩ := hv
  have hx := B.exec
  have hb := B.bytes
  have hr := B.returns
  have hts := atoms_spec (ws := wsX4_size) B.pre
  have hown : s.vm.findClass RX4 = some m.cls := findClass_of_methodNamed B.named
  have hlocks := B.notSynchronized
  subst hsz
  have hD := hD0.self (sz := s.heap.size)
  generalize hAe : va_A [(h_t, .inr (4, [.ref h_t_whens, .ref h_t_thens, .ref h_t_grades, .int t_quarrel])), (h_t_whens, .inr (5, [.ref h_t_whens_kept, .int t_whens_most, .int t_whens_size]))] s.heap.size = A at hD hc ⊢
  have hA : ∀ q : Nat, s.heap.size ≤ q → A q := fun q h => by rw [← hAe]; exact Or.inr h
  have hiX4 : ∀ w ∈ wsX40, w ∈ wsX4_size := by decide +kernel
  have hl := lv_entry ([.ref h_t]) (n := 1) (Nat.le_of_ble_eq_true rfl)
  rw [lg_entry_eq]
  generalize (lg_sl ([.ref h_t]) ++ List.replicate (1 - (lg_sl ([.ref h_t])).length) Slot.unset).toArray = ls at hl ⊢
  have hl : lv_has ls 1 [(0, .ref h_t)] := hl
  have hf := ho
  unfold f_X4_size at hf
  refine en (fun H locs hP hD hS => ?_) hP hD
  refine lv_aload_n hx hb dX4_size_0 rfl (lv_at hl 0 rfl) ?_
  refine va_get (D := G.1) (ci := 4) (v := .ref h_t_whens) (C := RX4) (T := TX4) (N := 4) hx hb hts hiX4 hown hg.1 hP 0 rfl rfl 0 (by decide) (hts (.fieldLink RX4 24 "AsARule$Rules" "whens" "LAsARule$Sayings;") (by decide +kernel)) (fun _ h9 => h9) rfl dX4_size_1 ?_
  obtain ⟨o1, ho1, hf⟩ := bd_e hf
  refine af_i (wr := [(h_t, .inr (4, [.ref h_t_whens, .ref h_t_thens, .ref h_t_grades, .int t_quarrel]))]) (va_runV (As := []) (rest := []) ⟨hx, hb, hml, hown, hts⟩ (c_X5_size l G h_t_whens h_t_whens_kept H.size t_whens_most t_whens_size o1 ho1) (cwV 0 hts gX4_size_X5_size rfl rfl rfl (by decide +kernel) ⟨Nat.le_of_ble_eq_true rfl, Nat.le_of_ble_eq_true rfl⟩) (pcA_preV hg hc hP hD hS hA [1] rfl (by decide) (q0 := 1) (ci := 5) rfl rfl rfl) rfl rfl hl.1 rfl (lv_room (Nat.le_of_ble_eq_true rfl)) dX4_size_4 ⟨Nat.zero_le _, Nat.zero_le _⟩) hP hD hS hA [1] [0] rfl rfl (by decide) (by decide) (fun _ H locs _ hP hD hS => ?_)
  have hP : va_P G.1 vwCl [(h_t, .inr (4, [.ref h_t_whens, .ref h_t_thens, .ref h_t_grades, .int t_quarrel])), (h_t_whens, .inr (5, [.ref h_t_whens_kept, .int t_whens_most, .int t_whens_size]))] H := hP
  have hD : va_D A [(h_t, .inr (4, [.ref h_t_whens, .ref h_t_thens, .ref h_t_grades, .int t_quarrel])), (h_t_whens, .inr (5, [.ref h_t_whens_kept, .int t_whens_most, .int t_whens_size]))] := hD
  rw [← Option.some.inj hf]
  exact rt_i (u := ()) hx hb hr hlocks hP hD trivial hS dX4_size_7
-- method X4_isFull
def f_X4_isFull (t_whens_most : Int32) (t_whens_size : Int32) : Option (Int32) :=
  bd (f_X5_isFull t_whens_most t_whens_size) (fun o1 => gd (zb o1) (some (o1)))
set_option maxHeartbeats 4000000 in
set_option maxRecDepth 100000 in
theorem c_X4_isFull (l : Launch) (G : GG) (h_t h_t_whens h_t_thens h_t_grades h_t_whens_kept : Nat) (sz : Nat) (t_quarrel : Int32) (t_whens_most : Int32) (t_whens_size : Int32)  (o : Int32) (ho : f_X4_isFull t_whens_most t_whens_size = some o)  : Met l yX4_isFull wsX4_isFull ({ frames := 1, cells := 0, slots := 0, locals := 20 } : Room) (pcA G [.ref h_t] [(h_t, .inr (4, [.ref h_t_whens, .ref h_t_thens, .ref h_t_grades, .int t_quarrel])), (h_t_whens, .inr (5, [.ref h_t_whens_kept, .int t_whens_most, .int t_whens_size]))] sz) (qcI Unit G o (fun _ => True) (fun _ => [(h_t, .inr (4, [.ref h_t_whens, .ref h_t_thens, .ref h_t_grades, .int t_quarrel])), (h_t_whens, .inr (5, [.ref h_t_whens_kept, .int t_whens_most, .int t_whens_size]))]) (va_A [(h_t, .inr (4, [.ref h_t_whens, .ref h_t_thens, .ref h_t_grades, .int t_quarrel])), (h_t_whens, .inr (5, [.ref h_t_whens_kept, .int t_whens_most, .int t_whens_size]))] sz)) 0 0 (va_A [(h_t, .inr (4, [.ref h_t_whens, .ref h_t_thens, .ref h_t_grades, .int t_quarrel])), (h_t_whens, .inr (5, [.ref h_t_whens_kept, .int t_whens_most, .int t_whens_size]))] sz) := by
  refine Met.ofW (cc := cX4_isFull) (maxL := 1) (ret := (some .boolean)) (by decide) rfl ?_
  intro p e s m args below meth c s₁ B hml hv
  obtain ⟨rfl, hsz, hP, hg, hD0, hc⟩ := hv
  have hx := B.exec
  have hb := B.bytes
  have hr := B.returns
  have hts := atoms_spec (ws := wsX4_isFull) B.pre
  have hown : s.vm.findClass RX4 = some m.cls := findClass_of_methodNamed B.named
  have hlocks := B.notSynchronized
  subst hsz
  have hD := hD0.self (sz := s.heap.size)
  generalize hAe : va_A [(h_t, .inr (4, [.ref h_t_whens, .ref h_t_thens, .ref h_t_grades, .int t_quarrel])), (h_t_whens, .inr (5, [.ref h_t_whens_kept, .int t_whens_most, .int t_whens_size]))] s.heap.size = A at hD hc ⊢
  have hA : ∀ q : Nat, s.heap.size ≤ q → A q := fun q h => by rw [← hAe]; exact Or.inr h
  have hiX4 : ∀ w ∈ wsX40, w ∈ wsX4_isFull := by decide +kernel
  have hl := lv_entry ([.ref h_t]) (n := 1) (Nat.le_of_ble_eq_true rfl)
  rw [lg_entry_eq]
  generalize (lg_sl ([.ref h_t]) ++ List.replicate (1 - (lg_sl ([.ref h_t])).length) Slot.unset).toArray = ls at hl ⊢
  have hl : lv_has ls 1 [(0, .ref h_t)] := hl
  have hf := ho
  unfold f_X4_isFull at hf
  refine en (fun H locs hP hD hS => ?_) hP hD
  refine lv_aload_n hx hb dX4_isFull_0 rfl (lv_at hl 0 rfl) ?_
  refine va_get (D := G.1) (ci := 4) (v := .ref h_t_whens) (C := RX4) (T := TX4) (N := 4) hx hb hts hiX4 hown hg.1 hP 0 rfl rfl 0 (by decide) (hts (.fieldLink RX4 24 "AsARule$Rules" "whens" "LAsARule$Sayings;") (by decide +kernel)) (fun _ h9 => h9) rfl dX4_isFull_1 ?_
  obtain ⟨o1, ho1, hf⟩ := bd_e hf
  refine af_i (wr := [(h_t, .inr (4, [.ref h_t_whens, .ref h_t_thens, .ref h_t_grades, .int t_quarrel]))]) (va_runV (As := []) (rest := []) ⟨hx, hb, hml, hown, hts⟩ (c_X5_isFull l G h_t_whens h_t_whens_kept H.size t_whens_most t_whens_size o1 ho1) (cwV 0 hts gX4_isFull_X5_isFull rfl rfl rfl (by decide +kernel) ⟨Nat.le_of_ble_eq_true rfl, Nat.le_of_ble_eq_true rfl⟩) (pcA_preV hg hc hP hD hS hA [1] rfl (by decide) (q0 := 1) (ci := 5) rfl rfl rfl) rfl rfl hl.1 rfl (lv_room (Nat.le_of_ble_eq_true rfl)) dX4_isFull_4 ⟨Nat.zero_le _, Nat.zero_le _⟩) hP hD hS hA [1] [0] rfl rfl (by decide) (by decide) (fun _ H locs _ hP hD hS => ?_)
  have hP : va_P G.1 vwCl [(h_t, .inr (4, [.ref h_t_whens, .ref h_t_thens, .ref h_t_grades, .int t_quarrel])), (h_t_whens, .inr (5, [.ref h_t_whens_kept, .int t_whens_most, .int t_whens_size]))] H := hP
  have hD : va_D A [(h_t, .inr (4, [.ref h_t_whens, .ref h_t_thens, .ref h_t_grades, .int t_quarrel])), (h_t_whens, .inr (5, [.ref h_t_whens_kept, .int t_whens_most, .int t_whens_size]))] := hD
  have z2 := gd_t hf
  have hf := gd_x hf
  rw [← Option.some.inj hf]
  exact rt_z (u := ()) hx hb hr z2 hlocks hP hD trivial hS dX4_isFull_7
-- method X4_has
def f_X4_has (t_whens_size : Int32) (a1 : Int32) : Option (Int32) :=
  bd (f_X5_has t_whens_size a1) (fun o1 => gd (zb o1) (some (o1)))
set_option maxHeartbeats 4000000 in
set_option maxRecDepth 100000 in
theorem c_X4_has (l : Launch) (G : GG) (h_t h_t_whens h_t_thens h_t_grades h_t_whens_kept : Nat) (sz : Nat) (t_quarrel : Int32) (t_whens_most : Int32) (t_whens_size : Int32) (a1 : Int32) (o : Int32) (ho : f_X4_has t_whens_size a1 = some o)  : Met l yX4_has wsX4_has ({ frames := 1, cells := 0, slots := 0, locals := 21 } : Room) (pcA G [.ref h_t, .int a1] [(h_t, .inr (4, [.ref h_t_whens, .ref h_t_thens, .ref h_t_grades, .int t_quarrel])), (h_t_whens, .inr (5, [.ref h_t_whens_kept, .int t_whens_most, .int t_whens_size]))] sz) (qcI Unit G o (fun _ => True) (fun _ => [(h_t, .inr (4, [.ref h_t_whens, .ref h_t_thens, .ref h_t_grades, .int t_quarrel])), (h_t_whens, .inr (5, [.ref h_t_whens_kept, .int t_whens_most, .int t_whens_size]))]) (va_A [(h_t, .inr (4, [.ref h_t_whens, .ref h_t_thens, .ref h_t_grades, .int t_quarrel])), (h_t_whens, .inr (5, [.ref h_t_whens_kept, .int t_whens_most, .int t_whens_size]))] sz)) 0 0 (va_A [(h_t, .inr (4, [.ref h_t_whens, .ref h_t_thens, .ref h_t_grades, .int t_quarrel])), (h_t_whens, .inr (5, [.ref h_t_whens_kept, .int t_whens_most, .int t_whens_size]))] sz) := by
  refine Met.ofW (cc := cX4_has) (maxL := 2) (ret := (some .boolean)) (by decide) rfl ?_
  intro p e s m args below meth c s₁ B hml hv
  obtain ⟨rfl, hsz, hP, hg, hD0, hc⟩ := hv
  have hx := B.exec
  have hb := B.bytes
  have hr := B.returns
  have hts := atoms_spec (ws := wsX4_has) B.pre
  have hown : s.vm.findClass RX4 = some m.cls := findClass_of_methodNamed B.named
  have hlocks := B.notSynchronized
  subst hsz
  have hD := hD0.self (sz := s.heap.size)
  generalize hAe : va_A [(h_t, .inr (4, [.ref h_t_whens, .ref h_t_thens, .ref h_t_grades, .int t_quarrel])), (h_t_whens, .inr (5, [.ref h_t_whens_kept, .int t_whens_most, .int t_whens_size]))] s.heap.size = A at hD hc ⊢
  have hA : ∀ q : Nat, s.heap.size ≤ q → A q := fun q h => by rw [← hAe]; exact Or.inr h
  have hiX4 : ∀ w ∈ wsX40, w ∈ wsX4_has := by decide +kernel
  have hl := lv_entry ([.ref h_t, .int a1]) (n := 2) (Nat.le_of_ble_eq_true rfl)
  rw [lg_entry_eq]
  generalize (lg_sl ([.ref h_t, .int a1]) ++ List.replicate (2 - (lg_sl ([.ref h_t, .int a1])).length) Slot.unset).toArray = ls at hl ⊢
  have hl : lv_has ls 2 [(0, .ref h_t), (1, .int a1)] := hl
  have hf := ho
  unfold f_X4_has at hf
  refine en (fun H locs hP hD hS => ?_) hP hD
  refine lv_aload_n hx hb dX4_has_0 rfl (lv_at hl 0 rfl) ?_
  refine va_get (D := G.1) (ci := 4) (v := .ref h_t_whens) (C := RX4) (T := TX4) (N := 4) hx hb hts hiX4 hown hg.1 hP 0 rfl rfl 0 (by decide) (hts (.fieldLink RX4 24 "AsARule$Rules" "whens" "LAsARule$Sayings;") (by decide +kernel)) (fun _ h9 => h9) rfl dX4_has_1 ?_
  refine lv_iload_n hx hb dX4_has_4 rfl (lv_at hl 1 rfl) ?_
  obtain ⟨o1, ho1, hf⟩ := bd_e hf
  refine af_i (wr := [(h_t, .inr (4, [.ref h_t_whens, .ref h_t_thens, .ref h_t_grades, .int t_quarrel]))]) (va_runV (As := [.int a1]) (rest := []) ⟨hx, hb, hml, hown, hts⟩ (c_X5_has l G h_t_whens h_t_whens_kept H.size t_whens_most t_whens_size a1 o1 ho1) (cwV 1 hts gX4_has_X5_has rfl rfl rfl (by decide +kernel) ⟨Nat.le_of_ble_eq_true rfl, Nat.le_of_ble_eq_true rfl⟩) (pcA_preV hg hc hP hD hS hA [1] rfl (by decide) (q0 := 1) (ci := 5) rfl rfl rfl) rfl rfl hl.1 rfl (lv_room (Nat.le_of_ble_eq_true rfl)) dX4_has_5 ⟨Nat.zero_le _, Nat.zero_le _⟩) hP hD hS hA [1] [0] rfl rfl (by decide) (by decide) (fun _ H locs _ hP hD hS => ?_)
  have hP : va_P G.1 vwCl [(h_t, .inr (4, [.ref h_t_whens, .ref h_t_thens, .ref h_t_grades, .int t_quarrel])), (h_t_whens, .inr (5, [.ref h_t_whens_kept, .int t_whens_most, .int t_whens_size]))] H := hP
  have hD : va_D A [(h_t, .inr (4, [.ref h_t_whens, .ref h_t_thens, .ref h_t_grades, .int t_quarrel])), (h_t_whens, .inr (5, [.ref h_t_whens_kept, .int t_whens_most, .int t_whens_size]))] := hD
  have z2 := gd_t hf
  have hf := gd_x hf
  rw [← Option.some.inj hf]
  exact rt_z (u := ()) hx hb hr z2 hlocks hP hD trivial hS dX4_has_8
-- method X4_quarrel
def f_X4_quarrel (t_quarrel : Int32) : Option (Int32) :=
  gd (zb t_quarrel) (some (t_quarrel))
set_option maxHeartbeats 4000000 in
set_option maxRecDepth 100000 in
theorem c_X4_quarrel (l : Launch) (G : GG) (h_t h_t_whens h_t_thens h_t_grades : Nat) (sz : Nat) (t_quarrel : Int32)  (o : Int32) (ho : f_X4_quarrel t_quarrel = some o)  : Met l yX4_quarrel wsX4_quarrel ({ frames := 0, cells := 0, slots := 0, locals := 0 } : Room) (pcA G [.ref h_t] [(h_t, .inr (4, [.ref h_t_whens, .ref h_t_thens, .ref h_t_grades, .int t_quarrel]))] sz) (qcI Unit G o (fun _ => True) (fun _ => [(h_t, .inr (4, [.ref h_t_whens, .ref h_t_thens, .ref h_t_grades, .int t_quarrel]))]) (va_A [(h_t, .inr (4, [.ref h_t_whens, .ref h_t_thens, .ref h_t_grades, .int t_quarrel]))] sz)) 0 0 (va_A [(h_t, .inr (4, [.ref h_t_whens, .ref h_t_thens, .ref h_t_grades, .int t_quarrel]))] sz) := by
  refine Met.ofW (cc := cX4_quarrel) (maxL := 1) (ret := (some .boolean)) (by decide) rfl ?_
  intro p e s m args below meth c s₁ B hml hv
  obtain ⟨rfl, hsz, hP, hg, hD0, hc⟩ := hv
  have hx := B.exec
  have hb := B.bytes
  have hr := B.returns
  have hts := atoms_spec (ws := wsX4_quarrel) B.pre
  have hown : s.vm.findClass RX4 = some m.cls := findClass_of_methodNamed B.named
  have hlocks := B.notSynchronized
  subst hsz
  have hD := hD0.self (sz := s.heap.size)
  generalize hAe : va_A [(h_t, .inr (4, [.ref h_t_whens, .ref h_t_thens, .ref h_t_grades, .int t_quarrel]))] s.heap.size = A at hD hc ⊢
  have hA : ∀ q : Nat, s.heap.size ≤ q → A q := fun q h => by rw [← hAe]; exact Or.inr h
  have hiX4 : ∀ w ∈ wsX40, w ∈ wsX4_quarrel := by decide +kernel
  have hl := lv_entry ([.ref h_t]) (n := 1) (Nat.le_of_ble_eq_true rfl)
  rw [lg_entry_eq]
  generalize (lg_sl ([.ref h_t]) ++ List.replicate (1 - (lg_sl ([.ref h_t])).length) Slot.unset).toArray = ls at hl ⊢
  have hl : lv_has ls 1 [(0, .ref h_t)] := hl
  have hf := ho
  unfold f_X4_quarrel at hf
  refine en (fun H locs hP hD hS => ?_) hP hD
  refine lv_aload_n hx hb dX4_quarrel_0 rfl (lv_at hl 0 rfl) ?_
  refine va_get (D := G.1) (ci := 4) (v := .int t_quarrel) (C := RX4) (T := TX4) (N := 4) hx hb hts hiX4 hown hg.1 hP 0 rfl rfl 3 (by decide) (hts (.fieldLink RX4 15 "AsARule$Rules" "quarrel" "Z") (by decide +kernel)) (fun _ h9 => h9) rfl dX4_quarrel_1 ?_
  have z1 := gd_t hf
  have hf := gd_x hf
  rw [← Option.some.inj hf]
  exact rt_z (u := ()) hx hb hr z1 hlocks hP hD trivial hS dX4_quarrel_4
-- method X4_empty
def f_X4_empty (t_whens_size : Int32) (t_thens_size : Int32) : Option (Int32 × Int32) :=
  bd (f_X5_empty t_whens_size) (fun o1 => bd (f_X5_empty t_thens_size) (fun o2 => some (o1, o2)))
set_option maxHeartbeats 4000000 in
set_option maxRecDepth 100000 in
theorem c_X4_empty (l : Launch) (G : GG) (h_t h_t_whens h_t_thens h_t_grades h_t_whens_kept h_t_thens_kept : Nat) (sz : Nat) (t_quarrel : Int32) (t_whens_most : Int32) (t_whens_size : Int32) (t_thens_most : Int32) (t_thens_size : Int32)  (o : Int32 × Int32) (ho : f_X4_empty t_whens_size t_thens_size = some o)  : Met l yX4_empty wsX4_empty ({ frames := 1, cells := 0, slots := 0, locals := 20 } : Room) (pcA G [.ref h_t] [(h_t, .inr (4, [.ref h_t_whens, .ref h_t_thens, .ref h_t_grades, .int t_quarrel])), (h_t_whens, .inr (5, [.ref h_t_whens_kept, .int t_whens_most, .int t_whens_size])), (h_t_thens, .inr (5, [.ref h_t_thens_kept, .int t_thens_most, .int t_thens_size]))] sz) (qcV Unit G (fun _ => True) (fun _ => [(h_t, .inr (4, [.ref h_t_whens, .ref h_t_thens, .ref h_t_grades, .int t_quarrel])), (h_t_whens, .inr (5, [.ref h_t_whens_kept, .int t_whens_most, .int o.1])), (h_t_thens, .inr (5, [.ref h_t_thens_kept, .int t_thens_most, .int o.2]))]) (va_A [(h_t, .inr (4, [.ref h_t_whens, .ref h_t_thens, .ref h_t_grades, .int t_quarrel])), (h_t_whens, .inr (5, [.ref h_t_whens_kept, .int t_whens_most, .int t_whens_size])), (h_t_thens, .inr (5, [.ref h_t_thens_kept, .int t_thens_most, .int t_thens_size]))] sz)) 0 0 (va_A [(h_t, .inr (4, [.ref h_t_whens, .ref h_t_thens, .ref h_t_grades, .int t_quarrel])), (h_t_whens, .inr (5, [.ref h_t_whens_kept, .int t_whens_most, .int t_whens_size])), (h_t_thens, .inr (5, [.ref h_t_thens_kept, .int t_thens_most, .int t_thens_size]))] sz) := by
  refine Met.ofW (cc := cX4_empty) (maxL := 1) (ret := none) (by decide) rfl ?_
  intro p e s m args below meth c s₁ B hml hv
  obtain ⟨rfl, hsz, hP, hg, hD0, hc⟩ := hv
  have hx := B.exec
  have hb := B.bytes
  have hr := B.returns
  have hts := atoms_spec (ws := wsX4_empty) B.pre
  have hown : s.vm.findClass RX4 = some m.cls := findClass_of_methodNamed B.named
  have hlocks := B.notSynchronized
  subst hsz
  have hD := hD0.self (sz := s.heap.size)
  generalize hAe : va_A [(h_t, .inr (4, [.ref h_t_whens, .ref h_t_thens, .ref h_t_grades, .int t_quarrel])), (h_t_whens, .inr (5, [.ref h_t_whens_kept, .int t_whens_most, .int t_whens_size])), (h_t_thens, .inr (5, [.ref h_t_thens_kept, .int t_thens_most, .int t_thens_size]))] s.heap.size = A at hD hc ⊢
  have hA : ∀ q : Nat, s.heap.size ≤ q → A q := fun q h => by rw [← hAe]; exact Or.inr h
  have hiX4 : ∀ w ∈ wsX40, w ∈ wsX4_empty := by decide +kernel
  have hl := lv_entry ([.ref h_t]) (n := 1) (Nat.le_of_ble_eq_true rfl)
  rw [lg_entry_eq]
  generalize (lg_sl ([.ref h_t]) ++ List.replicate (1 - (lg_sl ([.ref h_t])).length) Slot.unset).toArray = ls at hl ⊢
  have hl : lv_has ls 1 [(0, .ref h_t)] := hl
  have hf := ho
  unfold f_X4_empty at hf
  refine en (fun H locs hP hD hS => ?_) hP hD
  refine lv_aload_n hx hb dX4_empty_0 rfl (lv_at hl 0 rfl) ?_
  refine va_get (D := G.1) (ci := 4) (v := .ref h_t_whens) (C := RX4) (T := TX4) (N := 4) hx hb hts hiX4 hown hg.1 hP 0 rfl rfl 0 (by decide) (hts (.fieldLink RX4 24 "AsARule$Rules" "whens" "LAsARule$Sayings;") (by decide +kernel)) (fun _ h9 => h9) rfl dX4_empty_1 ?_
  obtain ⟨o1, ho1, hf⟩ := bd_e hf
  refine af_v (wr := [(h_t, .inr (4, [.ref h_t_whens, .ref h_t_thens, .ref h_t_grades, .int t_quarrel])), (h_t_thens, .inr (5, [.ref h_t_thens_kept, .int t_thens_most, .int t_thens_size]))]) (va_runV (As := []) (rest := []) ⟨hx, hb, hml, hown, hts⟩ (c_X5_empty l G h_t_whens h_t_whens_kept H.size t_whens_most t_whens_size o1 ho1) (cwV 0 hts gX4_empty_X5_empty rfl rfl rfl (by decide +kernel) ⟨Nat.le_of_ble_eq_true rfl, Nat.le_of_ble_eq_true rfl⟩) (pcA_preV hg hc hP hD hS hA [1] rfl (by decide) (q0 := 1) (ci := 5) rfl rfl rfl) rfl rfl hl.1 rfl (lv_room (Nat.le_of_ble_eq_true rfl)) dX4_empty_4 ⟨Nat.zero_le _, Nat.zero_le _⟩) hP hD hS hA [1] [0, 2] rfl rfl (by decide) (by decide) (fun _ H locs _ hP hD hS => ?_)
  have hP : va_P G.1 vwCl [(h_t, .inr (4, [.ref h_t_whens, .ref h_t_thens, .ref h_t_grades, .int t_quarrel])), (h_t_whens, .inr (5, [.ref h_t_whens_kept, .int t_whens_most, .int o1])), (h_t_thens, .inr (5, [.ref h_t_thens_kept, .int t_thens_most, .int t_thens_size]))] H := hP.sub [0, 2, 1] rfl
  have hD : va_D A [(h_t, .inr (4, [.ref h_t_whens, .ref h_t_thens, .ref h_t_grades, .int t_quarrel])), (h_t_whens, .inr (5, [.ref h_t_whens_kept, .int t_whens_most, .int o1])), (h_t_thens, .inr (5, [.ref h_t_thens_kept, .int t_thens_most, .int t_thens_size]))] := hD.sub [0, 2, 1] (by decide) rfl
  refine lv_aload_n hx hb dX4_empty_7 rfl (lv_at hl 0 rfl) ?_
  refine va_get (D := G.1) (ci := 4) (v := .ref h_t_thens) (C := RX4) (T := TX4) (N := 4) hx hb hts hiX4 hown hg.1 hP 0 rfl rfl 1 (by decide) (hts (.fieldLink RX4 28 "AsARule$Rules" "thens" "LAsARule$Sayings;") (by decide +kernel)) (fun _ h9 => h9) rfl dX4_empty_8 ?_
  obtain ⟨o2, ho2, hf⟩ := bd_e hf
  refine af_v (wr := [(h_t, .inr (4, [.ref h_t_whens, .ref h_t_thens, .ref h_t_grades, .int t_quarrel])), (h_t_whens, .inr (5, [.ref h_t_whens_kept, .int t_whens_most, .int o1]))]) (va_runV (As := []) (rest := []) ⟨hx, hb, hml, hown, hts⟩ (c_X5_empty l G h_t_thens h_t_thens_kept H.size t_thens_most t_thens_size o2 ho2) (cwV 0 hts gX4_empty_X5_empty rfl rfl rfl (by decide +kernel) ⟨Nat.le_of_ble_eq_true rfl, Nat.le_of_ble_eq_true rfl⟩) (pcA_preV hg hc hP hD hS hA [2] rfl (by decide) (q0 := 2) (ci := 5) rfl rfl rfl) rfl rfl hl.1 rfl (lv_room (Nat.le_of_ble_eq_true rfl)) dX4_empty_11 ⟨Nat.zero_le _, Nat.zero_le _⟩) hP hD hS hA [2] [0, 1] rfl rfl (by decide) (by decide) (fun _ H locs _ hP hD hS => ?_)
  have hP : va_P G.1 vwCl [(h_t, .inr (4, [.ref h_t_whens, .ref h_t_thens, .ref h_t_grades, .int t_quarrel])), (h_t_whens, .inr (5, [.ref h_t_whens_kept, .int t_whens_most, .int o1])), (h_t_thens, .inr (5, [.ref h_t_thens_kept, .int t_thens_most, .int o2]))] H := hP
  have hD : va_D A [(h_t, .inr (4, [.ref h_t_whens, .ref h_t_thens, .ref h_t_grades, .int t_quarrel])), (h_t_whens, .inr (5, [.ref h_t_whens_kept, .int t_whens_most, .int o1])), (h_t_thens, .inr (5, [.ref h_t_thens_kept, .int t_thens_most, .int o2]))] := hD
  rw [← Option.some.inj hf]
  exact rt_v (u := ()) hx hb hr hlocks hP hD trivial hS dX4_empty_14
-- method X4_add
def f_X4_add (t_whens_most : Int32) (t_whens_size : Int32) (t_whens_kept : Nat → Int64) (t_thens_most : Int32) (t_thens_size : Int32) (t_thens_kept : Nat → Int64) (a1 : Int64) (a3 : Int64) : Option (Int32 × (Nat → Int64) × Int32 × (Nat → Int64)) :=
  bd (f_X5_add t_whens_most t_whens_size t_whens_kept a1) (fun o1 => bd (f_X5_add t_thens_most t_thens_size t_thens_kept a3) (fun o2 => some (o1.1, o1.2, o2.1, o2.2)))
set_option maxHeartbeats 4000000 in
set_option maxRecDepth 100000 in
theorem c_X4_add (l : Launch) (G : GG) (h_t h_t_whens h_t_thens h_t_grades h_t_whens_kept h_t_thens_kept : Nat) (sz : Nat) (t_quarrel : Int32) (t_whens_most : Int32) (t_whens_size : Int32) (t_whens_kept : Nat → Int64) (t_thens_most : Int32) (t_thens_size : Int32) (t_thens_kept : Nat → Int64) (a1 : Int64) (a3 : Int64) (o : Int32 × (Nat → Int64) × Int32 × (Nat → Int64)) (ho : f_X4_add t_whens_most t_whens_size t_whens_kept t_thens_most t_thens_size t_thens_kept a1 a3 = some o)  : Met l yX4_add wsX4_add ({ frames := 1, cells := 0, slots := 0, locals := 22 } : Room) (pcA G [.ref h_t, .long a1, .long a3] [(h_t, .inr (4, [.ref h_t_whens, .ref h_t_thens, .ref h_t_grades, .int t_quarrel])), (h_t_whens, .inr (5, [.ref h_t_whens_kept, .int t_whens_most, .int t_whens_size])), (h_t_whens_kept, .inl (G.2.1.2.2, 9, .inr (.inl t_whens_kept))), (h_t_thens, .inr (5, [.ref h_t_thens_kept, .int t_thens_most, .int t_thens_size])), (h_t_thens_kept, .inl (G.2.1.2.2, 9, .inr (.inl t_thens_kept)))] sz) (qcV Unit G (fun _ => True) (fun _ => [(h_t, .inr (4, [.ref h_t_whens, .ref h_t_thens, .ref h_t_grades, .int t_quarrel])), (h_t_whens, .inr (5, [.ref h_t_whens_kept, .int t_whens_most, .int o.1])), (h_t_whens_kept, .inl (G.2.1.2.2, 9, .inr (.inl o.2.1))), (h_t_thens, .inr (5, [.ref h_t_thens_kept, .int t_thens_most, .int o.2.2.1])), (h_t_thens_kept, .inl (G.2.1.2.2, 9, .inr (.inl o.2.2.2)))]) (va_A [(h_t, .inr (4, [.ref h_t_whens, .ref h_t_thens, .ref h_t_grades, .int t_quarrel])), (h_t_whens, .inr (5, [.ref h_t_whens_kept, .int t_whens_most, .int t_whens_size])), (h_t_whens_kept, .inl (G.2.1.2.2, 9, .inr (.inl t_whens_kept))), (h_t_thens, .inr (5, [.ref h_t_thens_kept, .int t_thens_most, .int t_thens_size])), (h_t_thens_kept, .inl (G.2.1.2.2, 9, .inr (.inl t_thens_kept)))] sz)) 0 0 (va_A [(h_t, .inr (4, [.ref h_t_whens, .ref h_t_thens, .ref h_t_grades, .int t_quarrel])), (h_t_whens, .inr (5, [.ref h_t_whens_kept, .int t_whens_most, .int t_whens_size])), (h_t_whens_kept, .inl (G.2.1.2.2, 9, .inr (.inl t_whens_kept))), (h_t_thens, .inr (5, [.ref h_t_thens_kept, .int t_thens_most, .int t_thens_size])), (h_t_thens_kept, .inl (G.2.1.2.2, 9, .inr (.inl t_thens_kept)))] sz) := by
  refine Met.ofW (cc := cX4_add) (maxL := 5) (ret := none) (by decide) rfl ?_
  intro p e s m args below meth c s₁ B hml hv
  obtain ⟨rfl, hsz, hP, hg, hD0, hc⟩ := hv
  have hx := B.exec
  have hb := B.bytes
  have hr := B.returns
  have hts := atoms_spec (ws := wsX4_add) B.pre
  have hown : s.vm.findClass RX4 = some m.cls := findClass_of_methodNamed B.named
  have hlocks := B.notSynchronized
  subst hsz
  have hD := hD0.self (sz := s.heap.size)
  generalize hAe : va_A [(h_t, .inr (4, [.ref h_t_whens, .ref h_t_thens, .ref h_t_grades, .int t_quarrel])), (h_t_whens, .inr (5, [.ref h_t_whens_kept, .int t_whens_most, .int t_whens_size])), (h_t_whens_kept, .inl (G.2.1.2.2, 9, .inr (.inl t_whens_kept))), (h_t_thens, .inr (5, [.ref h_t_thens_kept, .int t_thens_most, .int t_thens_size])), (h_t_thens_kept, .inl (G.2.1.2.2, 9, .inr (.inl t_thens_kept)))] s.heap.size = A at hD hc ⊢
  have hA : ∀ q : Nat, s.heap.size ≤ q → A q := fun q h => by rw [← hAe]; exact Or.inr h
  have hiX4 : ∀ w ∈ wsX40, w ∈ wsX4_add := by decide +kernel
  have hl := lv_entry ([.ref h_t, .long a1, .long a3]) (n := 5) (Nat.le_of_ble_eq_true rfl)
  rw [lg_entry_eq]
  generalize (lg_sl ([.ref h_t, .long a1, .long a3]) ++ List.replicate (5 - (lg_sl ([.ref h_t, .long a1, .long a3])).length) Slot.unset).toArray = ls at hl ⊢
  have hl : lv_has ls 5 [(0, .ref h_t), (1, .long a1), (3, .long a3)] := hl
  have hf := ho
  unfold f_X4_add at hf
  refine en (fun H locs hP hD hS => ?_) hP hD
  refine lv_aload_n hx hb dX4_add_0 rfl (lv_at hl 0 rfl) ?_
  refine va_get (D := G.1) (ci := 4) (v := .ref h_t_whens) (C := RX4) (T := TX4) (N := 4) hx hb hts hiX4 hown hg.1 hP 0 rfl rfl 0 (by decide) (hts (.fieldLink RX4 24 "AsARule$Rules" "whens" "LAsARule$Sayings;") (by decide +kernel)) (fun _ h9 => h9) rfl dX4_add_1 ?_
  refine lv_lload_n hx hb dX4_add_4 rfl (lv_at hl 1 rfl) ?_
  obtain ⟨o1, ho1, hf⟩ := bd_e hf
  refine af_v (wr := [(h_t, .inr (4, [.ref h_t_whens, .ref h_t_thens, .ref h_t_grades, .int t_quarrel])), (h_t_thens, .inr (5, [.ref h_t_thens_kept, .int t_thens_most, .int t_thens_size])), (h_t_thens_kept, .inl (G.2.1.2.2, 9, .inr (.inl t_thens_kept)))]) (va_runV (As := [.long a1]) (rest := []) ⟨hx, hb, hml, hown, hts⟩ (c_X5_add l G h_t_whens h_t_whens_kept H.size t_whens_most t_whens_size t_whens_kept a1 o1 ho1) (cwV 1 hts gX4_add_X5_add rfl rfl rfl (by decide +kernel) ⟨Nat.le_of_ble_eq_true rfl, Nat.le_of_ble_eq_true rfl⟩) (pcA_preV hg hc hP hD hS hA [1, 2] rfl (by decide) (q0 := 1) (ci := 5) rfl rfl rfl) rfl rfl hl.1 rfl (lv_room (Nat.le_of_ble_eq_true rfl)) dX4_add_5 ⟨Nat.zero_le _, Nat.zero_le _⟩) hP hD hS hA [1, 2] [0, 3, 4] rfl rfl (by decide) (by decide) (fun _ H locs _ hP hD hS => ?_)
  have hP : va_P G.1 vwCl [(h_t, .inr (4, [.ref h_t_whens, .ref h_t_thens, .ref h_t_grades, .int t_quarrel])), (h_t_whens, .inr (5, [.ref h_t_whens_kept, .int t_whens_most, .int o1.1])), (h_t_whens_kept, .inl (G.2.1.2.2, 9, .inr (.inl o1.2))), (h_t_thens, .inr (5, [.ref h_t_thens_kept, .int t_thens_most, .int t_thens_size])), (h_t_thens_kept, .inl (G.2.1.2.2, 9, .inr (.inl t_thens_kept)))] H := hP.sub [0, 3, 4, 1, 2] rfl
  have hD : va_D A [(h_t, .inr (4, [.ref h_t_whens, .ref h_t_thens, .ref h_t_grades, .int t_quarrel])), (h_t_whens, .inr (5, [.ref h_t_whens_kept, .int t_whens_most, .int o1.1])), (h_t_whens_kept, .inl (G.2.1.2.2, 9, .inr (.inl o1.2))), (h_t_thens, .inr (5, [.ref h_t_thens_kept, .int t_thens_most, .int t_thens_size])), (h_t_thens_kept, .inl (G.2.1.2.2, 9, .inr (.inl t_thens_kept)))] := hD.sub [0, 3, 4, 1, 2] (by decide) rfl
  refine lv_aload_n hx hb dX4_add_8 rfl (lv_at hl 0 rfl) ?_
  refine va_get (D := G.1) (ci := 4) (v := .ref h_t_thens) (C := RX4) (T := TX4) (N := 4) hx hb hts hiX4 hown hg.1 hP 0 rfl rfl 1 (by decide) (hts (.fieldLink RX4 28 "AsARule$Rules" "thens" "LAsARule$Sayings;") (by decide +kernel)) (fun _ h9 => h9) rfl dX4_add_9 ?_
  refine lv_lload_n hx hb dX4_add_12 rfl (lv_at hl 2 rfl) ?_
  obtain ⟨o2, ho2, hf⟩ := bd_e hf
  refine af_v (wr := [(h_t, .inr (4, [.ref h_t_whens, .ref h_t_thens, .ref h_t_grades, .int t_quarrel])), (h_t_whens, .inr (5, [.ref h_t_whens_kept, .int t_whens_most, .int o1.1])), (h_t_whens_kept, .inl (G.2.1.2.2, 9, .inr (.inl o1.2)))]) (va_runV (As := [.long a3]) (rest := []) ⟨hx, hb, hml, hown, hts⟩ (c_X5_add l G h_t_thens h_t_thens_kept H.size t_thens_most t_thens_size t_thens_kept a3 o2 ho2) (cwV 1 hts gX4_add_X5_add rfl rfl rfl (by decide +kernel) ⟨Nat.le_of_ble_eq_true rfl, Nat.le_of_ble_eq_true rfl⟩) (pcA_preV hg hc hP hD hS hA [3, 4] rfl (by decide) (q0 := 3) (ci := 5) rfl rfl rfl) rfl rfl hl.1 rfl (lv_room (Nat.le_of_ble_eq_true rfl)) dX4_add_13 ⟨Nat.zero_le _, Nat.zero_le _⟩) hP hD hS hA [3, 4] [0, 1, 2] rfl rfl (by decide) (by decide) (fun _ H locs _ hP hD hS => ?_)
  have hP : va_P G.1 vwCl [(h_t, .inr (4, [.ref h_t_whens, .ref h_t_thens, .ref h_t_grades, .int t_quarrel])), (h_t_whens, .inr (5, [.ref h_t_whens_kept, .int t_whens_most, .int o1.1])), (h_t_whens_kept, .inl (G.2.1.2.2, 9, .inr (.inl o1.2))), (h_t_thens, .inr (5, [.ref h_t_thens_kept, .int t_thens_most, .int o2.1])), (h_t_thens_kept, .inl (G.2.1.2.2, 9, .inr (.inl o2.2)))] H := hP
  have hD : va_D A [(h_t, .inr (4, [.ref h_t_whens, .ref h_t_thens, .ref h_t_grades, .int t_quarrel])), (h_t_whens, .inr (5, [.ref h_t_whens_kept, .int t_whens_most, .int o1.1])), (h_t_whens_kept, .inl (G.2.1.2.2, 9, .inr (.inl o1.2))), (h_t_thens, .inr (5, [.ref h_t_thens_kept, .int t_thens_most, .int o2.1])), (h_t_thens_kept, .inl (G.2.1.2.2, 9, .inr (.inl o2.2)))] := hD
  rw [← Option.some.inj hf]
  exact rt_v (u := ()) hx hb hr hlocks hP hD trivial hS dX4_add_16
-- method X4_copy
def lp_X4_copy_6 (t_whens_most : Int32) (t_thens_most : Int32) (u_whens_size : Int32) (u_whens_kept : Nat → Int64) (u_thens_size : Int32) (u_thens_kept : Nat → Int64) : Nat → Int32 → (Nat → Int64) → Int32 → (Nat → Int64) → Int32 → Option (Int32 × (Nat → Int64) × Int32 × (Nat → Int64))
  | 0, _, _, _, _, _ => none
  | n + 1, t_whens_size, t_whens_kept, t_thens_size, t_thens_kept, v2 => bd (f_X4_size u_whens_size) (fun o1 => if o1 ≤ v2 then some (t_whens_size, t_whens_kept, t_thens_size, t_thens_kept) else bd (f_X5_get u_whens_size u_whens_kept v2) (fun o3 => bd (f_X5_get u_thens_size u_thens_kept v2) (fun o4 => bd (f_X4_add t_whens_most t_whens_size t_whens_kept t_thens_most t_thens_size t_thens_kept o3 o4) (fun o5 => lt (v2 + (1 : Int32)) (fun x6 => lp_X4_copy_6 t_whens_most t_thens_most u_whens_size u_whens_kept u_thens_size u_thens_kept n o5.1 o5.2.1 o5.2.2.1 o5.2.2.2 x6)))))
def f_X4_copy (t_whens_most : Int32) (t_whens_size : Int32) (t_whens_kept : Nat → Int64) (t_thens_most : Int32) (t_thens_size : Int32) (t_thens_kept : Nat → Int64) (u_whens_size : Int32) (u_whens_kept : Nat → Int64) (u_thens_size : Int32) (u_thens_kept : Nat → Int64) : Option (Int32 × (Nat → Int64) × Int32 × (Nat → Int64)) :=
  bd (f_X4_empty t_whens_size t_thens_size) (fun o7 => lp_X4_copy_6 t_whens_most t_thens_most u_whens_size u_whens_kept u_thens_size u_thens_kept fu o7.1 t_whens_kept o7.2 t_thens_kept (0 : Int32))
set_option maxHeartbeats 4000000 in
set_option maxRecDepth 100000 in
theorem c_X4_copy (l : Launch) (G : GG) (h_t h_t_whens h_t_thens h_t_grades h_t_whens_kept h_t_thens_kept h_u h_u_whens h_u_thens h_u_grades h_u_whens_kept h_u_thens_kept : Nat) (sz : Nat) (t_quarrel : Int32) (t_whens_most : Int32) (t_whens_size : Int32) (t_whens_kept : Nat → Int64) (t_thens_most : Int32) (t_thens_size : Int32) (t_thens_kept : Nat → Int64) (u_quarrel : Int32) (u_whens_most : Int32) (u_whens_size : Int32) (u_whens_kept : Nat → Int64) (u_thens_most : Int32) (u_thens_size : Int32) (u_thens_kept : Nat → Int64)  (o : Int32 × (Nat → Int64) × Int32 × (Nat → Int64)) (ho : f_X4_copy t_whens_most t_whens_size t_whens_kept t_thens_most t_thens_size t_thens_kept u_whens_size u_whens_kept u_thens_size u_thens_kept = some o)  : Met l yX4_copy wsX4_copy ({ frames := 2, cells := 0, slots := 0, locals := 46 } : Room) (pcA G [.ref h_t, .ref h_u] [(h_t, .inr (4, [.ref h_t_whens, .ref h_t_thens, .ref h_t_grades, .int t_quarrel])), (h_t_whens, .inr (5, [.ref h_t_whens_kept, .int t_whens_most, .int t_whens_size])), (h_t_whens_kept, .inl (G.2.1.2.2, 9, .inr (.inl t_whens_kept))), (h_t_thens, .inr (5, [.ref h_t_thens_kept, .int t_thens_most, .int t_thens_size])), (h_t_thens_kept, .inl (G.2.1.2.2, 9, .inr (.inl t_thens_kept))), (h_u, .inr (4, [.ref h_u_whens, .ref h_u_thens, .ref h_u_grades, .int u_quarrel])), (h_u_whens, .inr (5, [.ref h_u_whens_kept, .int u_whens_most, .int u_whens_size])), (h_u_whens_kept, .inl (G.2.1.2.2, 9, .inr (.inl u_whens_kept))), (h_u_thens, .inr (5, [.ref h_u_thens_kept, .int u_thens_most, .int u_thens_size])), (h_u_thens_kept, .inl (G.2.1.2.2, 9, .inr (.inl u_thens_kept)))] sz) (qcV Unit G (fun _ => True) (fun _ => [(h_t, .inr (4, [.ref h_t_whens, .ref h_t_thens, .ref h_t_grades, .int t_quarrel])), (h_t_whens, .inr (5, [.ref h_t_whens_kept, .int t_whens_most, .int o.1])), (h_t_whens_kept, .inl (G.2.1.2.2, 9, .inr (.inl o.2.1))), (h_t_thens, .inr (5, [.ref h_t_thens_kept, .int t_thens_most, .int o.2.2.1])), (h_t_thens_kept, .inl (G.2.1.2.2, 9, .inr (.inl o.2.2.2))), (h_u, .inr (4, [.ref h_u_whens, .ref h_u_thens, .ref h_u_grades, .int u_quarrel])), (h_u_whens, .inr (5, [.ref h_u_whens_kept, .int u_whens_most, .int u_whens_size])), (h_u_whens_kept, .inl (G.2.1.2.2, 9, .inr (.inl u_whens_kept))), (h_u_thens, .inr (5, [.ref h_u_thens_kept, .int u_thens_most, .int u_thens_size])), (h_u_thens_kept, .inl (G.2.1.2.2, 9, .inr (.inl u_thens_kept)))]) (va_A [(h_t, .inr (4, [.ref h_t_whens, .ref h_t_thens, .ref h_t_grades, .int t_quarrel])), (h_t_whens, .inr (5, [.ref h_t_whens_kept, .int t_whens_most, .int t_whens_size])), (h_t_whens_kept, .inl (G.2.1.2.2, 9, .inr (.inl t_whens_kept))), (h_t_thens, .inr (5, [.ref h_t_thens_kept, .int t_thens_most, .int t_thens_size])), (h_t_thens_kept, .inl (G.2.1.2.2, 9, .inr (.inl t_thens_kept))), (h_u, .inr (4, [.ref h_u_whens, .ref h_u_thens, .ref h_u_grades, .int u_quarrel])), (h_u_whens, .inr (5, [.ref h_u_whens_kept, .int u_whens_most, .int u_whens_size])), (h_u_whens_kept, .inl (G.2.1.2.2, 9, .inr (.inl u_whens_kept))), (h_u_thens, .inr (5, [.ref h_u_thens_kept, .int u_thens_most, .int u_thens_size])), (h_u_thens_kept, .inl (G.2.1.2.2, 9, .inr (.inl u_thens_kept)))] sz)) 0 0 (va_A [(h_t, .inr (4, [.ref h_t_whens, .ref h_t_thens, .ref h_t_grades, .int t_quarrel])), (h_t_whens, .inr (5, [.ref h_t_whens_kept, .int t_whens_most, .int t_whens_size])), (h_t_whens_kept, .inl (G.2.1.2.2, 9, .inr (.inl t_whens_kept))), (h_t_thens, .inr (5, [.ref h_t_thens_kept, .int t_thens_most, .int t_thens_size])), (h_t_thens_kept, .inl (G.2.1.2.2, 9, .inr (.inl t_thens_kept))), (h_u, .inr (4, [.ref h_u_whens, .ref h_u_thens, .ref h_u_grades, .int u_quarrel])), (h_u_whens, .inr (5, [.ref h_u_whens_kept, .int u_whens_most, .int u_whens_size])), (h_u_whens_kept, .inl (G.2.1.2.2, 9, .inr (.inl u_whens_kept))), (h_u_thens, .inr (5, [.ref h_u_thens_kept, .int u_thens_most, .int u_thens_size])), (h_u_thens_kept, .inl (G.2.1.2.2, 9, .inr (.inl u_thens_kept)))] sz) := by
  refine Met.ofW (cc := cX4_copy) (maxL := 3) (ret := none) (by decide) rfl ?_
  intro p e s m args below meth c s₁ B hml hv
  obtain ⟨rfl, hsz, hP, hg, hD0, hc⟩ := hv
  have hx := B.exec
  have hb := B.bytes
  have hr := B.returns
  have hts := atoms_spec (ws := wsX4_copy) B.pre
  have hown : s.vm.findClass RX4 = some m.cls := findClass_of_methodNamed B.named
  have hlocks := B.notSynchronized
  subst hsz
  have hD := hD0.self (sz := s.heap.size)
  generalize hAe : va_A [(h_t, .inr (4, [.ref h_t_whens, .ref h_t_thens, .ref h_t_grades, .int t_quarrel])), (h_t_whens, .inr (5, [.ref h_t_whens_kept, .int t_whens_most, .int t_whens_size])), (h_t_whens_kept, .inl (G.2.1.2.2, 9, .inr (.inl t_whens_kept))), (h_t_thens, .inr (5, [.ref h_t_thens_kept, .int t_thens_most, .int t_thens_size])), (h_t_thens_kept, .inl (G.2.1.2.2, 9, .inr (.inl t_thens_kept))), (h_u, .inr (4, [.ref h_u_whens, .ref h_u_thens, .ref h_u_grades, .int u_quarrel])), (h_u_whens, .inr (5, [.ref h_u_whens_kept, .int u_whens_most, .int u_whens_size])), (h_u_whens_kept, .inl (G.2.1.2.2, 9, .inr (.inl u_whens_kept))), (h_u_thens, .inr (5, [.ref h_u_thens_kept, .int u_thens_most, .int u_thens_size])), (h_u_thens_kept, .inl (G.2.1.2.2, 9, .inr (.inl u_thens_kept)))] s.heap.size = A at hD hc ⊢
  have hA : ∀ q : Nat, s.heap.size ≤ q → A q := fun q h => by rw [← hAe]; exact Or.inr h
  have hiX4 : ∀ w ∈ wsX40, w ∈ wsX4_copy := by decide +kernel
  have hl := lv_entry ([.ref h_t, .ref h_u]) (n := 3) (Nat.le_of_ble_eq_true rfl)
  rw [lg_entry_eq]
  generalize (lg_sl ([.ref h_t, .ref h_u]) ++ List.replicate (3 - (lg_sl ([.ref h_t, .ref h_u])).length) Slot.unset).toArray = ls at hl ⊢
  have hl : lv_has ls 3 [(0, .ref h_t), (1, .ref h_u)] := hl
  have hf := ho
  have hw_6 : ∀  (n : Nat) (t_whens_size : Int32) (t_whens_kept : Nat → Int64) (t_thens_size : Int32) (t_thens_kept : Nat → Int64) (v2 : Int32), lp_X4_copy_6 t_whens_most t_thens_most u_whens_size u_whens_kept u_thens_size u_thens_kept n t_whens_size t_whens_kept t_thens_size t_thens_kept v2 = some o → ∀ (H : Heap) (locs : List Loc), va_P G.1 vwCl [(h_t, .inr (4, [.ref h_t_whens, .ref h_t_thens, .ref h_t_grades, .int t_quarrel])), (h_t_whens, .inr (5, [.ref h_t_whens_kept, .int t_whens_most, .int t_whens_size])), (h_t_whens_kept, .inl (G.2.1.2.2, 9, .inr (.inl t_whens_kept))), (h_t_thens, .inr (5, [.ref h_t_thens_kept, .int t_thens_most, .int t_thens_size])), (h_t_thens_kept, .inl (G.2.1.2.2, 9, .inr (.inl t_thens_kept))), (h_u, .inr (4, [.ref h_u_whens, .ref h_u_thens, .ref h_u_grades, .int u_quarrel])), (h_u_whens, .inr (5, [.ref h_u_whens_kept, .int u_whens_most, .int u_whens_size])), (h_u_whens_kept, .inl (G.2.1.2.2, 9, .inr (.inl u_whens_kept))), (h_u_thens, .inr (5, [.ref h_u_thens_kept, .int u_thens_most, .int u_thens_size])), (h_u_thens_kept, .inl (G.2.1.2.2, 9, .inr (.inl u_thens_kept)))] H → va_D A [(h_t, .inr (4, [.ref h_t_whens, .ref h_t_thens, .ref h_t_grades, .int t_quarrel])), (h_t_whens, .inr (5, [.ref h_t_whens_kept, .int t_whens_most, .int t_whens_size])), (h_t_whens_kept, .inl (G.2.1.2.2, 9, .inr (.inl t_whens_kept))), (h_t_thens, .inr (5, [.ref h_t_thens_kept, .int t_thens_most, .int t_thens_size])), (h_t_thens_kept, .inl (G.2.1.2.2, 9, .inr (.inl t_thens_kept))), (h_u, .inr (4, [.ref h_u_whens, .ref h_u_thens, .ref h_u_grades, .int u_quarrel])), (h_u_whens, .inr (5, [.ref h_u_whens_kept, .int u_whens_most, .int u_whens_size])), (h_u_whens_kept, .inl (G.2.1.2.2, 9, .inr (.inl u_whens_kept))), (h_u_thens, .inr (5, [.ref h_u_thens_kept, .int u_thens_most, .int u_thens_size])), (h_u_thens_kept, .inl (G.2.1.2.2, 9, .inr (.inl u_thens_kept)))] → va_S A s.heap H locs → ∀ (ls : Array Slot), lv_has ls 3 [(0, .ref h_t), (1, .ref h_u), (2, .int v2)] → W p l e (headSpec wsX4_copy ({ frames := 2, cells := 0, slots := 0, locals := 46 } : Room)).room s m ([.ref h_t, .ref h_u] : List Value).toArray below meth c H locs 0 0 (MQ below (qcV Unit G (fun _ => True) (fun _ => [(h_t, .inr (4, [.ref h_t_whens, .ref h_t_thens, .ref h_t_grades, .int t_quarrel])), (h_t_whens, .inr (5, [.ref h_t_whens_kept, .int t_whens_most, .int o.1])), (h_t_whens_kept, .inl (G.2.1.2.2, 9, .inr (.inl o.2.1))), (h_t_thens, .inr (5, [.ref h_t_thens_kept, .int t_thens_most, .int o.2.2.1])), (h_t_thens_kept, .inl (G.2.1.2.2, 9, .inr (.inl o.2.2.2))), (h_u, .inr (4, [.ref h_u_whens, .ref h_u_thens, .ref h_u_grades, .int u_quarrel])), (h_u_whens, .inr (5, [.ref h_u_whens_kept, .int u_whens_most, .int u_whens_size])), (h_u_whens_kept, .inl (G.2.1.2.2, 9, .inr (.inl u_whens_kept))), (h_u_thens, .inr (5, [.ref h_u_thens_kept, .int u_thens_most, .int u_thens_size])), (h_u_thens_kept, .inl (G.2.1.2.2, 9, .inr (.inl u_thens_kept)))]) A) ([.ref h_t, .ref h_u] : List Value).toArray s 0 0 A) (F0 m 6 ls []) := by
    intro n
    induction n with
    | zero =>
      intro t_whens_size t_whens_kept t_thens_size t_thens_kept v2 hf
      exact absurd hf (by rw [lp_X4_copy_6]; intro h; cases h)
    | succ n ih =>
      intro t_whens_size t_whens_kept t_thens_size t_thens_kept v2 hf H locs hP hD hS ls hl
      rw [lp_X4_copy_6] at hf
      refine lv_iload_n hx hb dX4_copy_6 rfl (lv_at hl 2 rfl) ?_
      refine lv_aload_n hx hb dX4_copy_7 rfl (lv_at hl 1 rfl) ?_
      obtain ⟨o1, ho1, hf⟩ := bd_e hf
      refine af_i (wr := [(h_t, .inr (4, [.ref h_t_whens, .ref h_t_thens, .ref h_t_grades, .int t_quarrel])), (h_t_whens, .inr (5, [.ref h_t_whens_kept, .int t_whens_most, .int t_whens_size])), (h_t_whens_kept, .inl (G.2.1.2.2, 9, .inr (.inl t_whens_kept))), (h_t_thens, .inr (5, [.ref h_t_thens_kept, .int t_thens_most, .int t_thens_size])), (h_t_thens_kept, .inl (G.2.1.2.2, 9, .inr (.inl t_thens_kept))), (h_u_whens_kept, .inl (G.2.1.2.2, 9, .inr (.inl u_whens_kept))), (h_u_thens, .inr (5, [.ref h_u_thens_kept, .int u_thens_most, .int u_thens_size])), (h_u_thens_kept, .inl (G.2.1.2.2, 9, .inr (.inl u_thens_kept)))]) (va_runV (As := []) (rest := [.int v2]) ⟨hx, hb, hml, hown, hts⟩ (c_X4_size l G h_u h_u_whens h_u_thens h_u_grades h_u_whens_kept H.size u_quarrel u_whens_most u_whens_size o1 ho1) (cwV 0 hts gX4_copy_X4_size rfl rfl rfl (by decide +kernel) ⟨Nat.le_of_ble_eq_true rfl, Nat.le_of_ble_eq_true rfl⟩) (pcA_preV hg hc hP hD hS hA [5, 6] rfl (by decide) (q0 := 5) (ci := 4) rfl rfl rfl) rfl rfl hl.1 rfl (lv_room (Nat.le_of_ble_eq_true rfl)) dX4_copy_8 ⟨Nat.zero_le _, Nat.zero_le _⟩) hP hD hS hA [5, 6] [0, 1, 2, 3, 4, 7, 8, 9] rfl rfl (by decide) (by decide) (fun _ H locs _ hP hD hS => ?_)
      have hP : va_P G.1 vwCl [(h_t, .inr (4, [.ref h_t_whens, .ref h_t_thens, .ref h_t_grades, .int t_quarrel])), (h_t_whens, .inr (5, [.ref h_t_whens_kept, .int t_whens_most, .int t_whens_size])), (h_t_whens_kept, .inl (G.2.1.2.2, 9, .inr (.inl t_whens_kept))), (h_t_thens, .inr (5, [.ref h_t_thens_kept, .int t_thens_most, .int t_thens_size])), (h_t_thens_kept, .inl (G.2.1.2.2, 9, .inr (.inl t_thens_kept))), (h_u, .inr (4, [.ref h_u_whens, .ref h_u_thens, .ref h_u_grades, .int u_quarrel])), (h_u_whens, .inr (5, [.ref h_u_whens_kept, .int u_whens_most, .int u_whens_size])), (h_u_whens_kept, .inl (G.2.1.2.2, 9, .inr (.inl u_whens_kept))), (h_u_thens, .inr (5, [.ref h_u_thens_kept, .int u_thens_most, .int u_thens_size])), (h_u_thens_kept, .inl (G.2.1.2.2, 9, .inr (.inl u_thens_kept)))] H := hP.sub [0, 1, 2, 3, 4, 8, 9, 5, 6, 7] rfl
      have hD : va_D A [(h_t, .inr (4, [.ref h_t_whens, .ref h_t_thens, .ref h_t_grades, .int t_quarrel])), (h_t_whens, .inr (5, [.ref h_t_whens_kept, .int t_whens_most, .int t_whens_size])), (h_t_whens_kept, .inl (G.2.1.2.2, 9, .inr (.inl t_whens_kept))), (h_t_thens, .inr (5, [.ref h_t_thens_kept, .int t_thens_most, .int t_thens_size])), (h_t_thens_kept, .inl (G.2.1.2.2, 9, .inr (.inl t_thens_kept))), (h_u, .inr (4, [.ref h_u_whens, .ref h_u_thens, .ref h_u_grades, .int u_quarrel])), (h_u_whens, .inr (5, [.ref h_u_whens_kept, .int u_whens_most, .int u_whens_size])), (h_u_whens_kept, .inl (G.2.1.2.2, 9, .inr (.inl u_whens_kept))), (h_u_thens, .inr (5, [.ref h_u_thens_kept, .int u_thens_most, .int u_thens_size])), (h_u_thens_kept, .inl (G.2.1.2.2, 9, .inr (.inl u_thens_kept)))] := hD.sub [0, 1, 2, 3, 4, 8, 9, 5, 6, 7] (by decide) rfl
      refine lv_icmp_ge (tgt := 40) hx hb dX4_copy_11 (by decide) (fun c2 => ?_) (fun c2 => ?_)
      · have hf := it_t c2 hf
        rw [← Option.some.inj hf]
        exact rt_v (u := ()) hx hb hr hlocks hP hD trivial hS dX4_copy_40
      · have hf := it_f c2 hf
        refine lv_aload_n hx hb dX4_copy_14 rfl (lv_at hl 0 rfl) ?_
        refine lv_aload_n hx hb dX4_copy_15 rfl (lv_at hl 1 rfl) ?_
        refine va_get (D := G.1) (ci := 4) (v := .ref h_u_whens) (C := RX4) (T := TX4) (N := 4) hx hb hts hiX4 hown hg.1 hP 5 rfl rfl 0 (by decide) (hts (.fieldLink RX4 24 "AsARule$Rules" "whens" "LAsARule$Sayings;") (by decide +kernel)) (fun _ h9 => h9) rfl dX4_copy_16 ?_
        refine lv_iload_n hx hb dX4_copy_19 rfl (lv_at hl 2 rfl) ?_
        obtain ⟨o3, ho3, hf⟩ := bd_e hf
        refine af_l (wr := [(h_t, .inr (4, [.ref h_t_whens, .ref h_t_thens, .ref h_t_grades, .int t_quarrel])), (h_t_whens, .inr (5, [.ref h_t_whens_kept, .int t_whens_most, .int t_whens_size])), (h_t_whens_kept, .inl (G.2.1.2.2, 9, .inr (.inl t_whens_kept))), (h_t_thens, .inr (5, [.ref h_t_thens_kept, .int t_thens_most, .int t_thens_size])), (h_t_thens_kept, .inl (G.2.1.2.2, 9, .inr (.inl t_thens_kept))), (h_u, .inr (4, [.ref h_u_whens, .ref h_u_thens, .ref h_u_grades, .int u_quarrel])), (h_u_thens, .inr (5, [.ref h_u_thens_kept, .int u_thens_most, .int u_thens_size])), (h_u_thens_kept, .inl (G.2.1.2.2, 9, .inr (.inl u_thens_kept)))]) (va_runV (As := [.int v2]) (rest := [.ref h_t]) ⟨hx, hb, hml, hown, hts⟩ (c_X5_get l G h_u_whens h_u_whens_kept H.size u_whens_most u_whens_size u_whens_kept v2 o3 ho3) (cwV 1 hts gX4_copy_X5_get rfl rfl rfl (by decide +kernel) ⟨Nat.le_of_ble_eq_true rfl, Nat.le_of_ble_eq_true rfl⟩) (pcA_preV hg hc hP hD hS hA [6, 7] rfl (by decide) (q0 := 6) (ci := 5) rfl rfl rfl) rfl rfl hl.1 rfl (lv_room (Nat.le_of_ble_eq_true rfl)) dX4_copy_20 ⟨Nat.zero_le _, Nat.zero_le _⟩) hP hD hS hA [6, 7] [0, 1, 2, 3, 4, 5, 8, 9] rfl rfl (by decide) (by decide) (fun _ H locs _ hP hD hS => ?_)
        have hP : va_P G.1 vwCl [(h_t, .inr (4, [.ref h_t_whens, .ref h_t_thens, .ref h_t_grades, .int t_quarrel])), (h_t_whens, .inr (5, [.ref h_t_whens_kept, .int t_whens_most, .int t_whens_size])), (h_t_whens_kept, .inl (G.2.1.2.2, 9, .inr (.inl t_whens_kept))), (h_t_thens, .inr (5, [.ref h_t_thens_kept, .int t_thens_most, .int t_thens_size])), (h_t_thens_kept, .inl (G.2.1.2.2, 9, .inr (.inl t_thens_kept))), (h_u, .inr (4, [.ref h_u_whens, .ref h_u_thens, .ref h_u_grades, .int u_quarrel])), (h_u_whens, .inr (5, [.ref h_u_whens_kept, .int u_whens_most, .int u_whens_size])), (h_u_whens_kept, .inl (G.2.1.2.2, 9, .inr (.inl u_whens_kept))), (h_u_thens, .inr (5, [.ref h_u_thens_kept, .int u_thens_most, .int u_thens_size])), (h_u_thens_kept, .inl (G.2.1.2.2, 9, .inr (.inl u_thens_kept)))] H := hP.sub [0, 1, 2, 3, 4, 5, 8, 9, 6, 7] rfl
        have hD : va_D A [(h_t, .inr (4, [.ref h_t_whens, .ref h_t_thens, .ref h_t_grades, .int t_quarrel])), (h_t_whens, .inr (5, [.ref h_t_whens_kept, .int t_whens_most, .int t_whens_size])), (h_t_whens_kept, .inl (G.2.1.2.2, 9, .inr (.inl t_whens_kept))), (h_t_thens, .inr (5, [.ref h_t_thens_kept, .int t_thens_most, .int t_thens_size])), (h_t_thens_kept, .inl (G.2.1.2.2, 9, .inr (.inl t_thens_kept))), (h_u, .inr (4, [.ref h_u_whens, .ref h_u_thens, .ref h_u_grades, .int u_quarrel])), (h_u_whens, .inr (5, [.ref h_u_whens_kept, .int u_whens_most, .int u_whens_size])), (h_u_whens_kept, .inl (G.2.1.2.2, 9, .inr (.inl u_whens_kept))), (h_u_thens, .inr (5, [.ref h_u_thens_kept, .int u_thens_most, .int u_thens_size])), (h_u_thens_kept, .inl (G.2.1.2.2, 9, .inr (.inl u_thens_kept)))] := hD.sub [0, 1, 2, 3, 4, 5, 8, 9, 6, 7] (by decide) rfl
        refine lv_aload_n hx hb dX4_copy_23 rfl (lv_at hl 1 rfl) ?_
        refine va_get (D := G.1) (ci := 4) (v := .ref h_u_thens) (C := RX4) (T := TX4) (N := 4) hx hb hts hiX4 hown hg.1 hP 5 rfl rfl 1 (by decide) (hts (.fieldLink RX4 28 "AsARule$Rules" "thens" "LAsARule$Sayings;") (by decide +kernel)) (fun _ h9 => h9) rfl dX4_copy_24 ?_
        refine lv_iload_n hx hb dX4_copy_27 rfl (lv_at hl 2 rfl) ?_
        obtain ⟨o4, ho4, hf⟩ := bd_e hf
        refine af_l (wr := [(h_t, .inr (4, [.ref h_t_whens, .ref h_t_thens, .ref h_t_grades, .int t_quarrel])), (h_t_whens, .inr (5, [.ref h_t_whens_kept, .int t_whens_most, .int t_whens_size])), (h_t_whens_kept, .inl (G.2.1.2.2, 9, .inr (.inl t_whens_kept))), (h_t_thens, .inr (5, [.ref h_t_thens_kept, .int t_thens_most, .int t_thens_size])), (h_t_thens_kept, .inl (G.2.1.2.2, 9, .inr (.inl t_thens_kept))), (h_u, .inr (4, [.ref h_u_whens, .ref h_u_thens, .ref h_u_grades, .int u_quarrel])), (h_u_whens, .inr (5, [.ref h_u_whens_kept, .int u_whens_most, .int u_whens_size])), (h_u_whens_kept, .inl (G.2.1.2.2, 9, .inr (.inl u_whens_kept)))]) (va_runV (As := [.int v2]) (rest := [.long o3, .ref h_t]) ⟨hx, hb, hml, hown, hts⟩ (c_X5_get l G h_u_thens h_u_thens_kept H.size u_thens_most u_thens_size u_thens_kept v2 o4 ho4) (cwV 1 hts gX4_copy_X5_get rfl rfl rfl (by decide +kernel) ⟨Nat.le_of_ble_eq_true rfl, Nat.le_of_ble_eq_true rfl⟩) (pcA_preV hg hc hP hD hS hA [8, 9] rfl (by decide) (q0 := 8) (ci := 5) rfl rfl rfl) rfl rfl hl.1 rfl (lv_room (Nat.le_of_ble_eq_true rfl)) dX4_copy_28 ⟨Nat.zero_le _, Nat.zero_le _⟩) hP hD hS hA [8, 9] [0, 1, 2, 3, 4, 5, 6, 7] rfl rfl (by decide) (by decide) (fun _ H locs _ hP hD hS => ?_)
        have hP : va_P G.1 vwCl [(h_t, .inr (4, [.ref h_t_whens, .ref h_t_thens, .ref h_t_grades, .int t_quarrel])), (h_t_whens, .inr (5, [.ref h_t_whens_kept, .int t_whens_most, .int t_whens_size])), (h_t_whens_kept, .inl (G.2.1.2.2, 9, .inr (.inl t_whens_kept))), (h_t_thens, .inr (5, [.ref h_t_thens_kept, .int t_thens_most, .int t_thens_size])), (h_t_thens_kept, .inl (G.2.1.2.2, 9, .inr (.inl t_thens_kept))), (h_u, .inr (4, [.ref h_u_whens, .ref h_u_thens, .ref h_u_grades, .int u_quarrel])), (h_u_whens, .inr (5, [.ref h_u_whens_kept, .int u_whens_most, .int u_whens_size])), (h_u_whens_kept, .inl (G.2.1.2.2, 9, .inr (.inl u_whens_kept))), (h_u_thens, .inr (5, [.ref h_u_thens_kept, .int u_thens_most, .int u_thens_size])), (h_u_thens_kept, .inl (G.2.1.2.2, 9, .inr (.inl u_thens_kept)))] H := hP
        have hD : va_D A [(h_t, .inr (4, [.ref h_t_whens, .ref h_t_thens, .ref h_t_grades, .int t_quarrel])), (h_t_whens, .inr (5, [.ref h_t_whens_kept, .int t_whens_most, .int t_whens_size])), (h_t_whens_kept, .inl (G.2.1.2.2, 9, .inr (.inl t_whens_kept))), (h_t_thens, .inr (5, [.ref h_t_thens_kept, .int t_thens_most, .int t_thens_size])), (h_t_thens_kept, .inl (G.2.1.2.2, 9, .inr (.inl t_thens_kept))), (h_u, .inr (4, [.ref h_u_whens, .ref h_u_thens, .ref h_u_grades, .int u_quarrel])), (h_u_whens, .inr (5, [.ref h_u_whens_kept, .int u_whens_most, .int u_whens_size])), (h_u_whens_kept, .inl (G.2.1.2.2, 9, .inr (.inl u_whens_kept))), (h_u_thens, .inr (5, [.ref h_u_thens_kept, .int u_thens_most, .int u_thens_size])), (h_u_thens_kept, .inl (G.2.1.2.2, 9, .inr (.inl u_thens_kept)))] := hD
        obtain ⟨o5, ho5, hf⟩ := bd_e hf
        refine af_v (wr := [(h_u, .inr (4, [.ref h_u_whens, .ref h_u_thens, .ref h_u_grades, .int u_quarrel])), (h_u_whens, .inr (5, [.ref h_u_whens_kept, .int u_whens_most, .int u_whens_size])), (h_u_whens_kept, .inl (G.2.1.2.2, 9, .inr (.inl u_whens_kept))), (h_u_thens, .inr (5, [.ref h_u_thens_kept, .int u_thens_most, .int u_thens_size])), (h_u_thens_kept, .inl (G.2.1.2.2, 9, .inr (.inl u_thens_kept)))]) (va_runV (As := [.long o3, .long o4]) (rest := []) ⟨hx, hb, hml, hown, hts⟩ (c_X4_add l G h_t h_t_whens h_t_thens h_t_grades h_t_whens_kept h_t_thens_kept H.size t_quarrel t_whens_most t_whens_size t_whens_kept t_thens_most t_thens_size t_thens_kept o3 o4 o5 ho5) (cwV 2 hts gX4_copy_X4_add rfl rfl rfl (by decide +kernel) ⟨Nat.le_of_ble_eq_true rfl, Nat.le_of_ble_eq_true rfl⟩) (pcA_preV hg hc hP hD hS hA [0, 1, 2, 3, 4] rfl (by decide) (q0 := 0) (ci := 4) rfl rfl rfl) rfl rfl hl.1 rfl (lv_room (Nat.le_of_ble_eq_true rfl)) dX4_copy_31 ⟨Nat.zero_le _, Nat.zero_le _⟩) hP hD hS hA [0, 1, 2, 3, 4] [5, 6, 7, 8, 9] rfl rfl (by decide) (by decide) (fun _ H locs _ hP hD hS => ?_)
        have hP : va_P G.1 vwCl [(h_t, .inr (4, [.ref h_t_whens, .ref h_t_thens, .ref h_t_grades, .int t_quarrel])), (h_t_whens, .inr (5, [.ref h_t_whens_kept, .int t_whens_most, .int o5.1])), (h_t_whens_kept, .inl (G.2.1.2.2, 9, .inr (.inl o5.2.1))), (h_t_thens, .inr (5, [.ref h_t_thens_kept, .int t_thens_most, .int o5.2.2.1])), (h_t_thens_kept, .inl (G.2.1.2.2, 9, .inr (.inl o5.2.2.2))), (h_u, .inr (4, [.ref h_u_whens, .ref h_u_thens, .ref h_u_grades, .int u_quarrel])), (h_u_whens, .inr (5, [.ref h_u_whens_kept, .int u_whens_most, .int u_whens_size])), (h_u_whens_kept, .inl (G.2.1.2.2, 9, .inr (.inl u_whens_kept))), (h_u_thens, .inr (5, [.ref h_u_thens_kept, .int u_thens_most, .int u_thens_size])), (h_u_thens_kept, .inl (G.2.1.2.2, 9, .inr (.inl u_thens_kept)))] H := hP.sub [5, 6, 7, 8, 9, 0, 1, 2, 3, 4] rfl
        have hD : va_D A [(h_t, .inr (4, [.ref h_t_whens, .ref h_t_thens, .ref h_t_grades, .int t_quarrel])), (h_t_whens, .inr (5, [.ref h_t_whens_kept, .int t_whens_most, .int o5.1])), (h_t_whens_kept, .inl (G.2.1.2.2, 9, .inr (.inl o5.2.1))), (h_t_thens, .inr (5, [.ref h_t_thens_kept, .int t_thens_most, .int o5.2.2.1])), (h_t_thens_kept, .inl (G.2.1.2.2, 9, .inr (.inl o5.2.2.2))), (h_u, .inr (4, [.ref h_u_whens, .ref h_u_thens, .ref h_u_grades, .int u_quarrel])), (h_u_whens, .inr (5, [.ref h_u_whens_kept, .int u_whens_most, .int u_whens_size])), (h_u_whens_kept, .inl (G.2.1.2.2, 9, .inr (.inl u_whens_kept))), (h_u_thens, .inr (5, [.ref h_u_thens_kept, .int u_thens_most, .int u_thens_size])), (h_u_thens_kept, .inl (G.2.1.2.2, 9, .inr (.inl u_thens_kept)))] := hD.sub [5, 6, 7, 8, 9, 0, 1, 2, 3, 4] (by decide) rfl
        obtain ⟨x6, ex6⟩ : ∃ y : Int32, y = (v2 + (1 : Int32)) := ⟨_, rfl⟩
        have hf := lt_n hf x6 ex6
        refine lv_iinc (v := x6) (lv' := [(2, .int x6), (0, .ref h_t), (1, .ref h_u)]) hx hb dX4_copy_34 hl (k := 2) rfl (by rw [ex6]; rfl) (by decide) rfl (fun ls hl => ?_)
        refine lv_goto (tgt := 6) hx hb dX4_copy_37 (by decide) ?_
        exact ih o5.1 o5.2.1 o5.2.2.1 o5.2.2.2 x6 hf _ _ hP hD hS _ (lv_sub hl [1, 2, 0] rfl)
  unfold f_X4_copy at hf
  refine en (fun H locs hP hD hS => ?_) hP hD
  refine lv_aload_n hx hb dX4_copy_0 rfl (lv_at hl 0 rfl) ?_
  obtain ⟨o7, ho7, hf⟩ := bd_e hf
  refine af_v (wr := [(h_t_whens_kept, .inl (G.2.1.2.2, 9, .inr (.inl t_whens_kept))), (h_t_thens_kept, .inl (G.2.1.2.2, 9, .inr (.inl t_thens_kept))), (h_u, .inr (4, [.ref h_u_whens, .ref h_u_thens, .ref h_u_grades, .int u_quarrel])), (h_u_whens, .inr (5, [.ref h_u_whens_kept, .int u_whens_most, .int u_whens_size])), (h_u_whens_kept, .inl (G.2.1.2.2, 9, .inr (.inl u_whens_kept))), (h_u_thens, .inr (5, [.ref h_u_thens_kept, .int u_thens_most, .int u_thens_size])), (h_u_thens_kept, .inl (G.2.1.2.2, 9, .inr (.inl u_thens_kept)))]) (va_runV (As := []) (rest := []) ⟨hx, hb, hml, hown, hts⟩ (c_X4_empty l G h_t h_t_whens h_t_thens h_t_grades h_t_whens_kept h_t_thens_kept H.size t_quarrel t_whens_most t_whens_size t_thens_most t_thens_size o7 ho7) (cwV 0 hts gX4_copy_X4_empty rfl rfl rfl (by decide +kernel) ⟨Nat.le_of_ble_eq_true rfl, Nat.le_of_ble_eq_true rfl⟩) (pcA_preV hg hc hP hD hS hA [0, 1, 3] rfl (by decide) (q0 := 0) (ci := 4) rfl rfl rfl) rfl rfl hl.1 rfl (lv_room (Nat.le_of_ble_eq_true rfl)) dX4_copy_1 ⟨Nat.zero_le _, Nat.zero_le _⟩) hP hD hS hA [0, 1, 3] [2, 4, 5, 6, 7, 8, 9] rfl rfl (by decide) (by decide) (fun _ H locs _ hP hD hS => ?_)
  have hP : va_P G.1 vwCl [(h_t, .inr (4, [.ref h_t_whens, .ref h_t_thens, .ref h_t_grades, .int t_quarrel])), (h_t_whens, .inr (5, [.ref h_t_whens_kept, .int t_whens_most, .int o7.1])), (h_t_whens_kept, .inl (G.2.1.2.2, 9, .inr (.inl t_whens_kept))), (h_t_thens, .inr (5, [.ref h_t_thens_kept, .int t_thens_most, .int o7.2])), (h_t_thens_kept, .inl (G.2.1.2.2, 9, .inr (.inl t_thens_kept))), (h_u, .inr (4, [.ref h_u_whens, .ref h_u_thens, .ref h_u_grades, .int u_quarrel])), (h_u_whens, .inr (5, [.ref h_u_whens_kept, .int u_whens_most, .int u_whens_size])), (h_u_whens_kept, .inl (G.2.1.2.2, 9, .inr (.inl u_whens_kept))), (h_u_thens, .inr (5, [.ref h_u_thens_kept, .int u_thens_most, .int u_thens_size])), (h_u_thens_kept, .inl (G.2.1.2.2, 9, .inr (.inl u_thens_kept)))] H := hP.sub [7, 8, 0, 9, 1, 2, 3, 4, 5, 6] rfl
  have hD : va_D A [(h_t, .inr (4, [.ref h_t_whens, .ref h_t_thens, .ref h_t_grades, .int t_quarrel])), (h_t_whens, .inr (5, [.ref h_t_whens_kept, .int t_whens_most, .int o7.1])), (h_t_whens_kept, .inl (G.2.1.2.2, 9, .inr (.inl t_whens_kept))), (h_t_thens, .inr (5, [.ref h_t_thens_kept, .int t_thens_most, .int o7.2])), (h_t_thens_kept, .inl (G.2.1.2.2, 9, .inr (.inl t_thens_kept))), (h_u, .inr (4, [.ref h_u_whens, .ref h_u_thens, .ref h_u_grades, .int u_quarrel])), (h_u_whens, .inr (5, [.ref h_u_whens_kept, .int u_whens_most, .int u_whens_size])), (h_u_whens_kept, .inl (G.2.1.2.2, 9, .inr (.inl u_whens_kept))), (h_u_thens, .inr (5, [.ref h_u_thens_kept, .int u_thens_most, .int u_thens_size])), (h_u_thens_kept, .inl (G.2.1.2.2, 9, .inr (.inl u_thens_kept)))] := hD.sub [7, 8, 0, 9, 1, 2, 3, 4, 5, 6] (by decide) rfl
  refine lv_iconst (v := (0 : Int32)) hx hb dX4_copy_4 (by decide) ?_
  refine lv_istore_n (lv' := [(2, .int (0 : Int32)), (0, .ref h_t), (1, .ref h_u)]) hx hb dX4_copy_5 rfl hl (by decide) rfl (fun ls hl => ?_)
  exact hw_6 fu o7.1 t_whens_kept o7.2 t_thens_kept (0 : Int32) hf _ _ hP hD hS _ (lv_sub hl [1, 2, 0] rfl)
-- method X4_breaking
def f_X4_breaking (t_whens_size : Int32) (t_whens_kept : Nat → Int64) (t_thens_size : Int32) (t_thens_kept : Nat → Int64) (a1 : Int32) : Option (Int64) :=
  bd (f_X5_get t_whens_size t_whens_kept a1) (fun o1 => bd (f_X5_get t_thens_size t_thens_kept a1) (fun o2 => some ((o1 &&& (o2 ^^^ (-1 : Int64))))))
set_option maxHeartbeats 4000000 in
set_option maxRecDepth 100000 in
theorem c_X4_breaking (l : Launch) (G : GG) (h_t h_t_whens h_t_thens h_t_grades h_t_whens_kept h_t_thens_kept : Nat) (sz : Nat) (t_quarrel : Int32) (t_whens_most : Int32) (t_whens_size : Int32) (t_whens_kept : Nat → Int64) (t_thens_most : Int32) (t_thens_size : Int32) (t_thens_kept : Nat → Int64) (a1 : Int32) (o : Int64) (ho : f_X4_breaking t_whens_size t_whens_kept t_thens_size t_thens_kept a1 = some o)  : Met l yX4_breaking wsX4_breaking ({ frames := 1, cells := 0, slots := 0, locals := 21 } : Room) (pcA G [.ref h_t, .int a1] [(h_t, .inr (4, [.ref h_t_whens, .ref h_t_thens, .ref h_t_grades, .int t_quarrel])), (h_t_whens, .inr (5, [.ref h_t_whens_kept, .int t_whens_most, .int t_whens_size])), (h_t_whens_kept, .inl (G.2.1.2.2, 9, .inr (.inl t_whens_kept))), (h_t_thens, .inr (5, [.ref h_t_thens_kept, .int t_thens_most, .int t_thens_size])), (h_t_thens_kept, .inl (G.2.1.2.2, 9, .inr (.inl t_thens_kept)))] sz) (qcL Unit G o (fun _ => True) (fun _ => [(h_t, .inr (4, [.ref h_t_whens, .ref h_t_thens, .ref h_t_grades, .int t_quarrel])), (h_t_whens, .inr (5, [.ref h_t_whens_kept, .int t_whens_most, .int t_whens_size])), (h_t_whens_kept, .inl (G.2.1.2.2, 9, .inr (.inl t_whens_kept))), (h_t_thens, .inr (5, [.ref h_t_thens_kept, .int t_thens_most, .int t_thens_size])), (h_t_thens_kept, .inl (G.2.1.2.2, 9, .inr (.inl t_thens_kept)))]) (va_A [(h_t, .inr (4, [.ref h_t_whens, .ref h_t_thens, .ref h_t_grades, .int t_quarrel])), (h_t_whens, .inr (5, [.ref h_t_whens_kept, .int t_whens_most, .int t_whens_size])), (h_t_whens_kept, .inl (G.2.1.2.2, 9, .inr (.inl t_whens_kept))), (h_t_thens, .inr (5, [.ref h_t_thens_kept, .int t_thens_most, .int t_thens_size])), (h_t_thens_kept, .inl (G.2.1.2.2, 9, .inr (.inl t_thens_kept)))] sz)) 0 0 (va_A [(h_t, .inr (4, [.ref h_t_whens, .ref h_t_thens, .ref h_t_grades, .int t_quarrel])), (h_t_whens, .inr (5, [.ref h_t_whens_kept, .int t_whens_most, .int t_whens_size])), (h_t_whens_kept, .inl (G.2.1.2.2, 9, .inr (.inl t_whens_kept))), (h_t_thens, .inr (5, [.ref h_t_thens_kept, .int t_thens_most, .int t_thens_size])), (h_t_thens_kept, .inl (G.2.1.2.2, 9, .inr (.inl t_thens_kept)))] sz) := by
  refine Met.ofW (cc := cX4_breaking) (maxL := 2) (ret := (some .long)) (by decide) rfl ?_
  intro p e s m args below meth c s₁ B hml hv
  obtain ⟨rfl, hsz, hP, hg, hD0, hc⟩ := hv
  have hx := B.exec
  have hb := B.bytes
  have hr := B.returns
  have hts := atoms_spec (ws := wsX4_breaking) B.pre
  have hown : s.vm.findClass RX4 = some m.cls := findClass_of_methodNamed B.named
  have hlocks := B.notSynchronized
  subst hsz
  have hD := hD0.self (sz := s.heap.size)
  generalize hAe : va_A [(h_t, .inr (4, [.ref h_t_whens, .ref h_t_thens, .ref h_t_grades, .int t_quarrel])), (h_t_whens, .inr (5, [.ref h_t_whens_kept, .int t_whens_most, .int t_whens_size])), (h_t_whens_kept, .inl (G.2.1.2.2, 9, .inr (.inl t_whens_kept))), (h_t_thens, .inr (5, [.ref h_t_thens_kept, .int t_thens_most, .int t_thens_size])), (h_t_thens_kept, .inl (G.2.1.2.2, 9, .inr (.inl t_thens_kept)))] s.heap.size = A at hD hc ⊢
  have hA : ∀ q : Nat, s.heap.size ≤ q → A q := fun q h => by rw [← hAe]; exact Or.inr h
  have hiX4 : ∀ w ∈ wsX40, w ∈ wsX4_breaking := by decide +kernel
  have hl := lv_entry ([.ref h_t, .int a1]) (n := 2) (Nat.le_of_ble_eq_true rfl)
  rw [lg_entry_eq]
  generalize (lg_sl ([.ref h_t, .int a1]) ++ List.replicate (2 - (lg_sl ([.ref h_t, .int a1])).length) Slot.unset).toArray = ls at hl ⊢
  have hl : lv_has ls 2 [(0, .ref h_t), (1, .int a1)] := hl
  have hf := ho
  unfold f_X4_breaking at hf
  refine en (fun H locs hP hD hS => ?_) hP hD
  refine lv_aload_n hx hb dX4_breaking_0 rfl (lv_at hl 0 rfl) ?_
  refine va_get (D := G.1) (ci := 4) (v := .ref h_t_whens) (C := RX4) (T := TX4) (N := 4) hx hb hts hiX4 hown hg.1 hP 0 rfl rfl 0 (by decide) (hts (.fieldLink RX4 24 "AsARule$Rules" "whens" "LAsARule$Sayings;") (by decide +kernel)) (fun _ h9 => h9) rfl dX4_breaking_1 ?_
  refine lv_iload_n hx hb dX4_breaking_4 rfl (lv_at hl 1 rfl) ?_
  obtain ⟨o1, ho1, hf⟩ := bd_e hf
  refine af_l (wr := [(h_t, .inr (4, [.ref h_t_whens, .ref h_t_thens, .ref h_t_grades, .int t_quarrel])), (h_t_thens, .inr (5, [.ref h_t_thens_kept, .int t_thens_most, .int t_thens_size])), (h_t_thens_kept, .inl (G.2.1.2.2, 9, .inr (.inl t_thens_kept)))]) (va_runV (As := [.int a1]) (rest := []) ⟨hx, hb, hml, hown, hts⟩ (c_X5_get l G h_t_whens h_t_whens_kept H.size t_whens_most t_whens_size t_whens_kept a1 o1 ho1) (cwV 1 hts gX4_breaking_X5_get rfl rfl rfl (by decide +kernel) ⟨Nat.le_of_ble_eq_true rfl, Nat.le_of_ble_eq_true rfl⟩) (pcA_preV hg hc hP hD hS hA [1, 2] rfl (by decide) (q0 := 1) (ci := 5) rfl rfl rfl) rfl rfl hl.1 rfl (lv_room (Nat.le_of_ble_eq_true rfl)) dX4_breaking_5 ⟨Nat.zero_le _, Nat.zero_le _⟩) hP hD hS hA [1, 2] [0, 3, 4] rfl rfl (by decide) (by decide) (fun _ H locs _ hP hD hS => ?_)
  have hP : va_P G.1 vwCl [(h_t, .inr (4, [.ref h_t_whens, .ref h_t_thens, .ref h_t_grades, .int t_quarrel])), (h_t_whens, .inr (5, [.ref h_t_whens_kept, .int t_whens_most, .int t_whens_size])), (h_t_whens_kept, .inl (G.2.1.2.2, 9, .inr (.inl t_whens_kept))), (h_t_thens, .inr (5, [.ref h_t_thens_kept, .int t_thens_most, .int t_thens_size])), (h_t_thens_kept, .inl (G.2.1.2.2, 9, .inr (.inl t_thens_kept)))] H := hP.sub [0, 3, 4, 1, 2] rfl
  have hD : va_D A [(h_t, .inr (4, [.ref h_t_whens, .ref h_t_thens, .ref h_t_grades, .int t_quarrel])), (h_t_whens, .inr (5, [.ref h_t_whens_kept, .int t_whens_most, .int t_whens_size])), (h_t_whens_kept, .inl (G.2.1.2.2, 9, .inr (.inl t_whens_kept))), (h_t_thens, .inr (5, [.ref h_t_thens_kept, .int t_thens_most, .int t_thens_size])), (h_t_thens_kept, .inl (G.2.1.2.2, 9, .inr (.inl t_thens_kept)))] := hD.sub [0, 3, 4, 1, 2] (by decide) rfl
  refine lv_aload_n hx hb dX4_breaking_8 rfl (lv_at hl 0 rfl) ?_
  refine va_get (D := G.1) (ci := 4) (v := .ref h_t_thens) (C := RX4) (T := TX4) (N := 4) hx hb hts hiX4 hown hg.1 hP 0 rfl rfl 1 (by decide) (hts (.fieldLink RX4 28 "AsARule$Rules" "thens" "LAsARule$Sayings;") (by decide +kernel)) (fun _ h9 => h9) rfl dX4_breaking_9 ?_
  refine lv_iload_n hx hb dX4_breaking_12 rfl (lv_at hl 1 rfl) ?_
  obtain ⟨o2, ho2, hf⟩ := bd_e hf
  refine af_l (wr := [(h_t, .inr (4, [.ref h_t_whens, .ref h_t_thens, .ref h_t_grades, .int t_quarrel])), (h_t_whens, .inr (5, [.ref h_t_whens_kept, .int t_whens_most, .int t_whens_size])), (h_t_whens_kept, .inl (G.2.1.2.2, 9, .inr (.inl t_whens_kept)))]) (va_runV (As := [.int a1]) (rest := [.long o1]) ⟨hx, hb, hml, hown, hts⟩ (c_X5_get l G h_t_thens h_t_thens_kept H.size t_thens_most t_thens_size t_thens_kept a1 o2 ho2) (cwV 1 hts gX4_breaking_X5_get rfl rfl rfl (by decide +kernel) ⟨Nat.le_of_ble_eq_true rfl, Nat.le_of_ble_eq_true rfl⟩) (pcA_preV hg hc hP hD hS hA [3, 4] rfl (by decide) (q0 := 3) (ci := 5) rfl rfl rfl) rfl rfl hl.1 rfl (lv_room (Nat.le_of_ble_eq_true rfl)) dX4_breaking_13 ⟨Nat.zero_le _, Nat.zero_le _⟩) hP hD hS hA [3, 4] [0, 1, 2] rfl rfl (by decide) (by decide) (fun _ H locs _ hP hD hS => ?_)
  have hP : va_P G.1 vwCl [(h_t, .inr (4, [.ref h_t_whens, .ref h_t_thens, .ref h_t_grades, .int t_quarrel])), (h_t_whens, .inr (5, [.ref h_t_whens_kept, .int t_whens_most, .int t_whens_size])), (h_t_whens_kept, .inl (G.2.1.2.2, 9, .inr (.inl t_whens_kept))), (h_t_thens, .inr (5, [.ref h_t_thens_kept, .int t_thens_most, .int t_thens_size])), (h_t_thens_kept, .inl (G.2.1.2.2, 9, .inr (.inl t_thens_kept)))] H := hP
  have hD : va_D A [(h_t, .inr (4, [.ref h_t_whens, .ref h_t_thens, .ref h_t_grades, .int t_quarrel])), (h_t_whens, .inr (5, [.ref h_t_whens_kept, .int t_whens_most, .int t_whens_size])), (h_t_whens_kept, .inl (G.2.1.2.2, 9, .inr (.inl t_whens_kept))), (h_t_thens, .inr (5, [.ref h_t_thens_kept, .int t_thens_most, .int t_thens_size])), (h_t_thens_kept, .inl (G.2.1.2.2, 9, .inr (.inl t_thens_kept)))] := hD
  refine lv_ldc2 (v := (-1 : Int64)) hx hb hown (hts (.constantLong RX4 59 (-1 : Int64)) (by decide +kernel)) dX4_breaking_16 ?_
  refine lv_lxor hx hb dX4_breaking_19 ?_
  refine lv_land hx hb dX4_breaking_20 ?_
  rw [← Option.some.inj hf]
  exact rt_l (u := ()) hx hb hr hlocks hP hD trivial hS dX4_breaking_21
-- method X4_brokenIn
def lp_X4_brokenIn_4 (t_whens_size : Int32) (t_whens_kept : Nat → Int64) (t_thens_size : Int32) (t_thens_kept : Nat → Int64) (a1 : Int32) : Nat → Int32 → Int32 → Option (Int32)
  | 0, _, _ => none
  | n + 1, v2, v3 => bd (f_X4_size t_whens_size) (fun o1 => if o1 ≤ v3 then some (v2) else bd (f_X4_breaking t_whens_size t_whens_kept t_thens_size t_thens_kept v3) (fun o3 => bd (f_X7_holds o3 a1) (fun o4 => if o4 = (0 : Int32) then lt (v3 + (1 : Int32)) (fun x6 => lp_X4_brokenIn_4 t_whens_size t_whens_kept t_thens_size t_thens_kept a1 n v2 x6) else lt (v2 ||| ((1 : Int32) <<< (v3 &&& 31))) (fun x7 => lt (v3 + (1 : Int32)) (fun x8 => lp_X4_brokenIn_4 t_whens_size t_whens_kept t_thens_size t_thens_kept a1 n x7 x8)))))
def f_X4_brokenIn (t_whens_size : Int32) (t_whens_kept : Nat → Int64) (t_thens_size : Int32) (t_thens_kept : Nat → Int64) (a1 : Int32) : Option (Int32) :=
  lp_X4_brokenIn_4 t_whens_size t_whens_kept t_thens_size t_thens_kept a1 fu (0 : Int32) (0 : Int32)
set_option maxHeartbeats 4000000 in
set_option maxRecDepth 100000 in
theorem c_X4_brokenIn (l : Launch) (G : GG) (h_t h_t_whens h_t_thens h_t_grades h_t_whens_kept h_t_thens_kept : Nat) (sz : Nat) (t_quarrel : Int32) (t_whens_most : Int32) (t_whens_size : Int32) (t_whens_kept : Nat → Int64) (t_thens_most : Int32) (t_thens_size : Int32) (t_thens_kept : Nat → Int64) (a1 : Int32) (o : Int32) (ho : f_X4_brokenIn t_whens_size t_whens_kept t_thens_size t_thens_kept a1 = some o)  : Met l yX4_brokenIn wsX4_brokenIn ({ frames := 2, cells := 0, slots := 0, locals := 42 } : Room) (pcA G [.ref h_t, .int a1] [(h_t, .inr (4, [.ref h_t_whens, .ref h_t_thens, .ref h_t_grades, .int t_quarrel])), (h_t_whens, .inr (5, [.ref h_t_whens_kept, .int t_whens_most, .int t_whens_size])), (h_t_whens_kept, .inl (G.2.1.2.2, 9, .inr (.inl t_whens_kept))), (h_t_thens, .inr (5, [.ref h_t_thens_kept, .int t_thens_most, .int t_thens_size])), (h_t_thens_kept, .inl (G.2.1.2.2, 9, .inr (.inl t_thens_kept)))] sz) (qcI Unit G o (fun _ => True) (fun _ => [(h_t, .inr (4, [.ref h_t_whens, .ref h_t_thens, .ref h_t_grades, .int t_quarrel])), (h_t_whens, .inr (5, [.ref h_t_whens_kept, .int t_whens_most, .int t_whens_size])), (h_t_whens_kept, .inl (G.2.1.2.2, 9, .inr (.inl t_whens_kept))), (h_t_thens, .inr (5, [.ref h_t_thens_kept, .int t_thens_most, .int t_thens_size])), (h_t_thens_kept, .inl (G.2.1.2.2, 9, .inr (.inl t_thens_kept)))]) (va_A [(h_t, .inr (4, [.ref h_t_whens, .ref h_t_thens, .ref h_t_grades, .int t_quarrel])), (h_t_whens, .inr (5, [.ref h_t_whens_kept, .int t_whens_most, .int t_whens_size])), (h_t_whens_kept, .inl (G.2.1.2.2, 9, .inr (.inl t_whens_kept))), (h_t_thens, .inr (5, [.ref h_t_thens_kept, .int t_thens_most, .int t_thens_size])), (h_t_thens_kept, .inl (G.2.1.2.2, 9, .inr (.inl t_thens_kept)))] sz)) 0 0 (va_A [(h_t, .inr (4, [.ref h_t_whens, .ref h_t_thens, .ref h_t_grades, .int t_quarrel])), (h_t_whens, .inr (5, [.ref h_t_whens_kept, .int t_whens_most, .int t_whens_size])), (h_t_whens_kept, .inl (G.2.1.2.2, 9, .inr (.inl t_whens_kept))), (h_t_thens, .inr (5, [.ref h_t_thens_kept, .int t_thens_most, .int t_thens_size])), (h_t_thens_kept, .inl (G.2.1.2.2, 9, .inr (.inl t_thens_kept)))] sz) := by
  refine Met.ofW (cc := cX4_brokenIn) (maxL := 4) (ret := (some .int)) (by decide) rfl ?_
  intro p e s m args below meth c s₁ B hml hv
  obtain ⟨rfl, hsz, hP, hg, hD0, hc⟩ := hv
  have hx := B.exec
  have hb := B.bytes
  have hr := B.returns
  have hts := atoms_spec (ws := wsX4_brokenIn) B.pre
  have hown : s.vm.findClass RX4 = some m.cls := findClass_of_methodNamed B.named
  have hlocks := B.notSynchronized
  subst hsz
  have hD := hD0.self (sz := s.heap.size)
  generalize hAe : va_A [(h_t, .inr (4, [.ref h_t_whens, .ref h_t_thens, .ref h_t_grades, .int t_quarrel])), (h_t_whens, .inr (5, [.ref h_t_whens_kept, .int t_whens_most, .int t_whens_size])), (h_t_whens_kept, .inl (G.2.1.2.2, 9, .inr (.inl t_whens_kept))), (h_t_thens, .inr (5, [.ref h_t_thens_kept, .int t_thens_most, .int t_thens_size])), (h_t_thens_kept, .inl (G.2.1.2.2, 9, .inr (.inl t_thens_kept)))] s.heap.size = A at hD hc ⊢
  have hA : ∀ q : Nat, s.heap.size ≤ q → A q := fun q h => by rw [← hAe]; exact Or.inr h
  have hl := lv_entry ([.ref h_t, .int a1]) (n := 4) (Nat.le_of_ble_eq_true rfl)
  rw [lg_entry_eq]
  generalize (lg_sl ([.ref h_t, .int a1]) ++ List.replicate (4 - (lg_sl ([.ref h_t, .int a1])).length) Slot.unset).toArray = ls at hl ⊢
  have hl : lv_has ls 4 [(0, .ref h_t), (1, .int a1)] := hl
  have hf := ho
  have hw_4 : ∀  (n : Nat) (v2 : Int32) (v3 : Int32), lp_X4_brokenIn_4 t_whens_size t_whens_kept t_thens_size t_thens_kept a1 n v2 v3 = some o → ∀ (H : Heap) (locs : List Loc), va_P G.1 vwCl [(h_t, .inr (4, [.ref h_t_whens, .ref h_t_thens, .ref h_t_grades, .int t_quarrel])), (h_t_whens, .inr (5, [.ref h_t_whens_kept, .int t_whens_most, .int t_whens_size])), (h_t_whens_kept, .inl (G.2.1.2.2, 9, .inr (.inl t_whens_kept))), (h_t_thens, .inr (5, [.ref h_t_thens_kept, .int t_thens_most, .int t_thens_size])), (h_t_thens_kept, .inl (G.2.1.2.2, 9, .inr (.inl t_thens_kept)))] H → va_D A [(h_t, .inr (4, [.ref h_t_whens, .ref h_t_thens, .ref h_t_grades, .int t_quarrel])), (h_t_whens, .inr (5, [.ref h_t_whens_kept, .int t_whens_most, .int t_whens_size])), (h_t_whens_kept, .inl (G.2.1.2.2, 9, .inr (.inl t_whens_kept))), (h_t_thens, .inr (5, [.ref h_t_thens_kept, .int t_thens_most, .int t_thens_size])), (h_t_thens_kept, .inl (G.2.1.2.2, 9, .inr (.inl t_thens_kept)))] → va_S A s.heap H locs → ∀ (ls : Array Slot), lv_has ls 4 [(0, .ref h_t), (1, .int a1), (2, .int v2), (3, .int v3)] → W p l e (headSpec wsX4_brokenIn ({ frames := 2, cells := 0, slots := 0, locals := 42 } : Room)).room s m ([.ref h_t, .int a1] : List Value).toArray below meth c H locs 0 0 (MQ below (qcI Unit G o (fun _ => True) (fun _ => [(h_t, .inr (4, [.ref h_t_whens, .ref h_t_thens, .ref h_t_grades, .int t_quarrel])), (h_t_whens, .inr (5, [.ref h_t_whens_kept, .int t_whens_most, .int t_whens_size])), (h_t_whens_kept, .inl (G.2.1.2.2, 9, .inr (.inl t_whens_kept))), (h_t_thens, .inr (5, [.ref h_t_thens_kept, .int t_thens_most, .int t_thens_size])), (h_t_thens_kept, .inl (G.2.1.2.2, 9, .inr (.inl t_thens_kept)))]) A) ([.ref h_t, .int a1] : List Value).toArray s 0 0 A) (F0 m 4 ls []) := by
    intro n
    induction n with
    | zero =>
      intro v2 v3 hf
      exact absurd hf (by rw [lp_X4_brokenIn_4]; intro h; cases h)
    | succ n ih =>
      intro v2 v3 hf H locs hP hD hS ls hl
      rw [lp_X4_brokenIn_4] at hf
      refine lv_iload_n hx hb dX4_brokenIn_4 rfl (lv_at hl 3 rfl) ?_
      refine lv_aload_n hx hb dX4_brokenIn_5 rfl (lv_at hl 0 rfl) ?_
      obtain ⟨o1, ho1, hf⟩ := bd_e hf
      refine af_i (wr := [(h_t_whens_kept, .inl (G.2.1.2.2, 9, .inr (.inl t_whens_kept))), (h_t_thens, .inr (5, [.ref h_t_thens_kept, .int t_thens_most, .int t_thens_size])), (h_t_thens_kept, .inl (G.2.1.2.2, 9, .inr (.inl t_thens_kept)))]) (va_runV (As := []) (rest := [.int v3]) ⟨hx, hb, hml, hown, hts⟩ (c_X4_size l G h_t h_t_whens h_t_thens h_t_grades h_t_whens_kept H.size t_quarrel t_whens_most t_whens_size o1 ho1) (cwV 0 hts gX4_brokenIn_X4_size rfl rfl rfl (by decide +kernel) ⟨Nat.le_of_ble_eq_true rfl, Nat.le_of_ble_eq_true rfl⟩) (pcA_preV hg hc hP hD hS hA [0, 1] rfl (by decide) (q0 := 0) (ci := 4) rfl rfl rfl) rfl rfl hl.1 rfl (lv_room (Nat.le_of_ble_eq_true rfl)) dX4_brokenIn_6 ⟨Nat.zero_le _, Nat.zero_le _⟩) hP hD hS hA [0, 1] [2, 3, 4] rfl rfl (by decide) (by decide) (fun _ H locs _ hP hD hS => ?_)
      have hP : va_P G.1 vwCl [(h_t, .inr (4, [.ref h_t_whens, .ref h_t_thens, .ref h_t_grades, .int t_quarrel])), (h_t_whens, .inr (5, [.ref h_t_whens_kept, .int t_whens_most, .int t_whens_size])), (h_t_whens_kept, .inl (G.2.1.2.2, 9, .inr (.inl t_whens_kept))), (h_t_thens, .inr (5, [.ref h_t_thens_kept, .int t_thens_most, .int t_thens_size])), (h_t_thens_kept, .inl (G.2.1.2.2, 9, .inr (.inl t_thens_kept)))] H := hP.sub [3, 4, 0, 1, 2] rfl
      have hD : va_D A [(h_t, .inr (4, [.ref h_t_whens, .ref h_t_thens, .ref h_t_grades, .int t_quarrel])), (h_t_whens, .inr (5, [.ref h_t_whens_kept, .int t_whens_most, .int t_whens_size])), (h_t_whens_kept, .inl (G.2.1.2.2, 9, .inr (.inl t_whens_kept))), (h_t_thens, .inr (5, [.ref h_t_thens_kept, .int t_thens_most, .int t_thens_size])), (h_t_thens_kept, .inl (G.2.1.2.2, 9, .inr (.inl t_thens_kept)))] := hD.sub [3, 4, 0, 1, 2] (by decide) rfl
      refine lv_icmp_ge (tgt := 36) hx hb dX4_brokenIn_9 (by decide) (fun c2 => ?_) (fun c2 => ?_)
      · have hf := it_t c2 hf
        refine lv_iload_n hx hb dX4_brokenIn_36 rfl (lv_at hl 2 rfl) ?_
        rw [← Option.some.inj hf]
        exact rt_i (u := ()) hx hb hr hlocks hP hD trivial hS dX4_brokenIn_37
      · have hf := it_f c2 hf
        refine lv_aload_n hx hb dX4_brokenIn_12 rfl (lv_at hl 0 rfl) ?_
        refine lv_iload_n hx hb dX4_brokenIn_13 rfl (lv_at hl 3 rfl) ?_
        obtain ⟨o3, ho3, hf⟩ := bd_e hf
        refine af_l (wr := []) (va_runV (As := [.int v3]) (rest := []) ⟨hx, hb, hml, hown, hts⟩ (c_X4_breaking l G h_t h_t_whens h_t_thens h_t_grades h_t_whens_kept h_t_thens_kept H.size t_quarrel t_whens_most t_whens_size t_whens_kept t_thens_most t_thens_size t_thens_kept v3 o3 ho3) (cwV 1 hts gX4_brokenIn_X4_breaking rfl rfl rfl (by decide +kernel) ⟨Nat.le_of_ble_eq_true rfl, Nat.le_of_ble_eq_true rfl⟩) (pcA_preV hg hc hP hD hS hA [0, 1, 2, 3, 4] rfl (by decide) (q0 := 0) (ci := 4) rfl rfl rfl) rfl rfl hl.1 rfl (lv_room (Nat.le_of_ble_eq_true rfl)) dX4_brokenIn_14 ⟨Nat.zero_le _, Nat.zero_le _⟩) hP hD hS hA [0, 1, 2, 3, 4] [] rfl rfl (by decide) (by decide) (fun _ H locs _ hP hD hS => ?_)
        have hP : va_P G.1 vwCl [(h_t, .inr (4, [.ref h_t_whens, .ref h_t_thens, .ref h_t_grades, .int t_quarrel])), (h_t_whens, .inr (5, [.ref h_t_whens_kept, .int t_whens_most, .int t_whens_size])), (h_t_whens_kept, .inl (G.2.1.2.2, 9, .inr (.inl t_whens_kept))), (h_t_thens, .inr (5, [.ref h_t_thens_kept, .int t_thens_most, .int t_thens_size])), (h_t_thens_kept, .inl (G.2.1.2.2, 9, .inr (.inl t_thens_kept)))] H := hP
        have hD : va_D A [(h_t, .inr (4, [.ref h_t_whens, .ref h_t_thens, .ref h_t_grades, .int t_quarrel])), (h_t_whens, .inr (5, [.ref h_t_whens_kept, .int t_whens_most, .int t_whens_size])), (h_t_whens_kept, .inl (G.2.1.2.2, 9, .inr (.inl t_whens_kept))), (h_t_thens, .inr (5, [.ref h_t_thens_kept, .int t_thens_most, .int t_thens_size])), (h_t_thens_kept, .inl (G.2.1.2.2, 9, .inr (.inl t_thens_kept)))] := hD
        refine lv_iload_n hx hb dX4_brokenIn_17 rfl (lv_at hl 1 rfl) ?_
        obtain ⟨o4, ho4, hf⟩ := bd_e hf
        refine af0_i (va_runSN (As := [.long o3, .int a1]) (rest := []) ⟨hx, hb, hml, hown, hts⟩ (c_X7_holds l G H.size o3 a1 o4 ho4) ⟨va_cnB (host := "AsARule") 2 hts gX4_brokenIn_X7_holds_n64 rfl rfl rfl (hg.2 _ (List.mem_of_getElem? (i := 6) rfl)) (hts (.initialized RX7) (by decide +kernel)) (by decide +kernel) ⟨Nat.le_of_ble_eq_true rfl, Nat.le_of_ble_eq_true rfl⟩, (hts (.static yX7_holds) (by decide +kernel)), trivial⟩ (pcA_pre hg hc hP hD hS hA [] rfl rfl [.long o3, .int a1]) rfl rfl hl.1 rfl (lv_room (Nat.le_of_ble_eq_true rfl)) dX4_brokenIn_18 ⟨Nat.zero_le _, Nat.zero_le _⟩) hP hD hS hA (fun H locs hP hD hS => ?_)
        refine lv_if_eq (tgt := 30) hx hb dX4_brokenIn_21 (by decide) (fun c5 => ?_) (fun c5 => ?_)
        · have hf := it_t c5 hf
          obtain ⟨x6, ex6⟩ : ∃ y : Int32, y = (v3 + (1 : Int32)) := ⟨_, rfl⟩
          have hf := lt_n hf x6 ex6
          refine lv_iinc (v := x6) (lv' := [(3, .int x6), (0, .ref h_t), (1, .int a1), (2, .int v2)]) hx hb dX4_brokenIn_30 hl (k := 3) rfl (by rw [ex6]; rfl) (by decide) rfl (fun ls hl => ?_)
          refine lv_goto (tgt := 4) hx hb dX4_brokenIn_33 (by decide) ?_
          exact ih v2 x6 hf _ _ hP hD hS _ (lv_sub hl [1, 2, 3, 0] rfl)
        · have hf := it_f c5 hf
          refine lv_iload_n hx hb dX4_brokenIn_24 rfl (lv_at hl 2 rfl) ?_
          refine lv_iconst (v := (1 : Int32)) hx hb dX4_brokenIn_25 (by decide) ?_
          refine lv_iload_n hx hb dX4_brokenIn_26 rfl (lv_at hl 3 rfl) ?_
          refine lv_ishl hx hb dX4_brokenIn_27 ?_
          refine lv_ior hx hb dX4_brokenIn_28 ?_
          refine lv_topi (fun x7 ex7 => ?_)
          have hf := lt_n hf x7 ex7
          refine lv_istore_n (lv' := [(2, .int x7), (0, .ref h_t), (1, .int a1), (3, .int v3)]) hx hb dX4_brokenIn_29 rfl hl (by decide) rfl (fun ls hl => ?_)
          obtain ⟨x8, ex8⟩ : ∃ y : Int32, y = (v3 + (1 : Int32)) := ⟨_, rfl⟩
          have hf := lt_n hf x8 ex8
          refine lv_iinc (v := x8) (lv' := [(3, .int x8), (2, .int x7), (0, .ref h_t), (1, .int a1)]) hx hb dX4_brokenIn_30 hl (k := 3) rfl (by rw [ex8]; rfl) (by decide) rfl (fun ls hl => ?_)
          refine lv_goto (tgt := 4) hx hb dX4_brokenIn_33 (by decide) ?_
          exact ih x7 x8 hf _ _ hP hD hS _ (lv_sub hl [2, 3, 1, 0] rfl)
  unfold f_X4_brokenIn at hf
  refine en (fun H locs hP hD hS => ?_) hP hD
  refine lv_iconst (v := (0 : Int32)) hx hb dX4_brokenIn_0 (by decide) ?_
  refine lv_istore_n (lv' := [(2, .int (0 : Int32)), (0, .ref h_t), (1, .int a1)]) hx hb dX4_brokenIn_1 rfl hl (by decide) rfl (fun ls hl => ?_)
  refine lv_iconst (v := (0 : Int32)) hx hb dX4_brokenIn_2 (by decide) ?_
  refine lv_istore_n (lv' := [(3, .int (0 : Int32)), (2, .int (0 : Int32)), (0, .ref h_t), (1, .int a1)]) hx hb dX4_brokenIn_3 rfl hl (by decide) rfl (fun ls hl => ?_)
  exact hw_4 fu (0 : Int32) (0 : Int32) hf _ _ hP hD hS _ (lv_sub hl [2, 3, 1, 0] rfl)
-- method X4_borneBy
def lp_X4_borneBy_51 (t_whens_size : Int32) (t_whens_kept : Nat → Int64) (t_thens_size : Int32) (t_thens_kept : Nat → Int64) (a1 : Int32) (a2 : Int64) (v4 : Int64) : Nat → Int32 → Int32 → Option (Int32)
  | 0, _, _ => none
  | n + 1, v6, v7 => bd (f_X4_size t_whens_size) (fun o1 => if o1 ≤ v7 then some (v6) else bd (f_X7_inSet a1 v7) (fun o3 => if o3 = (0 : Int32) then lt (v7 + (1 : Int32)) (fun x5 => lp_X4_borneBy_51 t_whens_size t_whens_kept t_thens_size t_thens_kept a1 a2 v4 n v6 x5) else bd (f_X5_get t_whens_size t_whens_kept v7) (fun o6 => bd (f_X5_get t_thens_size t_thens_kept v7) (fun o7 => if ((v4 &&& o6) &&& o7) = (0 : Int64) then lt (v7 + (1 : Int32)) (fun x9 => lp_X4_borneBy_51 t_whens_size t_whens_kept t_thens_size t_thens_kept a1 a2 v4 n v6 x9) else lt (v6 ||| ((1 : Int32) <<< (v7 &&& 31))) (fun x10 => lt (v7 + (1 : Int32)) (fun x11 => lp_X4_borneBy_51 t_whens_size t_whens_kept t_thens_size t_thens_kept a1 a2 v4 n x10 x11))))))
def lp_X4_borneBy_6 (t_whens_size : Int32) (t_whens_kept : Nat → Int64) (t_thens_size : Int32) (t_thens_kept : Nat → Int64) (a1 : Int32) (a2 : Int64) : Nat → Int64 → Int32 → Option (Int32)
  | 0, _, _ => none
  | n + 1, v4, v6 => bd (f_X4_size t_whens_size) (fun o12 => if o12 ≤ v6 then lp_X4_borneBy_51 t_whens_size t_whens_kept t_thens_size t_thens_kept a1 a2 v4 fu (0 : Int32) (0 : Int32) else bd (f_X7_inSet a1 v6) (fun o14 => if o14 = (0 : Int32) then lt (v6 + (1 : Int32)) (fun x16 => lp_X4_borneBy_6 t_whens_size t_whens_kept t_thens_size t_thens_kept a1 a2 n v4 x16) else bd (f_X4_breaking t_whens_size t_whens_kept t_thens_size t_thens_kept v6) (fun o17 => lt (v4 &&& (o17 ^^^ (-1 : Int64))) (fun x18 => lt (v6 + (1 : Int32)) (fun x19 => lp_X4_borneBy_6 t_whens_size t_whens_kept t_thens_size t_thens_kept a1 a2 n x18 x19)))))
def f_X4_borneBy (t_whens_size : Int32) (t_whens_kept : Nat → Int64) (t_thens_size : Int32) (t_thens_kept : Nat → Int64) (a1 : Int32) (a2 : Int64) : Option (Int32) :=
  lp_X4_borneBy_6 t_whens_size t_whens_kept t_thens_size t_thens_kept a1 a2 fu a2 (0 : Int32)
set_option maxHeartbeats 4000000 in
set_option maxRecDepth 100000 in
theorem c_X4_borneBy (l : Launch) (G : GG) (h_t h_t_whens h_t_thens h_t_grades h_t_whens_kept h_t_thens_kept : Nat) (sz : Nat) (t_quarrel : Int32) (t_whens_most : Int32) (t_whens_size : Int32) (t_whens_kept : Nat → Int64) (t_thens_most : Int32) (t_thens_size : Int32) (t_thens_kept : Nat → Int64) (a1 : Int32) (a2 : Int64) (o : Int32) (ho : f_X4_borneBy t_whens_size t_whens_kept t_thens_size t_thens_kept a1 a2 = some o)  : Met l yX4_borneBy wsX4_borneBy ({ frames := 2, cells := 0, slots := 0, locals := 42 } : Room) (pcA G [.ref h_t, .int a1, .long a2] [(h_t, .inr (4, [.ref h_t_whens, .ref h_t_thens, .ref h_t_grades, .int t_quarrel])), (h_t_whens, .inr (5, [.ref h_t_whens_kept, .int t_whens_most, .int t_whens_size])), (h_t_whens_kept, .inl (G.2.1.2.2, 9, .inr (.inl t_whens_kept))), (h_t_thens, .inr (5, [.ref h_t_thens_kept, .int t_thens_most, .int t_thens_size])), (h_t_thens_kept, .inl (G.2.1.2.2, 9, .inr (.inl t_thens_kept)))] sz) (qcI Unit G o (fun _ => True) (fun _ => [(h_t, .inr (4, [.ref h_t_whens, .ref h_t_thens, .ref h_t_grades, .int t_quarrel])), (h_t_whens, .inr (5, [.ref h_t_whens_kept, .int t_whens_most, .int t_whens_size])), (h_t_whens_kept, .inl (G.2.1.2.2, 9, .inr (.inl t_whens_kept))), (h_t_thens, .inr (5, [.ref h_t_thens_kept, .int t_thens_most, .int t_thens_size])), (h_t_thens_kept, .inl (G.2.1.2.2, 9, .inr (.inl t_thens_kept)))]) (va_A [(h_t, .inr (4, [.ref h_t_whens, .ref h_t_thens, .ref h_t_grades, .int t_quarrel])), (h_t_whens, .inr (5, [.ref h_t_whens_kept, .int t_whens_most, .int t_whens_size])), (h_t_whens_kept, .inl (G.2.1.2.2, 9, .inr (.inl t_whens_kept))), (h_t_thens, .inr (5, [.ref h_t_thens_kept, .int t_thens_most, .int t_thens_size])), (h_t_thens_kept, .inl (G.2.1.2.2, 9, .inr (.inl t_thens_kept)))] sz)) 0 0 (va_A [(h_t, .inr (4, [.ref h_t_whens, .ref h_t_thens, .ref h_t_grades, .int t_quarrel])), (h_t_whens, .inr (5, [.ref h_t_whens_kept, .int t_whens_most, .int t_whens_size])), (h_t_whens_kept, .inl (G.2.1.2.2, 9, .inr (.inl t_whens_kept))), (h_t_thens, .inr (5, [.ref h_t_thens_kept, .int t_thens_most, .int t_thens_size])), (h_t_thens_kept, .inl (G.2.1.2.2, 9, .inr (.inl t_thens_kept)))] sz) := by
  refine Met.ofW (cc := cX4_borneBy) (maxL := 8) (ret := (some .int)) (by decide) rfl ?_
  intro p e s m args below meth c s₁ B hml hv
  obtain ⟨rfl, hsz, hP, hg, hD0, hc⟩ := hv
  have hx := B.exec
  have hb := B.bytes
  have hr := B.returns
  have hts := atoms_spec (ws := wsX4_borneBy) B.pre
  have hown : s.vm.findClass RX4 = some m.cls := findClass_of_methodNamed B.named
  have hlocks := B.notSynchronized
  subst hsz
  have hD := hD0.self (sz := s.heap.size)
  generalize hAe : va_A [(h_t, .inr (4, [.ref h_t_whens, .ref h_t_thens, .ref h_t_grades, .int t_quarrel])), (h_t_whens, .inr (5, [.ref h_t_whens_kept, .int t_whens_most, .int t_whens_size])), (h_t_whens_kept, .inl (G.2.1.2.2, 9, .inr (.inl t_whens_kept))), (h_t_thens, .inr (5, [.ref h_t_thens_kept, .int t_thens_most, .int t_thens_size])), (h_t_thens_kept, .inl (G.2.1.2.2, 9, .inr (.inl t_thens_kept)))] s.heap.size = A at hD hc ⊢
  have hA : ∀ q : Nat, s.heap.size ≤ q → A q := fun q h => by rw [← hAe]; exact Or.inr h
  have hiX4 : ∀ w ∈ wsX40, w ∈ wsX4_borneBy := by decide +kernel
  have hl := lv_entry ([.ref h_t, .int a1, .long a2]) (n := 8) (Nat.le_of_ble_eq_true rfl)
  rw [lg_entry_eq]
  generalize (lg_sl ([.ref h_t, .int a1, .long a2]) ++ List.replicate (8 - (lg_sl ([.ref h_t, .int a1, .long a2])).length) Slot.unset).toArray = ls at hl ⊢
  have hl : lv_has ls 8 [(0, .ref h_t), (1, .int a1), (2, .long a2)] := hl
  have hf := ho
  have hw_51 : ∀ (v4 : Int64) (n : Nat) (v6 : Int32) (v7 : Int32), lp_X4_borneBy_51 t_whens_size t_whens_kept t_thens_size t_thens_kept a1 a2 v4 n v6 v7 = some o → ∀ (H : Heap) (locs : List Loc), va_P G.1 vwCl [(h_t, .inr (4, [.ref h_t_whens, .ref h_t_thens, .ref h_t_grades, .int t_quarrel])), (h_t_whens, .inr (5, [.ref h_t_whens_kept, .int t_whens_most, .int t_whens_size])), (h_t_whens_kept, .inl (G.2.1.2.2, 9, .inr (.inl t_whens_kept))), (h_t_thens, .inr (5, [.ref h_t_thens_kept, .int t_thens_most, .int t_thens_size])), (h_t_thens_kept, .inl (G.2.1.2.2, 9, .inr (.inl t_thens_kept)))] H → va_D A [(h_t, .inr (4, [.ref h_t_whens, .ref h_t_thens, .ref h_t_grades, .int t_quarrel])), (h_t_whens, .inr (5, [.ref h_t_whens_kept, .int t_whens_most, .int t_whens_size])), (h_t_whens_kept, .inl (G.2.1.2.2, 9, .inr (.inl t_whens_kept))), (h_t_thens, .inr (5, [.ref h_t_thens_kept, .int t_thens_most, .int t_thens_size])), (h_t_thens_kept, .inl (G.2.1.2.2, 9, .inr (.inl t_thens_kept)))] → va_S A s.heap H locs → ∀ (ls : Array Slot), lv_has ls 8 [(0, .ref h_t), (1, .int a1), (4, .long v4), (6, .int v6), (7, .int v7)] → W p l e (headSpec wsX4_borneBy ({ frames := 2, cells := 0, slots := 0, locals := 42 } : Room)).room s m ([.ref h_t, .int a1, .long a2] : List Value).toArray below meth c H locs 0 0 (MQ below (qcI Unit G o (fun _ => True) (fun _ => [(h_t, .inr (4, [.ref h_t_whens, .ref h_t_thens, .ref h_t_grades, .int t_quarrel])), (h_t_whens, .inr (5, [.ref h_t_whens_kept, .int t_whens_most, .int t_whens_size])), (h_t_whens_kept, .inl (G.2.1.2.2, 9, .inr (.inl t_whens_kept))), (h_t_thens, .inr (5, [.ref h_t_thens_kept, .int t_thens_most, .int t_thens_size])), (h_t_thens_kept, .inl (G.2.1.2.2, 9, .inr (.inl t_thens_kept)))]) A) ([.ref h_t, .int a1, .long a2] : List Value).toArray s 0 0 A) (F0 m 51 ls []) := by
    intro v4
    intro n
    induction n with
    | zero =>
      intro v6 v7 hf
      exact absurd hf (by rw [lp_X4_borneBy_51]; intro h; cases h)
    | succ n ih =>
      intro v6 v7 hf H locs hP hD hS ls hl
      rw [lp_X4_borneBy_51] at hf
      refine lv_iload hx hb dX4_borneBy_51 (lv_at hl 4 rfl) ?_
      refine lv_aload_n hx hb dX4_borneBy_53 rfl (lv_at hl 0 rfl) ?_
      obtain ⟨o1, ho1, hf⟩ := bd_e hf
      refine af_i (wr := [(h_t_whens_kept, .inl (G.2.1.2.2, 9, .inr (.inl t_whens_kept))), (h_t_thens, .inr (5, [.ref h_t_thens_kept, .int t_thens_most, .int t_thens_size])), (h_t_thens_kept, .inl (G.2.1.2.2, 9, .inr (.inl t_thens_kept)))]) (va_runV (As := []) (rest := [.int v7]) ⟨hx, hb, hml, hown, hts⟩ (c_X4_size l G h_t h_t_whens h_t_thens h_t_grades h_t_whens_kept H.size t_quarrel t_whens_most t_whens_size o1 ho1) (cwV 0 hts gX4_borneBy_X4_size rfl rfl rfl (by decide +kernel) ⟨Nat.le_of_ble_eq_true rfl, Nat.le_of_ble_eq_true rfl⟩) (pcA_preV hg hc hP hD hS hA [0, 1] rfl (by decide) (q0 := 0) (ci := 4) rfl rfl rfl) rfl rfl hl.1 rfl (lv_room (Nat.le_of_ble_eq_true rfl)) dX4_borneBy_54 ⟨Nat.zero_le _, Nat.zero_le _⟩) hP hD hS hA [0, 1] [2, 3, 4] rfl rfl (by decide) (by decide) (fun _ H locs _ hP hD hS => ?_)
      have hP : va_P G.1 vwCl [(h_t, .inr (4, [.ref h_t_whens, .ref h_t_thens, .ref h_t_grades, .int t_quarrel])), (h_t_whens, .inr (5, [.ref h_t_whens_kept, .int t_whens_most, .int t_whens_size])), (h_t_whens_kept, .inl (G.2.1.2.2, 9, .inr (.inl t_whens_kept))), (h_t_thens, .inr (5, [.ref h_t_thens_kept, .int t_thens_most, .int t_thens_size])), (h_t_thens_kept, .inl (G.2.1.2.2, 9, .inr (.inl t_thens_kept)))] H := hP.sub [3, 4, 0, 1, 2] rfl
      have hD : va_D A [(h_t, .inr (4, [.ref h_t_whens, .ref h_t_thens, .ref h_t_grades, .int t_quarrel])), (h_t_whens, .inr (5, [.ref h_t_whens_kept, .int t_whens_most, .int t_whens_size])), (h_t_whens_kept, .inl (G.2.1.2.2, 9, .inr (.inl t_whens_kept))), (h_t_thens, .inr (5, [.ref h_t_thens_kept, .int t_thens_most, .int t_thens_size])), (h_t_thens_kept, .inl (G.2.1.2.2, 9, .inr (.inl t_thens_kept)))] := hD.sub [3, 4, 0, 1, 2] (by decide) rfl
      refine lv_icmp_ge (tgt := 111) hx hb dX4_borneBy_57 (by decide) (fun c2 => ?_) (fun c2 => ?_)
      · have hf := it_t c2 hf
        refine lv_iload hx hb dX4_borneBy_111 (lv_at hl 3 rfl) ?_
        rw [← Option.some.inj hf]
        exact rt_i (u := ()) hx hb hr hlocks hP hD trivial hS dX4_borneBy_113
      · have hf := it_f c2 hf
        refine lv_iload_n hx hb dX4_borneBy_60 rfl (lv_at hl 1 rfl) ?_
        refine lv_iload hx hb dX4_borneBy_61 (lv_at hl 4 rfl) ?_
        obtain ⟨o3, ho3, hf⟩ := bd_e hf
        refine af0_i (va_runSN (As := [.int a1, .int v7]) (rest := []) ⟨hx, hb, hml, hown, hts⟩ (c_X7_inSet l G H.size a1 v7 o3 ho3) ⟨va_cnB (host := "AsARule") 2 hts gX4_borneBy_X7_inSet_n76 rfl rfl rfl (hg.2 _ (List.mem_of_getElem? (i := 7) rfl)) (hts (.initialized RX7) (by decide +kernel)) (by decide +kernel) ⟨Nat.le_of_ble_eq_true rfl, Nat.le_of_ble_eq_true rfl⟩, (hts (.static yX7_inSet) (by decide +kernel)), trivial⟩ (pcA_pre hg hc hP hD hS hA [] rfl rfl [.int a1, .int v7]) rfl rfl hl.1 rfl (lv_room (Nat.le_of_ble_eq_true rfl)) dX4_borneBy_63 ⟨Nat.zero_le _, Nat.zero_le _⟩) hP hD hS hA (fun H locs hP hD hS => ?_)
        refine lv_if_eq (tgt := 105) hx hb dX4_borneBy_66 (by decide) (fun c4 => ?_) (fun c4 => ?_)
        · have hf := it_t c4 hf
          obtain ⟨x5, ex5⟩ : ∃ y : Int32, y = (v7 + (1 : Int32)) := ⟨_, rfl⟩
          have hf := lt_n hf x5 ex5
          refine lv_iinc (v := x5) (lv' := [(7, .int x5), (0, .ref h_t), (1, .int a1), (4, .long v4), (6, .int v6)]) hx hb dX4_borneBy_105 hl (k := 4) rfl (by rw [ex5]; rfl) (by decide) rfl (fun ls hl => ?_)
          refine lv_goto (tgt := 51) hx hb dX4_borneBy_108 (by decide) ?_
          exact ih v6 x5 hf _ _ hP hD hS _ (lv_sub hl [1, 2, 3, 4, 0] rfl)
        · have hf := it_f c4 hf
          refine lv_lload hx hb dX4_borneBy_69 (lv_at hl 2 rfl) ?_
          refine lv_aload_n hx hb dX4_borneBy_71 rfl (lv_at hl 0 rfl) ?_
          refine va_get (D := G.1) (ci := 4) (v := .ref h_t_whens) (C := RX4) (T := TX4) (N := 4) hx hb hts hiX4 hown hg.1 hP 0 rfl rfl 0 (by decide) (hts (.fieldLink RX4 24 "AsARule$Rules" "whens" "LAsARule$Sayings;") (by decide +kernel)) (fun _ h9 => h9) rfl dX4_borneBy_72 ?_
          refine lv_iload hx hb dX4_borneBy_75 (lv_at hl 4 rfl) ?_
          obtain ⟨o6, ho6, hf⟩ := bd_e hf
          refine af_l (wr := [(h_t, .inr (4, [.ref h_t_whens, .ref h_t_thens, .ref h_t_grades, .int t_quarrel])), (h_t_thens, .inr (5, [.ref h_t_thens_kept, .int t_thens_most, .int t_thens_size])), (h_t_thens_kept, .inl (G.2.1.2.2, 9, .inr (.inl t_thens_kept)))]) (va_runV (As := [.int v7]) (rest := [.long v4]) ⟨hx, hb, hml, hown, hts⟩ (c_X5_get l G h_t_whens h_t_whens_kept H.size t_whens_most t_whens_size t_whens_kept v7 o6 ho6) (cwV 1 hts gX4_borneBy_X5_get rfl rfl rfl (by decide +kernel) ⟨Nat.le_of_ble_eq_true rfl, Nat.le_of_ble_eq_true rfl⟩) (pcA_preV hg hc hP hD hS hA [1, 2] rfl (by decide) (q0 := 1) (ci := 5) rfl rfl rfl) rfl rfl hl.1 rfl (lv_room (Nat.le_of_ble_eq_true rfl)) dX4_borneBy_77 ⟨Nat.zero_le _, Nat.zero_le _⟩) hP hD hS hA [1, 2] [0, 3, 4] rfl rfl (by decide) (by decide) (fun _ H locs _ hP hD hS => ?_)
          have hP : va_P G.1 vwCl [(h_t, .inr (4, [.ref h_t_whens, .ref h_t_thens, .ref h_t_grades, .int t_quarrel])), (h_t_whens, .inr (5, [.ref h_t_whens_kept, .int t_whens_most, .int t_whens_size])), (h_t_whens_kept, .inl (G.2.1.2.2, 9, .inr (.inl t_whens_kept))), (h_t_thens, .inr (5, [.ref h_t_thens_kept, .int t_thens_most, .int t_thens_size])), (h_t_thens_kept, .inl (G.2.1.2.2, 9, .inr (.inl t_thens_kept)))] H := hP.sub [0, 3, 4, 1, 2] rfl
          have hD : va_D A [(h_t, .inr (4, [.ref h_t_whens, .ref h_t_thens, .ref h_t_grades, .int t_quarrel])), (h_t_whens, .inr (5, [.ref h_t_whens_kept, .int t_whens_most, .int t_whens_size])), (h_t_whens_kept, .inl (G.2.1.2.2, 9, .inr (.inl t_whens_kept))), (h_t_thens, .inr (5, [.ref h_t_thens_kept, .int t_thens_most, .int t_thens_size])), (h_t_thens_kept, .inl (G.2.1.2.2, 9, .inr (.inl t_thens_kept)))] := hD.sub [0, 3, 4, 1, 2] (by decide) rfl
          refine lv_land hx hb dX4_borneBy_80 ?_
          refine lv_aload_n hx hb dX4_borneBy_81 rfl (lv_at hl 0 rfl) ?_
          refine va_get (D := G.1) (ci := 4) (v := .ref h_t_thens) (C := RX4) (T := TX4) (N := 4) hx hb hts hiX4 hown hg.1 hP 0 rfl rfl 1 (by decide) (hts (.fieldLink RX4 28 "AsARule$Rules" "thens" "LAsARule$Sayings;") (by decide +kernel)) (fun _ h9 => h9) rfl dX4_borneBy_82 ?_
          refine lv_iload hx hb dX4_borneBy_85 (lv_at hl 4 rfl) ?_
          obtain ⟨o7, ho7, hf⟩ := bd_e hf
          refine af_l (wr := [(h_t, .inr (4, [.ref h_t_whens, .ref h_t_thens, .ref h_t_grades, .int t_quarrel])), (h_t_whens, .inr (5, [.ref h_t_whens_kept, .int t_whens_most, .int t_whens_size])), (h_t_whens_kept, .inl (G.2.1.2.2, 9, .inr (.inl t_whens_kept)))]) (va_runV (As := [.int v7]) (rest := [.long (v4 &&& o6)]) ⟨hx, hb, hml, hown, hts⟩ (c_X5_get l G h_t_thens h_t_thens_kept H.size t_thens_most t_thens_size t_thens_kept v7 o7 ho7) (cwV 1 hts gX4_borneBy_X5_get rfl rfl rfl (by decide +kernel) ⟨Nat.le_of_ble_eq_true rfl, Nat.le_of_ble_eq_true rfl⟩) (pcA_preV hg hc hP hD hS hA [3, 4] rfl (by decide) (q0 := 3) (ci := 5) rfl rfl rfl) rfl rfl hl.1 rfl (lv_room (Nat.le_of_ble_eq_true rfl)) dX4_borneBy_87 ⟨Nat.zero_le _, Nat.zero_le _⟩) hP hD hS hA [3, 4] [0, 1, 2] rfl rfl (by decide) (by decide) (fun _ H locs _ hP hD hS => ?_)
          have hP : va_P G.1 vwCl [(h_t, .inr (4, [.ref h_t_whens, .ref h_t_thens, .ref h_t_grades, .int t_quarrel])), (h_t_whens, .inr (5, [.ref h_t_whens_kept, .int t_whens_most, .int t_whens_size])), (h_t_whens_kept, .inl (G.2.1.2.2, 9, .inr (.inl t_whens_kept))), (h_t_thens, .inr (5, [.ref h_t_thens_kept, .int t_thens_most, .int t_thens_size])), (h_t_thens_kept, .inl (G.2.1.2.2, 9, .inr (.inl t_thens_kept)))] H := hP
          have hD : va_D A [(h_t, .inr (4, [.ref h_t_whens, .ref h_t_thens, .ref h_t_grades, .int t_quarrel])), (h_t_whens, .inr (5, [.ref h_t_whens_kept, .int t_whens_most, .int t_whens_size])), (h_t_whens_kept, .inl (G.2.1.2.2, 9, .inr (.inl t_whens_kept))), (h_t_thens, .inr (5, [.ref h_t_thens_kept, .int t_thens_most, .int t_thens_size])), (h_t_thens_kept, .inl (G.2.1.2.2, 9, .inr (.inl t_thens_kept)))] := hD
          refine lv_land hx hb dX4_borneBy_90 ?_
          refine lv_lconst (v := (0 : Int64)) hx hb dX4_borneBy_91 (by decide) ?_
          refine W.lcmp hx hb dX4_borneBy_92 ?_
          refine lv_if_eq (tgt := 105) hx hb dX4_borneBy_93 (by decide) (fun c8 => ?_) (fun c8 => ?_)
          · have c8 := lgc0.mp c8
            have hf := it_t c8 hf
            obtain ⟨x9, ex9⟩ : ∃ y : Int32, y = (v7 + (1 : Int32)) := ⟨_, rfl⟩
            have hf := lt_n hf x9 ex9
            refine lv_iinc (v := x9) (lv' := [(7, .int x9), (0, .ref h_t), (1, .int a1), (4, .long v4), (6, .int v6)]) hx hb dX4_borneBy_105 hl (k := 4) rfl (by rw [ex9]; rfl) (by decide) rfl (fun ls hl => ?_)
            refine lv_goto (tgt := 51) hx hb dX4_borneBy_108 (by decide) ?_
            exact ih v6 x9 hf _ _ hP hD hS _ (lv_sub hl [1, 2, 3, 4, 0] rfl)
          · have c8 := fun z => c8 (lgc0.mpr z)
            have hf := it_f c8 hf
            refine lv_iload hx hb dX4_borneBy_96 (lv_at hl 3 rfl) ?_
            refine lv_iconst (v := (1 : Int32)) hx hb dX4_borneBy_98 (by decide) ?_
            refine lv_iload hx hb dX4_borneBy_99 (lv_at hl 4 rfl) ?_
            refine lv_ishl hx hb dX4_borneBy_101 ?_
            refine lv_ior hx hb dX4_borneBy_102 ?_
            refine lv_topi (fun x10 ex10 => ?_)
            have hf := lt_n hf x10 ex10
            refine lv_istore (lv' := [(6, .int x10), (0, .ref h_t), (1, .int a1), (4, .long v4), (7, .int v7)]) hx hb dX4_borneBy_103 hl (by decide) rfl (fun ls hl => ?_)
            obtain ⟨x11, ex11⟩ : ∃ y : Int32, y = (v7 + (1 : Int32)) := ⟨_, rfl⟩
            have hf := lt_n hf x11 ex11
            refine lv_iinc (v := x11) (lv' := [(7, .int x11), (6, .int x10), (0, .ref h_t), (1, .int a1), (4, .long v4)]) hx hb dX4_borneBy_105 hl (k := 4) rfl (by rw [ex11]; rfl) (by decide) rfl (fun ls hl => ?_)
            refine lv_goto (tgt := 51) hx hb dX4_borneBy_108 (by decide) ?_
            exact ih x10 x11 hf _ _ hP hD hS _ (lv_sub hl [2, 3, 4, 1, 0] rfl)
  have hw_6 : ∀  (n : Nat) (v4 : Int64) (v6 : Int32), lp_X4_borneBy_6 t_whens_size t_whens_kept t_thens_size t_thens_kept a1 a2 n v4 v6 = some o → ∀ (H : Heap) (locs : List Loc), va_P G.1 vwCl [(h_t, .inr (4, [.ref h_t_whens, .ref h_t_thens, .ref h_t_grades, .int t_quarrel])), (h_t_whens, .inr (5, [.ref h_t_whens_kept, .int t_whens_most, .int t_whens_size])), (h_t_whens_kept, .inl (G.2.1.2.2, 9, .inr (.inl t_whens_kept))), (h_t_thens, .inr (5, [.ref h_t_thens_kept, .int t_thens_most, .int t_thens_size])), (h_t_thens_kept, .inl (G.2.1.2.2, 9, .inr (.inl t_thens_kept)))] H → va_D A [(h_t, .inr (4, [.ref h_t_whens, .ref h_t_thens, .ref h_t_grades, .int t_quarrel])), (h_t_whens, .inr (5, [.ref h_t_whens_kept, .int t_whens_most, .int t_whens_size])), (h_t_whens_kept, .inl (G.2.1.2.2, 9, .inr (.inl t_whens_kept))), (h_t_thens, .inr (5, [.ref h_t_thens_kept, .int t_thens_most, .int t_thens_size])), (h_t_thens_kept, .inl (G.2.1.2.2, 9, .inr (.inl t_thens_kept)))] → va_S A s.heap H locs → ∀ (ls : Array Slot), lv_has ls 8 [(0, .ref h_t), (1, .int a1), (4, .long v4), (6, .int v6)] → W p l e (headSpec wsX4_borneBy ({ frames := 2, cells := 0, slots := 0, locals := 42 } : Room)).room s m ([.ref h_t, .int a1, .long a2] : List Value).toArray below meth c H locs 0 0 (MQ below (qcI Unit G o (fun _ => True) (fun _ => [(h_t, .inr (4, [.ref h_t_whens, .ref h_t_thens, .ref h_t_grades, .int t_quarrel])), (h_t_whens, .inr (5, [.ref h_t_whens_kept, .int t_whens_most, .int t_whens_size])), (h_t_whens_kept, .inl (G.2.1.2.2, 9, .inr (.inl t_whens_kept))), (h_t_thens, .inr (5, [.ref h_t_thens_kept, .int t_thens_most, .int t_thens_size])), (h_t_thens_kept, .inl (G.2.1.2.2, 9, .inr (.inl t_thens_kept)))]) A) ([.ref h_t, .int a1, .long a2] : List Value).toArray s 0 0 A) (F0 m 6 ls []) := by
    intro n
    induction n with
    | zero =>
      intro v4 v6 hf
      exact absurd hf (by rw [lp_X4_borneBy_6]; intro h; cases h)
    | succ n ih =>
      intro v4 v6 hf H locs hP hD hS ls hl
      rw [lp_X4_borneBy_6] at hf
      refine lv_iload hx hb dX4_borneBy_6 (lv_at hl 3 rfl) ?_
      refine lv_aload_n hx hb dX4_borneBy_8 rfl (lv_at hl 0 rfl) ?_
      obtain ⟨o12, ho12, hf⟩ := bd_e hf
      refine af_i (wr := [(h_t_whens_kept, .inl (G.2.1.2.2, 9, .inr (.inl t_whens_kept))), (h_t_thens, .inr (5, [.ref h_t_thens_kept, .int t_thens_most, .int t_thens_size])), (h_t_thens_kept, .inl (G.2.1.2.2, 9, .inr (.inl t_thens_kept)))]) (va_runV (As := []) (rest := [.int v6]) ⟨hx, hb, hml, hown, hts⟩ (c_X4_size l G h_t h_t_whens h_t_thens h_t_grades h_t_whens_kept H.size t_quarrel t_whens_most t_whens_size o12 ho12) (cwV 0 hts gX4_borneBy_X4_size rfl rfl rfl (by decide +kernel) ⟨Nat.le_of_ble_eq_true rfl, Nat.le_of_ble_eq_true rfl⟩) (pcA_preV hg hc hP hD hS hA [0, 1] rfl (by decide) (q0 := 0) (ci := 4) rfl rfl rfl) rfl rfl hl.1 rfl (lv_room (Nat.le_of_ble_eq_true rfl)) dX4_borneBy_9 ⟨Nat.zero_le _, Nat.zero_le _⟩) hP hD hS hA [0, 1] [2, 3, 4] rfl rfl (by decide) (by decide) (fun _ H locs _ hP hD hS => ?_)
      have hP : va_P G.1 vwCl [(h_t, .inr (4, [.ref h_t_whens, .ref h_t_thens, .ref h_t_grades, .int t_quarrel])), (h_t_whens, .inr (5, [.ref h_t_whens_kept, .int t_whens_most, .int t_whens_size])), (h_t_whens_kept, .inl (G.2.1.2.2, 9, .inr (.inl t_whens_kept))), (h_t_thens, .inr (5, [.ref h_t_thens_kept, .int t_thens_most, .int t_thens_size])), (h_t_thens_kept, .inl (G.2.1.2.2, 9, .inr (.inl t_thens_kept)))] H := hP.sub [3, 4, 0, 1, 2] rfl
      have hD : va_D A [(h_t, .inr (4, [.ref h_t_whens, .ref h_t_thens, .ref h_t_grades, .int t_quarrel])), (h_t_whens, .inr (5, [.ref h_t_whens_kept, .int t_whens_most, .int t_whens_size])), (h_t_whens_kept, .inl (G.2.1.2.2, 9, .inr (.inl t_whens_kept))), (h_t_thens, .inr (5, [.ref h_t_thens_kept, .int t_thens_most, .int t_thens_size])), (h_t_thens_kept, .inl (G.2.1.2.2, 9, .inr (.inl t_thens_kept)))] := hD.sub [3, 4, 0, 1, 2] (by decide) rfl
      refine lv_icmp_ge (tgt := 45) hx hb dX4_borneBy_12 (by decide) (fun c13 => ?_) (fun c13 => ?_)
      · have hf := it_t c13 hf
        refine lv_iconst (v := (0 : Int32)) hx hb dX4_borneBy_45 (by decide) ?_
        refine lv_istore (lv' := [(6, .int (0 : Int32)), (0, .ref h_t), (1, .int a1), (4, .long v4)]) hx hb dX4_borneBy_46 hl (by decide) rfl (fun ls hl => ?_)
        refine lv_iconst (v := (0 : Int32)) hx hb dX4_borneBy_48 (by decide) ?_
        refine lv_istore (lv' := [(7, .int (0 : Int32)), (6, .int (0 : Int32)), (0, .ref h_t), (1, .int a1), (4, .long v4)]) hx hb dX4_borneBy_49 hl (by decide) rfl (fun ls hl => ?_)
        exact hw_51 v4 fu (0 : Int32) (0 : Int32) hf _ _ hP hD hS _ (lv_sub hl [2, 3, 4, 1, 0] rfl)
      · have hf := it_f c13 hf
        refine lv_iload_n hx hb dX4_borneBy_15 rfl (lv_at hl 1 rfl) ?_
        refine lv_iload hx hb dX4_borneBy_16 (lv_at hl 3 rfl) ?_
        obtain ⟨o14, ho14, hf⟩ := bd_e hf
        refine af0_i (va_runSN (As := [.int a1, .int v6]) (rest := []) ⟨hx, hb, hml, hown, hts⟩ (c_X7_inSet l G H.size a1 v6 o14 ho14) ⟨va_cnB (host := "AsARule") 2 hts gX4_borneBy_X7_inSet_n76 rfl rfl rfl (hg.2 _ (List.mem_of_getElem? (i := 7) rfl)) (hts (.initialized RX7) (by decide +kernel)) (by decide +kernel) ⟨Nat.le_of_ble_eq_true rfl, Nat.le_of_ble_eq_true rfl⟩, (hts (.static yX7_inSet) (by decide +kernel)), trivial⟩ (pcA_pre hg hc hP hD hS hA [] rfl rfl [.int a1, .int v6]) rfl rfl hl.1 rfl (lv_room (Nat.le_of_ble_eq_true rfl)) dX4_borneBy_18 ⟨Nat.zero_le _, Nat.zero_le _⟩) hP hD hS hA (fun H locs hP hD hS => ?_)
        refine lv_if_eq (tgt := 39) hx hb dX4_borneBy_21 (by decide) (fun c15 => ?_) (fun c15 => ?_)
        · have hf := it_t c15 hf
          obtain ⟨x16, ex16⟩ : ∃ y : Int32, y = (v6 + (1 : Int32)) := ⟨_, rfl⟩
          have hf := lt_n hf x16 ex16
          refine lv_iinc (v := x16) (lv' := [(6, .int x16), (0, .ref h_t), (1, .int a1), (4, .long v4)]) hx hb dX4_borneBy_39 hl (k := 3) rfl (by rw [ex16]; rfl) (by decide) rfl (fun ls hl => ?_)
          refine lv_goto (tgt := 6) hx hb dX4_borneBy_42 (by decide) ?_
          exact ih v4 x16 hf _ _ hP hD hS _ (lv_sub hl [1, 2, 3, 0] rfl)
        · have hf := it_f c15 hf
          refine lv_lload hx hb dX4_borneBy_24 (lv_at hl 2 rfl) ?_
          refine lv_aload_n hx hb dX4_borneBy_26 rfl (lv_at hl 0 rfl) ?_
          refine lv_iload hx hb dX4_borneBy_27 (lv_at hl 3 rfl) ?_
          obtain ⟨o17, ho17, hf⟩ := bd_e hf
          refine af_l (wr := []) (va_runV (As := [.int v6]) (rest := [.long v4]) ⟨hx, hb, hml, hown, hts⟩ (c_X4_breaking l G h_t h_t_whens h_t_thens h_t_grades h_t_whens_kept h_t_thens_kept H.size t_quarrel t_whens_most t_whens_size t_whens_kept t_thens_most t_thens_size t_thens_kept v6 o17 ho17) (cwV 1 hts gX4_borneBy_X4_breaking rfl rfl rfl (by decide +kernel) ⟨Nat.le_of_ble_eq_true rfl, Nat.le_of_ble_eq_true rfl⟩) (pcA_preV hg hc hP hD hS hA [0, 1, 2, 3, 4] rfl (by decide) (q0 := 0) (ci := 4) rfl rfl rfl) rfl rfl hl.1 rfl (lv_room (Nat.le_of_ble_eq_true rfl)) dX4_borneBy_29 ⟨Nat.zero_le _, Nat.zero_le _⟩) hP hD hS hA [0, 1, 2, 3, 4] [] rfl rfl (by decide) (by decide) (fun _ H locs _ hP hD hS => ?_)
          have hP : va_P G.1 vwCl [(h_t, .inr (4, [.ref h_t_whens, .ref h_t_thens, .ref h_t_grades, .int t_quarrel])), (h_t_whens, .inr (5, [.ref h_t_whens_kept, .int t_whens_most, .int t_whens_size])), (h_t_whens_kept, .inl (G.2.1.2.2, 9, .inr (.inl t_whens_kept))), (h_t_thens, .inr (5, [.ref h_t_thens_kept, .int t_thens_most, .int t_thens_size])), (h_t_thens_kept, .inl (G.2.1.2.2, 9, .inr (.inl t_thens_kept)))] H := hP
          have hD : va_D A [(h_t, .inr (4, [.ref h_t_whens, .ref h_t_thens, .ref h_t_grades, .int t_quarrel])), (h_t_whens, .inr (5, [.ref h_t_whens_kept, .int t_whens_most, .int t_whens_size])), (h_t_whens_kept, .inl (G.2.1.2.2, 9, .inr (.inl t_whens_kept))), (h_t_thens, .inr (5, [.ref h_t_thens_kept, .int t_thens_most, .int t_thens_size])), (h_t_thens_kept, .inl (G.2.1.2.2, 9, .inr (.inl t_thens_kept)))] := hD
          refine lv_ldc2 (v := (-1 : Int64)) hx hb hown (hts (.constantLong RX4 59 (-1 : Int64)) (by decide +kernel)) dX4_borneBy_32 ?_
          refine lv_lxor hx hb dX4_borneBy_35 ?_
          refine lv_land hx hb dX4_borneBy_36 ?_
          refine lv_topl (fun x18 ex18 => ?_)
          have hf := lt_n hf x18 ex18
          refine lv_lstore (lv' := [(4, .long x18), (0, .ref h_t), (1, .int a1), (6, .int v6)]) hx hb dX4_borneBy_37 hl (by decide) rfl (fun ls hl => ?_)
          obtain ⟨x19, ex19⟩ : ∃ y : Int32, y = (v6 + (1 : Int32)) := ⟨_, rfl⟩
          have hf := lt_n hf x19 ex19
          refine lv_iinc (v := x19) (lv' := [(6, .int x19), (4, .long x18), (0, .ref h_t), (1, .int a1)]) hx hb dX4_borneBy_39 hl (k := 3) rfl (by rw [ex19]; rfl) (by decide) rfl (fun ls hl => ?_)
          refine lv_goto (tgt := 6) hx hb dX4_borneBy_42 (by decide) ?_
          exact ih x18 x19 hf _ _ hP hD hS _ (lv_sub hl [2, 3, 1, 0] rfl)
  unfold f_X4_borneBy at hf
  refine en (fun H locs hP hD hS => ?_) hP hD
  refine lv_lload_n hx hb dX4_borneBy_0 rfl (lv_at hl 2 rfl) ?_
  refine lv_lstore (lv' := [(4, .long a2), (0, .ref h_t), (1, .int a1), (2, .long a2)]) hx hb dX4_borneBy_1 hl (by decide) rfl (fun ls hl => ?_)
  refine lv_iconst (v := (0 : Int32)) hx hb dX4_borneBy_3 (by decide) ?_
  refine lv_istore (lv' := [(6, .int (0 : Int32)), (4, .long a2), (0, .ref h_t), (1, .int a1), (2, .long a2)]) hx hb dX4_borneBy_4 hl (by decide) rfl (fun ls hl => ?_)
  exact hw_6 fu a2 (0 : Int32) hf _ _ hP hD hS _ (lv_sub hl [2, 3, 1, 0] rfl)
-- method X4_stamp
def lp_X4_stamp_2 (a1 : Int32) (a2 : Int32) : Nat → (Nat → Int32) → Int32 → Option ((Nat → Int32))
  | 0, _, _ => none
  | n + 1, t_grades, v3 => if (9 : Int32) ≤ v3 then some (t_grades) else bd (f_X7_inSet a1 v3) (fun o2 => if o2 = (0 : Int32) then lt (v3 + (1 : Int32)) (fun x4 => lp_X4_stamp_2 a1 a2 n t_grades x4) else gd (ib v3 9) (lt (v3 + (1 : Int32)) (fun x5 => lp_X4_stamp_2 a1 a2 n (upd t_grades v3.toNatClampNeg a2) x5)))
def f_X4_stamp (t_grades : Nat → Int32) (a1 : Int32) (a2 : Int32) : Option ((Nat → Int32)) :=
  lp_X4_stamp_2 a1 a2 fu t_grades (0 : Int32)
set_option maxHeartbeats 4000000 in
set_option maxRecDepth 100000 in
theorem c_X4_stamp (l : Launch) (G : GG) (h_t h_t_whens h_t_thens h_t_grades : Nat) (sz : Nat) (t_quarrel : Int32) (t_grades : Nat → Int32) (a1 : Int32) (a2 : Int32) (o : (Nat → Int32)) (ho : f_X4_stamp t_grades a1 a2 = some o)  : Met l yX4_stamp wsX4_stamp ({ frames := 1, cells := 0, slots := 0, locals := 21 } : Room) (pcA G [.ref h_t, .int a1, .int a2] [(h_t, .inr (4, [.ref h_t_whens, .ref h_t_thens, .ref h_t_grades, .int t_quarrel])), (h_t_grades, .inl (G.2.1.2.1, 9, .inl t_grades))] sz) (qcV Unit G (fun _ => True) (fun _ => [(h_t, .inr (4, [.ref h_t_whens, .ref h_t_thens, .ref h_t_grades, .int t_quarrel])), (h_t_grades, .inl (G.2.1.2.1, 9, .inl o))]) (va_A [(h_t, .inr (4, [.ref h_t_whens, .ref h_t_thens, .ref h_t_grades, .int t_quarrel])), (h_t_grades, .inl (G.2.1.2.1, 9, .inl t_grades))] sz)) 0 0 (va_A [(h_t, .inr (4, [.ref h_t_whens, .ref h_t_thens, .ref h_t_grades, .int t_quarrel])), (h_t_grades, .inl (G.2.1.2.1, 9, .inl t_grades))] sz) := by
  refine Met.ofW (cc := cX4_stamp) (maxL := 4) (ret := none) (by decide) rfl ?_
  intro p e s m args below meth c s₁ B hml hv
  obtain ⟨rfl, hsz, hP, hg, hD0, hc⟩ := hv
  have hx := B.exec
  have hb := B.bytes
  have hr := B.returns
  have hts := atoms_spec (ws := wsX4_stamp) B.pre
  have hown : s.vm.findClass RX4 = some m.cls := findClass_of_methodNamed B.named
  have hlocks := B.notSynchronized
  subst hsz
  have hD := hD0.self (sz := s.heap.size)
  generalize hAe : va_A [(h_t, .inr (4, [.ref h_t_whens, .ref h_t_thens, .ref h_t_grades, .int t_quarrel])), (h_t_grades, .inl (G.2.1.2.1, 9, .inl t_grades))] s.heap.size = A at hD hc ⊢
  have hA : ∀ q : Nat, s.heap.size ≤ q → A q := fun q h => by rw [← hAe]; exact Or.inr h
  have hiX4 : ∀ w ∈ wsX40, w ∈ wsX4_stamp := by decide +kernel
  have hl := lv_entry ([.ref h_t, .int a1, .int a2]) (n := 4) (Nat.le_of_ble_eq_true rfl)
  rw [lg_entry_eq]
  generalize (lg_sl ([.ref h_t, .int a1, .int a2]) ++ List.replicate (4 - (lg_sl ([.ref h_t, .int a1, .int a2])).length) Slot.unset).toArray = ls at hl ⊢
  have hl : lv_has ls 4 [(0, .ref h_t), (1, .int a1), (2, .int a2)] := hl
  have hf := ho
  have hw_2 : ∀  (n : Nat) (t_grades : Nat → Int32) (v3 : Int32), lp_X4_stamp_2 a1 a2 n t_grades v3 = some o → ∀ (H : Heap) (locs : List Loc), va_P G.1 vwCl [(h_t, .inr (4, [.ref h_t_whens, .ref h_t_thens, .ref h_t_grades, .int t_quarrel])), (h_t_grades, .inl (G.2.1.2.1, 9, .inl t_grades))] H → va_D A [(h_t, .inr (4, [.ref h_t_whens, .ref h_t_thens, .ref h_t_grades, .int t_quarrel])), (h_t_grades, .inl (G.2.1.2.1, 9, .inl t_grades))] → va_S A s.heap H locs → ∀ (ls : Array Slot), lv_has ls 4 [(0, .ref h_t), (1, .int a1), (2, .int a2), (3, .int v3)] → W p l e (headSpec wsX4_stamp ({ frames := 1, cells := 0, slots := 0, locals := 21 } : Room)).room s m ([.ref h_t, .int a1, .int a2] : List Value).toArray below meth c H locs 0 0 (MQ below (qcV Unit G (fun _ => True) (fun _ => [(h_t, .inr (4, [.ref h_t_whens, .ref h_t_thens, .ref h_t_grades, .int t_quarrel])), (h_t_grades, .inl (G.2.1.2.1, 9, .inl o))]) A) ([.ref h_t, .int a1, .int a2] : List Value).toArray s 0 0 A) (F0 m 2 ls []) := by
    intro n
    induction n with
    | zero =>
      intro t_grades v3 hf
      exact absurd hf (by rw [lp_X4_stamp_2]; intro h; cases h)
    | succ n ih =>
      intro t_grades v3 hf H locs hP hD hS ls hl
      rw [lp_X4_stamp_2] at hf
      refine lv_iload_n hx hb dX4_stamp_2 rfl (lv_at hl 3 rfl) ?_
      refine lv_aload_n hx hb dX4_stamp_3 rfl (lv_at hl 0 rfl) ?_
      refine va_get (D := G.1) (ci := 4) (v := .ref h_t_grades) (C := RX4) (T := TX4) (N := 4) hx hb hts hiX4 hown hg.1 hP 0 rfl rfl 2 (by decide) (hts (.fieldLink RX4 9 "AsARule$Rules" "grades" "[I") (by decide +kernel)) (fun _ h9 => h9) rfl dX4_stamp_4 ?_
      refine va_alen (v := (9 : Int32)) hx hb hg.1 hP 1 1 rfl rfl rfl dX4_stamp_7 ?_
      refine lv_icmp_ge (tgt := 32) hx hb dX4_stamp_8 (by decide) (fun c1 => ?_) (fun c1 => ?_)
      · have hf := it_t c1 hf
        rw [← Option.some.inj hf]
        exact rt_v (u := ()) hx hb hr hlocks hP hD trivial hS dX4_stamp_32
      · have hf := it_f c1 hf
        refine lv_iload_n hx hb dX4_stamp_11 rfl (lv_at hl 1 rfl) ?_
        refine lv_iload_n hx hb dX4_stamp_12 rfl (lv_at hl 3 rfl) ?_
        obtain ⟨o2, ho2, hf⟩ := bd_e hf
        refine af0_i (va_runSN (As := [.int a1, .int v3]) (rest := []) ⟨hx, hb, hml, hown, hts⟩ (c_X7_inSet l G H.size a1 v3 o2 ho2) ⟨va_cnB (host := "AsARule") 2 hts gX4_stamp_X7_inSet_n76 rfl rfl rfl (hg.2 _ (List.mem_of_getElem? (i := 7) rfl)) (hts (.initialized RX7) (by decide +kernel)) (by decide +kernel) ⟨Nat.le_of_ble_eq_true rfl, Nat.le_of_ble_eq_true rfl⟩, (hts (.static yX7_inSet) (by decide +kernel)), trivial⟩ (pcA_pre hg hc hP hD hS hA [] rfl rfl [.int a1, .int v3]) rfl rfl hl.1 rfl (lv_room (Nat.le_of_ble_eq_true rfl)) dX4_stamp_13 ⟨Nat.zero_le _, Nat.zero_le _⟩) hP hD hS hA (fun H locs hP hD hS => ?_)
        refine lv_if_eq (tgt := 26) hx hb dX4_stamp_16 (by decide) (fun c3 => ?_) (fun c3 => ?_)
        · have hf := it_t c3 hf
          obtain ⟨x4, ex4⟩ : ∃ y : Int32, y = (v3 + (1 : Int32)) := ⟨_, rfl⟩
          have hf := lt_n hf x4 ex4
          refine lv_iinc (v := x4) (lv' := [(3, .int x4), (0, .ref h_t), (1, .int a1), (2, .int a2)]) hx hb dX4_stamp_26 hl (k := 3) rfl (by rw [ex4]; rfl) (by decide) rfl (fun ls hl => ?_)
          refine lv_goto (tgt := 2) hx hb dX4_stamp_29 (by decide) ?_
          exact ih t_grades x4 hf _ _ hP hD hS _ (lv_sub hl [1, 2, 3, 0] rfl)
        · have hf := it_f c3 hf
          refine lv_aload_n hx hb dX4_stamp_19 rfl (lv_at hl 0 rfl) ?_
          refine va_get (D := G.1) (ci := 4) (v := .ref h_t_grades) (C := RX4) (T := TX4) (N := 4) hx hb hts hiX4 hown hg.1 hP 0 rfl rfl 2 (by decide) (hts (.fieldLink RX4 9 "AsARule$Rules" "grades" "[I") (by decide +kernel)) (fun _ h9 => h9) rfl dX4_stamp_20 ?_
          refine lv_iload_n hx hb dX4_stamp_23 rfl (lv_at hl 3 rfl) ?_
          refine lv_iload_n hx hb dX4_stamp_24 rfl (lv_at hl 2 rfl) ?_
          refine va_iast hx hb hg.1 hP hD hS 1 1 rfl rfl (ib_in (gd_t hf)) dX4_stamp_25 (fun H locs hP hD hS => ?_)
          have hf := gd_x hf
          have hP : va_P G.1 vwCl [(h_t, .inr (4, [.ref h_t_whens, .ref h_t_thens, .ref h_t_grades, .int t_quarrel])), (h_t_grades, .inl (G.2.1.2.1, 9, .inl (upd t_grades v3.toNatClampNeg a2)))] H := hP
          have hD : va_D A [(h_t, .inr (4, [.ref h_t_whens, .ref h_t_thens, .ref h_t_grades, .int t_quarrel])), (h_t_grades, .inl (G.2.1.2.1, 9, .inl (upd t_grades v3.toNatClampNeg a2)))] := hD
          obtain ⟨x5, ex5⟩ : ∃ y : Int32, y = (v3 + (1 : Int32)) := ⟨_, rfl⟩
          have hf := lt_n hf x5 ex5
          refine lv_iinc (v := x5) (lv' := [(3, .int x5), (0, .ref h_t), (1, .int a1), (2, .int a2)]) hx hb dX4_stamp_26 hl (k := 3) rfl (by rw [ex5]; rfl) (by decide) rfl (fun ls hl => ?_)
          refine lv_goto (tgt := 2) hx hb dX4_stamp_29 (by decide) ?_
          exact ih (upd t_grades v3.toNatClampNeg a2) x5 hf _ _ hP hD hS _ (lv_sub hl [1, 2, 3, 0] rfl)
  unfold f_X4_stamp at hf
  refine en (fun H locs hP hD hS => ?_) hP hD
  refine lv_iconst (v := (0 : Int32)) hx hb dX4_stamp_0 (by decide) ?_
  refine lv_istore_n (lv' := [(3, .int (0 : Int32)), (0, .ref h_t), (1, .int a1), (2, .int a2)]) hx hb dX4_stamp_1 rfl hl (by decide) rfl (fun ls hl => ?_)
  exact hw_2 fu t_grades (0 : Int32) hf _ _ hP hD hS _ (lv_sub hl [1, 2, 3, 0] rfl)
-- method X4_sort
def jn_X4_sort_55 (t_whens_size : Int32) (t_whens_kept : Nat → Int64) (t_thens_size : Int32) (t_thens_kept : Nat → Int64) (a1 : Int64) (t_quarrel : Int32) (t_grades : Nat → Int32) (v3 : Int32) : Option (Int32 × (Nat → Int32)) :=
  bd (f_X4_stamp t_grades v3 (-9 : Int32)) (fun o1 => if v3 = (0 : Int32) then some ((0 : Int32), o1) else some ((1 : Int32), o1))
def lp_X4_sort_12 (t_whens_size : Int32) (t_whens_kept : Nat → Int64) (t_thens_size : Int32) (t_thens_kept : Nat → Int64) (a1 : Int64) (t_quarrel : Int32) : Nat → (Nat → Int32) → Int32 → Int32 → Option (Int32 × (Nat → Int32))
  | 0, _, _, _ => none
  | n + 1, t_grades, v3, v4 => if (9 : Int32) ≤ v4 then jn_X4_sort_55 t_whens_size t_whens_kept t_thens_size t_thens_kept a1 t_quarrel t_grades v3 else if v3 = (0 : Int32) then jn_X4_sort_55 t_whens_size t_whens_kept t_thens_size t_thens_kept a1 t_quarrel t_grades v3 else bd (f_X4_borneBy t_whens_size t_whens_kept t_thens_size t_thens_kept v3 a1) (fun o5 => bd (f_X4_stamp t_grades o5 v4) (fun o6 => lt (v3 &&& (o5 ^^^ (-1 : Int32))) (fun x7 => lt (v4 + (1 : Int32)) (fun x8 => lp_X4_sort_12 t_whens_size t_whens_kept t_thens_size t_thens_kept a1 t_quarrel n o6 x7 x8))))
def f_X4_sort (t_quarrel : Int32) (t_whens_size : Int32) (t_whens_kept : Nat → Int64) (t_thens_size : Int32) (t_thens_kept : Nat → Int64) (t_grades : Nat → Int32) (a1 : Int64) : Option (Int32 × (Nat → Int32)) :=
  bd (f_X4_size t_whens_size) (fun o9 => lt (((1 : Int32) <<< (o9 &&& 31)) - (1 : Int32)) (fun x10 => lp_X4_sort_12 t_whens_size t_whens_kept t_thens_size t_thens_kept a1 t_quarrel fu t_grades x10 (0 : Int32)))
set_option maxHeartbeats 4000000 in
set_option maxRecDepth 100000 in
theorem c_X4_sort (l : Launch) (G : GG) (h_t h_t_whens h_t_thens h_t_grades h_t_whens_kept h_t_thens_kept : Nat) (sz : Nat) (t_quarrel : Int32) (t_whens_most : Int32) (t_whens_size : Int32) (t_whens_kept : Nat → Int64) (t_thens_most : Int32) (t_thens_size : Int32) (t_thens_kept : Nat → Int64) (t_grades : Nat → Int32) (a1 : Int64) (o : Int32 × (Nat → Int32)) (ho : f_X4_sort t_quarrel t_whens_size t_whens_kept t_thens_size t_thens_kept t_grades a1 = some o)  : Met l yX4_sort wsX4_sort ({ frames := 3, cells := 0, slots := 0, locals := 69 } : Room) (pcA G [.ref h_t, .long a1] [(h_t, .inr (4, [.ref h_t_whens, .ref h_t_thens, .ref h_t_grades, .int t_quarrel])), (h_t_whens, .inr (5, [.ref h_t_whens_kept, .int t_whens_most, .int t_whens_size])), (h_t_whens_kept, .inl (G.2.1.2.2, 9, .inr (.inl t_whens_kept))), (h_t_thens, .inr (5, [.ref h_t_thens_kept, .int t_thens_most, .int t_thens_size])), (h_t_thens_kept, .inl (G.2.1.2.2, 9, .inr (.inl t_thens_kept))), (h_t_grades, .inl (G.2.1.2.1, 9, .inl t_grades))] sz) (qcV Unit G (fun _ => True) (fun _ => [(h_t, .inr (4, [.ref h_t_whens, .ref h_t_thens, .ref h_t_grades, .int o.1])), (h_t_whens, .inr (5, [.ref h_t_whens_kept, .int t_whens_most, .int t_whens_size])), (h_t_whens_kept, .inl (G.2.1.2.2, 9, .inr (.inl t_whens_kept))), (h_t_thens, .inr (5, [.ref h_t_thens_kept, .int t_thens_most, .int t_thens_size])), (h_t_thens_kept, .inl (G.2.1.2.2, 9, .inr (.inl t_thens_kept))), (h_t_grades, .inl (G.2.1.2.1, 9, .inl o.2))]) (va_A [(h_t, .inr (4, [.ref h_t_whens, .ref h_t_thens, .ref h_t_grades, .int t_quarrel])), (h_t_whens, .inr (5, [.ref h_t_whens_kept, .int t_whens_most, .int t_whens_size])), (h_t_whens_kept, .inl (G.2.1.2.2, 9, .inr (.inl t_whens_kept))), (h_t_thens, .inr (5, [.ref h_t_thens_kept, .int t_thens_most, .int t_thens_size])), (h_t_thens_kept, .inl (G.2.1.2.2, 9, .inr (.inl t_thens_kept))), (h_t_grades, .inl (G.2.1.2.1, 9, .inl t_grades))] sz)) 0 0 (va_A [(h_t, .inr (4, [.ref h_t_whens, .ref h_t_thens, .ref h_t_grades, .int t_quarrel])), (h_t_whens, .inr (5, [.ref h_t_whens_kept, .int t_whens_most, .int t_whens_size])), (h_t_whens_kept, .inl (G.2.1.2.2, 9, .inr (.inl t_whens_kept))), (h_t_thens, .inr (5, [.ref h_t_thens_kept, .int t_thens_most, .int t_thens_size])), (h_t_thens_kept, .inl (G.2.1.2.2, 9, .inr (.inl t_thens_kept))), (h_t_grades, .inl (G.2.1.2.1, 9, .inl t_grades))] sz) := by
  refine Met.ofW (cc := cX4_sort) (maxL := 6) (ret := none) (by decide) rfl ?_
  intro p e s m args below meth c s₁ B hml hv
  obtain ⟨rfl, hsz, hP, hg, hD0, hc⟩ := hv
  have hx := B.exec
  have hb := B.bytes
  have hr := B.returns
  have hts := atoms_spec (ws := wsX4_sort) B.pre
  have hown : s.vm.findClass RX4 = some m.cls := findClass_of_methodNamed B.named
  have hlocks := B.notSynchronized
  subst hsz
  have hD := hD0.self (sz := s.heap.size)
  generalize hAe : va_A [(h_t, .inr (4, [.ref h_t_whens, .ref h_t_thens, .ref h_t_grades, .int t_quarrel])), (h_t_whens, .inr (5, [.ref h_t_whens_kept, .int t_whens_most, .int t_whens_size])), (h_t_whens_kept, .inl (G.2.1.2.2, 9, .inr (.inl t_whens_kept))), (h_t_thens, .inr (5, [.ref h_t_thens_kept, .int t_thens_most, .int t_thens_size])), (h_t_thens_kept, .inl (G.2.1.2.2, 9, .inr (.inl t_thens_kept))), (h_t_grades, .inl (G.2.1.2.1, 9, .inl t_grades))] s.heap.size = A at hD hc ⊢
  have hA : ∀ q : Nat, s.heap.size ≤ q → A q := fun q h => by rw [← hAe]; exact Or.inr h
  have hiX4 : ∀ w ∈ wsX40, w ∈ wsX4_sort := by decide +kernel
  have hl := lv_entry ([.ref h_t, .long a1]) (n := 6) (Nat.le_of_ble_eq_true rfl)
  rw [lg_entry_eq]
  generalize (lg_sl ([.ref h_t, .long a1]) ++ List.replicate (6 - (lg_sl ([.ref h_t, .long a1])).length) Slot.unset).toArray = ls at hl ⊢
  have hl : lv_has ls 6 [(0, .ref h_t), (1, .long a1)] := hl
  have hf := ho
  have hw_55 : ∀ (t_quarrel : Int32) (t_grades : Nat → Int32) (v3 : Int32), jn_X4_sort_55 t_whens_size t_whens_kept t_thens_size t_thens_kept a1 t_quarrel t_grades v3 = some o → ∀ (H : Heap) (locs : List Loc), va_P G.1 vwCl [(h_t, .inr (4, [.ref h_t_whens, .ref h_t_thens, .ref h_t_grades, .int t_quarrel])), (h_t_whens, .inr (5, [.ref h_t_whens_kept, .int t_whens_most, .int t_whens_size])), (h_t_whens_kept, .inl (G.2.1.2.2, 9, .inr (.inl t_whens_kept))), (h_t_thens, .inr (5, [.ref h_t_thens_kept, .int t_thens_most, .int t_thens_size])), (h_t_thens_kept, .inl (G.2.1.2.2, 9, .inr (.inl t_thens_kept))), (h_t_grades, .inl (G.2.1.2.1, 9, .inl t_grades))] H → va_D A [(h_t, .inr (4, [.ref h_t_whens, .ref h_t_thens, .ref h_t_grades, .int t_quarrel])), (h_t_whens, .inr (5, [.ref h_t_whens_kept, .int t_whens_most, .int t_whens_size])), (h_t_whens_kept, .inl (G.2.1.2.2, 9, .inr (.inl t_whens_kept))), (h_t_thens, .inr (5, [.ref h_t_thens_kept, .int t_thens_most, .int t_thens_size])), (h_t_thens_kept, .inl (G.2.1.2.2, 9, .inr (.inl t_thens_kept))), (h_t_grades, .inl (G.2.1.2.1, 9, .inl t_grades))] → va_S A s.heap H locs → ∀ (ls : Array Slot), lv_has ls 6 [(0, .ref h_t), (3, .int v3)] → W p l e (headSpec wsX4_sort ({ frames := 3, cells := 0, slots := 0, locals := 69 } : Room)).room s m ([.ref h_t, .long a1] : List Value).toArray below meth c H locs 0 0 (MQ below (qcV Unit G (fun _ => True) (fun _ => [(h_t, .inr (4, [.ref h_t_whens, .ref h_t_thens, .ref h_t_grades, .int o.1])), (h_t_whens, .inr (5, [.ref h_t_whens_kept, .int t_whens_most, .int t_whens_size])), (h_t_whens_kept, .inl (G.2.1.2.2, 9, .inr (.inl t_whens_kept))), (h_t_thens, .inr (5, [.ref h_t_thens_kept, .int t_thens_most, .int t_thens_size])), (h_t_thens_kept, .inl (G.2.1.2.2, 9, .inr (.inl t_thens_kept))), (h_t_grades, .inl (G.2.1.2.1, 9, .inl o.2))]) A) ([.ref h_t, .long a1] : List Value).toArray s 0 0 A) (F0 m 55 ls []) := by
    intro t_quarrel t_grades v3 hf H locs hP hD hS ls hl
    unfold jn_X4_sort_55 at hf
    refine lv_aload_n hx hb dX4_sort_55 rfl (lv_at hl 0 rfl) ?_
    refine lv_iload_n hx hb dX4_sort_56 rfl (lv_at hl 1 rfl) ?_
    refine lv_bipush (v := (-9 : Int32)) hx hb dX4_sort_57 (by decide) ?_
    obtain ⟨o1, ho1, hf⟩ := bd_e hf
    refine af_v (wr := [(h_t_whens, .inr (5, [.ref h_t_whens_kept, .int t_whens_most, .int t_whens_size])), (h_t_whens_kept, .inl (G.2.1.2.2, 9, .inr (.inl t_whens_kept))), (h_t_thens, .inr (5, [.ref h_t_thens_kept, .int t_thens_most, .int t_thens_size])), (h_t_thens_kept, .inl (G.2.1.2.2, 9, .inr (.inl t_thens_kept)))]) (va_runV (As := [.int v3, .int (-9 : Int32)]) (rest := []) ⟨hx, hb, hml, hown, hts⟩ (c_X4_stamp l G h_t h_t_whens h_t_thens h_t_grades H.size t_quarrel t_grades v3 (-9 : Int32) o1 ho1) (cwV 2 hts gX4_sort_X4_stamp rfl rfl rfl (by decide +kernel) ⟨Nat.le_of_ble_eq_true rfl, Nat.le_of_ble_eq_true rfl⟩) (pcA_preV hg hc hP hD hS hA [0, 5] rfl (by decide) (q0 := 0) (ci := 4) rfl rfl rfl) rfl rfl hl.1 rfl (lv_room (Nat.le_of_ble_eq_true rfl)) dX4_sort_59 ⟨Nat.zero_le _, Nat.zero_le _⟩) hP hD hS hA [0, 5] [1, 2, 3, 4] rfl rfl (by decide) (by decide) (fun _ H locs _ hP hD hS => ?_)
    have hP : va_P G.1 vwCl [(h_t, .inr (4, [.ref h_t_whens, .ref h_t_thens, .ref h_t_grades, .int t_quarrel])), (h_t_whens, .inr (5, [.ref h_t_whens_kept, .int t_whens_most, .int t_whens_size])), (h_t_whens_kept, .inl (G.2.1.2.2, 9, .inr (.inl t_whens_kept))), (h_t_thens, .inr (5, [.ref h_t_thens_kept, .int t_thens_most, .int t_thens_size])), (h_t_thens_kept, .inl (G.2.1.2.2, 9, .inr (.inl t_thens_kept))), (h_t_grades, .inl (G.2.1.2.1, 9, .inl o1))] H := hP.sub [4, 0, 1, 2, 3, 5] rfl
    have hD : va_D A [(h_t, .inr (4, [.ref h_t_whens, .ref h_t_thens, .ref h_t_grades, .int t_quarrel])), (h_t_whens, .inr (5, [.ref h_t_whens_kept, .int t_whens_most, .int t_whens_size])), (h_t_whens_kept, .inl (G.2.1.2.2, 9, .inr (.inl t_whens_kept))), (h_t_thens, .inr (5, [.ref h_t_thens_kept, .int t_thens_most, .int t_thens_size])), (h_t_thens_kept, .inl (G.2.1.2.2, 9, .inr (.inl t_thens_kept))), (h_t_grades, .inl (G.2.1.2.1, 9, .inl o1))] := hD.sub [4, 0, 1, 2, 3, 5] (by decide) rfl
    refine lv_aload_n hx hb dX4_sort_62 rfl (lv_at hl 0 rfl) ?_
    refine lv_iload_n hx hb dX4_sort_63 rfl (lv_at hl 1 rfl) ?_
    refine lv_if_eq (tgt := 71) hx hb dX4_sort_64 (by decide) (fun c2 => ?_) (fun c2 => ?_)
    · have hf := it_t c2 hf
      refine lv_iconst (v := (0 : Int32)) hx hb dX4_sort_71 (by decide) ?_
      refine va_put (D := G.1) (ci := 4) (v := .int (0 : Int32)) (ty := .boolean) (C := RX4) (T := TX4) (N := 4) hx hb hts hiX4 tyX4 tyX4_ok nmX4 hown hg.1 hP hD hS 0 rfl rfl 3 (by decide) (hts (.fieldLink RX4 15 "AsARule$Rules" "quarrel" "Z") (by decide +kernel)) (fun _ h9 => h9) rfl (by decide +kernel) rfl rfl (Nat.le_of_ble_eq_true rfl) dX4_sort_72 (fun H locs hP hD hS => ?_)
      have hP : va_P G.1 vwCl [(h_t, .inr (4, [.ref h_t_whens, .ref h_t_thens, .ref h_t_grades, .int (0 : Int32)])), (h_t_whens, .inr (5, [.ref h_t_whens_kept, .int t_whens_most, .int t_whens_size])), (h_t_whens_kept, .inl (G.2.1.2.2, 9, .inr (.inl t_whens_kept))), (h_t_thens, .inr (5, [.ref h_t_thens_kept, .int t_thens_most, .int t_thens_size])), (h_t_thens_kept, .inl (G.2.1.2.2, 9, .inr (.inl t_thens_kept))), (h_t_grades, .inl (G.2.1.2.1, 9, .inl o1))] H := hP
      have hD : va_D A [(h_t, .inr (4, [.ref h_t_whens, .ref h_t_thens, .ref h_t_grades, .int (0 : Int32)])), (h_t_whens, .inr (5, [.ref h_t_whens_kept, .int t_whens_most, .int t_whens_size])), (h_t_whens_kept, .inl (G.2.1.2.2, 9, .inr (.inl t_whens_kept))), (h_t_thens, .inr (5, [.ref h_t_thens_kept, .int t_thens_most, .int t_thens_size])), (h_t_thens_kept, .inl (G.2.1.2.2, 9, .inr (.inl t_thens_kept))), (h_t_grades, .inl (G.2.1.2.1, 9, .inl o1))] := hD
      rw [← Option.some.inj hf]
      exact rt_v (u := ()) hx hb hr hlocks hP hD trivial hS dX4_sort_75
    · have hf := it_f c2 hf
      refine lv_iconst (v := (1 : Int32)) hx hb dX4_sort_67 (by decide) ?_
      refine lv_goto (tgt := 72) hx hb dX4_sort_68 (by decide) ?_
      refine va_put (D := G.1) (ci := 4) (v := .int (1 : Int32)) (ty := .boolean) (C := RX4) (T := TX4) (N := 4) hx hb hts hiX4 tyX4 tyX4_ok nmX4 hown hg.1 hP hD hS 0 rfl rfl 3 (by decide) (hts (.fieldLink RX4 15 "AsARule$Rules" "quarrel" "Z") (by decide +kernel)) (fun _ h9 => h9) rfl (by decide +kernel) rfl rfl (Nat.le_of_ble_eq_true rfl) dX4_sort_72 (fun H locs hP hD hS => ?_)
      have hP : va_P G.1 vwCl [(h_t, .inr (4, [.ref h_t_whens, .ref h_t_thens, .ref h_t_grades, .int (1 : Int32)])), (h_t_whens, .inr (5, [.ref h_t_whens_kept, .int t_whens_most, .int t_whens_size])), (h_t_whens_kept, .inl (G.2.1.2.2, 9, .inr (.inl t_whens_kept))), (h_t_thens, .inr (5, [.ref h_t_thens_kept, .int t_thens_most, .int t_thens_size])), (h_t_thens_kept, .inl (G.2.1.2.2, 9, .inr (.inl t_thens_kept))), (h_t_grades, .inl (G.2.1.2.1, 9, .inl o1))] H := hP
      have hD : va_D A [(h_t, .inr (4, [.ref h_t_whens, .ref h_t_thens, .ref h_t_grades, .int (1 : Int32)])), (h_t_whens, .inr (5, [.ref h_t_whens_kept, .int t_whens_most, .int t_whens_size])), (h_t_whens_kept, .inl (G.2.1.2.2, 9, .inr (.inl t_whens_kept))), (h_t_thens, .inr (5, [.ref h_t_thens_kept, .int t_thens_most, .int t_thens_size])), (h_t_thens_kept, .inl (G.2.1.2.2, 9, .inr (.inl t_thens_kept))), (h_t_grades, .inl (G.2.1.2.1, 9, .inl o1))] := hD
      rw [← Option.some.inj hf]
      exact rt_v (u := ()) hx hb hr hlocks hP hD trivial hS dX4_sort_75
  have hw_12 : ∀ (t_quarrel : Int32) (n : Nat) (t_grades : Nat → Int32) (v3 : Int32) (v4 : Int32), lp_X4_sort_12 t_whens_size t_whens_kept t_thens_size t_thens_kept a1 t_quarrel n t_grades v3 v4 = some o → ∀ (H : Heap) (locs : List Loc), va_P G.1 vwCl [(h_t, .inr (4, [.ref h_t_whens, .ref h_t_thens, .ref h_t_grades, .int t_quarrel])), (h_t_whens, .inr (5, [.ref h_t_whens_kept, .int t_whens_most, .int t_whens_size])), (h_t_whens_kept, .inl (G.2.1.2.2, 9, .inr (.inl t_whens_kept))), (h_t_thens, .inr (5, [.ref h_t_thens_kept, .int t_thens_most, .int t_thens_size])), (h_t_thens_kept, .inl (G.2.1.2.2, 9, .inr (.inl t_thens_kept))), (h_t_grades, .inl (G.2.1.2.1, 9, .inl t_grades))] H → va_D A [(h_t, .inr (4, [.ref h_t_whens, .ref h_t_thens, .ref h_t_grades, .int t_quarrel])), (h_t_whens, .inr (5, [.ref h_t_whens_kept, .int t_whens_most, .int t_whens_size])), (h_t_whens_kept, .inl (G.2.1.2.2, 9, .inr (.inl t_whens_kept))), (h_t_thens, .inr (5, [.ref h_t_thens_kept, .int t_thens_most, .int t_thens_size])), (h_t_thens_kept, .inl (G.2.1.2.2, 9, .inr (.inl t_thens_kept))), (h_t_grades, .inl (G.2.1.2.1, 9, .inl t_grades))] → va_S A s.heap H locs → ∀ (ls : Array Slot), lv_has ls 6 [(0, .ref h_t), (1, .long a1), (3, .int v3), (4, .int v4)] → W p l e (headSpec wsX4_sort ({ frames := 3, cells := 0, slots := 0, locals := 69 } : Room)).room s m ([.ref h_t, .long a1] : List Value).toArray below meth c H locs 0 0 (MQ below (qcV Unit G (fun _ => True) (fun _ => [(h_t, .inr (4, [.ref h_t_whens, .ref h_t_thens, .ref h_t_grades, .int o.1])), (h_t_whens, .inr (5, [.ref h_t_whens_kept, .int t_whens_most, .int t_whens_size])), (h_t_whens_kept, .inl (G.2.1.2.2, 9, .inr (.inl t_whens_kept))), (h_t_thens, .inr (5, [.ref h_t_thens_kept, .int t_thens_most, .int t_thens_size])), (h_t_thens_kept, .inl (G.2.1.2.2, 9, .inr (.inl t_thens_kept))), (h_t_grades, .inl (G.2.1.2.1, 9, .inl o.2))]) A) ([.ref h_t, .long a1] : List Value).toArray s 0 0 A) (F0 m 12 ls []) := by
    intro t_quarrel
    intro n
    induction n with
    | zero =>
      intro t_grades v3 v4 hf
      exact absurd hf (by rw [lp_X4_sort_12]; intro h; cases h)
    | succ n ih =>
      intro t_grades v3 v4 hf H locs hP hD hS ls hl
      rw [lp_X4_sort_12] at hf
      refine lv_iload hx hb dX4_sort_12 (lv_at hl 3 rfl) ?_
      refine lv_aload_n hx hb dX4_sort_14 rfl (lv_at hl 0 rfl) ?_
      refine va_get (D := G.1) (ci := 4) (v := .ref h_t_grades) (C := RX4) (T := TX4) (N := 4) hx hb hts hiX4 hown hg.1 hP 0 rfl rfl 2 (by decide) (hts (.fieldLink RX4 9 "AsARule$Rules" "grades" "[I") (by decide +kernel)) (fun _ h9 => h9) rfl dX4_sort_15 ?_
      refine va_alen (v := (9 : Int32)) hx hb hg.1 hP 5 1 rfl rfl rfl dX4_sort_18 ?_
      refine lv_icmp_ge (tgt := 55) hx hb dX4_sort_19 (by decide) (fun c3 => ?_) (fun c3 => ?_)
      · have hf := it_t c3 hf
        exact hw_55 t_quarrel t_grades v3 hf _ _ hP hD hS _ (lv_sub hl [0, 2] rfl)
      · have hf := it_f c3 hf
        refine lv_iload_n hx hb dX4_sort_22 rfl (lv_at hl 2 rfl) ?_
        refine lv_if_eq (tgt := 55) hx hb dX4_sort_23 (by decide) (fun c4 => ?_) (fun c4 => ?_)
        · have hf := it_t c4 hf
          exact hw_55 t_quarrel t_grades v3 hf _ _ hP hD hS _ (lv_sub hl [0, 2] rfl)
        · have hf := it_f c4 hf
          refine lv_aload_n hx hb dX4_sort_26 rfl (lv_at hl 0 rfl) ?_
          refine lv_iload_n hx hb dX4_sort_27 rfl (lv_at hl 2 rfl) ?_
          refine lv_lload_n hx hb dX4_sort_28 rfl (lv_at hl 1 rfl) ?_
          obtain ⟨o5, ho5, hf⟩ := bd_e hf
          refine af_i (wr := [(h_t_grades, .inl (G.2.1.2.1, 9, .inl t_grades))]) (va_runV (As := [.int v3, .long a1]) (rest := []) ⟨hx, hb, hml, hown, hts⟩ (c_X4_borneBy l G h_t h_t_whens h_t_thens h_t_grades h_t_whens_kept h_t_thens_kept H.size t_quarrel t_whens_most t_whens_size t_whens_kept t_thens_most t_thens_size t_thens_kept v3 a1 o5 ho5) (cwV 2 hts gX4_sort_X4_borneBy rfl rfl rfl (by decide +kernel) ⟨Nat.le_of_ble_eq_true rfl, Nat.le_of_ble_eq_true rfl⟩) (pcA_preV hg hc hP hD hS hA [0, 1, 2, 3, 4] rfl (by decide) (q0 := 0) (ci := 4) rfl rfl rfl) rfl rfl hl.1 rfl (lv_room (Nat.le_of_ble_eq_true rfl)) dX4_sort_29 ⟨Nat.zero_le _, Nat.zero_le _⟩) hP hD hS hA [0, 1, 2, 3, 4] [5] rfl rfl (by decide) (by decide) (fun _ H locs _ hP hD hS => ?_)
          have hP : va_P G.1 vwCl [(h_t, .inr (4, [.ref h_t_whens, .ref h_t_thens, .ref h_t_grades, .int t_quarrel])), (h_t_whens, .inr (5, [.ref h_t_whens_kept, .int t_whens_most, .int t_whens_size])), (h_t_whens_kept, .inl (G.2.1.2.2, 9, .inr (.inl t_whens_kept))), (h_t_thens, .inr (5, [.ref h_t_thens_kept, .int t_thens_most, .int t_thens_size])), (h_t_thens_kept, .inl (G.2.1.2.2, 9, .inr (.inl t_thens_kept))), (h_t_grades, .inl (G.2.1.2.1, 9, .inl t_grades))] H := hP.sub [1, 2, 3, 4, 5, 0] rfl
          have hD : va_D A [(h_t, .inr (4, [.ref h_t_whens, .ref h_t_thens, .ref h_t_grades, .int t_quarrel])), (h_t_whens, .inr (5, [.ref h_t_whens_kept, .int t_whens_most, .int t_whens_size])), (h_t_whens_kept, .inl (G.2.1.2.2, 9, .inr (.inl t_whens_kept))), (h_t_thens, .inr (5, [.ref h_t_thens_kept, .int t_thens_most, .int t_thens_size])), (h_t_thens_kept, .inl (G.2.1.2.2, 9, .inr (.inl t_thens_kept))), (h_t_grades, .inl (G.2.1.2.1, 9, .inl t_grades))] := hD.sub [1, 2, 3, 4, 5, 0] (by decide) rfl
          refine lv_istore (lv' := [(5, .int o5), (0, .ref h_t), (1, .long a1), (3, .int v3), (4, .int v4)]) hx hb dX4_sort_32 hl (by decide) rfl (fun ls hl => ?_)
          refine lv_aload_n hx hb dX4_sort_34 rfl (lv_at hl 1 rfl) ?_
          refine lv_iload hx hb dX4_sort_35 (lv_at hl 0 rfl) ?_
          refine lv_iload hx hb dX4_sort_37 (lv_at hl 4 rfl) ?_
          obtain ⟨o6, ho6, hf⟩ := bd_e hf
          refine af_v (wr := [(h_t_whens, .inr (5, [.ref h_t_whens_kept, .int t_whens_most, .int t_whens_size])), (h_t_whens_kept, .inl (G.2.1.2.2, 9, .inr (.inl t_whens_kept))), (h_t_thens, .inr (5, [.ref h_t_thens_kept, .int t_thens_most, .int t_thens_size])), (h_t_thens_kept, .inl (G.2.1.2.2, 9, .inr (.inl t_thens_kept)))]) (va_runV (As := [.int o5, .int v4]) (rest := []) ⟨hx, hb, hml, hown, hts⟩ (c_X4_stamp l G h_t h_t_whens h_t_thens h_t_grades H.size t_quarrel t_grades o5 v4 o6 ho6) (cwV 2 hts gX4_sort_X4_stamp rfl rfl rfl (by decide +kernel) ⟨Nat.le_of_ble_eq_true rfl, Nat.le_of_ble_eq_true rfl⟩) (pcA_preV hg hc hP hD hS hA [0, 5] rfl (by decide) (q0 := 0) (ci := 4) rfl rfl rfl) rfl rfl hl.1 rfl (lv_room (Nat.le_of_ble_eq_true rfl)) dX4_sort_39 ⟨Nat.zero_le _, Nat.zero_le _⟩) hP hD hS hA [0, 5] [1, 2, 3, 4] rfl rfl (by decide) (by decide) (fun _ H locs _ hP hD hS => ?_)
          have hP : va_P G.1 vwCl [(h_t, .inr (4, [.ref h_t_whens, .ref h_t_thens, .ref h_t_grades, .int t_quarrel])), (h_t_whens, .inr (5, [.ref h_t_whens_kept, .int t_whens_most, .int t_whens_size])), (h_t_whens_kept, .inl (G.2.1.2.2, 9, .inr (.inl t_whens_kept))), (h_t_thens, .inr (5, [.ref h_t_thens_kept, .int t_thens_most, .int t_thens_size])), (h_t_thens_kept, .inl (G.2.1.2.2, 9, .inr (.inl t_thens_kept))), (h_t_grades, .inl (G.2.1.2.1, 9, .inl o6))] H := hP.sub [4, 0, 1, 2, 3, 5] rfl
          have hD : va_D A [(h_t, .inr (4, [.ref h_t_whens, .ref h_t_thens, .ref h_t_grades, .int t_quarrel])), (h_t_whens, .inr (5, [.ref h_t_whens_kept, .int t_whens_most, .int t_whens_size])), (h_t_whens_kept, .inl (G.2.1.2.2, 9, .inr (.inl t_whens_kept))), (h_t_thens, .inr (5, [.ref h_t_thens_kept, .int t_thens_most, .int t_thens_size])), (h_t_thens_kept, .inl (G.2.1.2.2, 9, .inr (.inl t_thens_kept))), (h_t_grades, .inl (G.2.1.2.1, 9, .inl o6))] := hD.sub [4, 0, 1, 2, 3, 5] (by decide) rfl
          refine lv_iload_n hx hb dX4_sort_42 rfl (lv_at hl 3 rfl) ?_
          refine lv_iload hx hb dX4_sort_43 (lv_at hl 0 rfl) ?_
          refine lv_iconst (v := (-1 : Int32)) hx hb dX4_sort_45 (by decide) ?_
          refine lv_ixor hx hb dX4_sort_46 ?_
          refine lv_iand hx hb dX4_sort_47 ?_
          refine lv_topi (fun x7 ex7 => ?_)
          have hf := lt_n hf x7 ex7
          refine lv_istore_n (lv' := [(3, .int x7), (5, .int o5), (0, .ref h_t), (1, .long a1), (4, .int v4)]) hx hb dX4_sort_48 rfl hl (by decide) rfl (fun ls hl => ?_)
          obtain ⟨x8, ex8⟩ : ∃ y : Int32, y = (v4 + (1 : Int32)) := ⟨_, rfl⟩
          have hf := lt_n hf x8 ex8
          refine lv_iinc (v := x8) (lv' := [(4, .int x8), (3, .int x7), (5, .int o5), (0, .ref h_t), (1, .long a1)]) hx hb dX4_sort_49 hl (k := 4) rfl (by rw [ex8]; rfl) (by decide) rfl (fun ls hl => ?_)
          refine lv_goto (tgt := 12) hx hb dX4_sort_52 (by decide) ?_
          exact ih o6 x7 x8 hf _ _ hP hD hS _ (lv_sub hl [3, 4, 1, 0] rfl)
  unfold f_X4_sort at hf
  refine en (fun H locs hP hD hS => ?_) hP hD
  refine lv_iconst (v := (1 : Int32)) hx hb dX4_sort_0 (by decide) ?_
  refine lv_aload_n hx hb dX4_sort_1 rfl (lv_at hl 0 rfl) ?_
  obtain ⟨o9, ho9, hf⟩ := bd_e hf
  refine af_i (wr := [(h_t_whens_kept, .inl (G.2.1.2.2, 9, .inr (.inl t_whens_kept))), (h_t_thens, .inr (5, [.ref h_t_thens_kept, .int t_thens_most, .int t_thens_size])), (h_t_thens_kept, .inl (G.2.1.2.2, 9, .inr (.inl t_thens_kept))), (h_t_grades, .inl (G.2.1.2.1, 9, .inl t_grades))]) (va_runV (As := []) (rest := [.int (1 : Int32)]) ⟨hx, hb, hml, hown, hts⟩ (c_X4_size l G h_t h_t_whens h_t_thens h_t_grades h_t_whens_kept H.size t_quarrel t_whens_most t_whens_size o9 ho9) (cwV 0 hts gX4_sort_X4_size rfl rfl rfl (by decide +kernel) ⟨Nat.le_of_ble_eq_true rfl, Nat.le_of_ble_eq_true rfl⟩) (pcA_preV hg hc hP hD hS hA [0, 1] rfl (by decide) (q0 := 0) (ci := 4) rfl rfl rfl) rfl rfl hl.1 rfl (lv_room (Nat.le_of_ble_eq_true rfl)) dX4_sort_2 ⟨Nat.zero_le _, Nat.zero_le _⟩) hP hD hS hA [0, 1] [2, 3, 4, 5] rfl rfl (by decide) (by decide) (fun _ H locs _ hP hD hS => ?_)
  have hP : va_P G.1 vwCl [(h_t, .inr (4, [.ref h_t_whens, .ref h_t_thens, .ref h_t_grades, .int t_quarrel])), (h_t_whens, .inr (5, [.ref h_t_whens_kept, .int t_whens_most, .int t_whens_size])), (h_t_whens_kept, .inl (G.2.1.2.2, 9, .inr (.inl t_whens_kept))), (h_t_thens, .inr (5, [.ref h_t_thens_kept, .int t_thens_most, .int t_thens_size])), (h_t_thens_kept, .inl (G.2.1.2.2, 9, .inr (.inl t_thens_kept))), (h_t_grades, .inl (G.2.1.2.1, 9, .inl t_grades))] H := hP.sub [4, 5, 0, 1, 2, 3] rfl
  have hD : va_D A [(h_t, .inr (4, [.ref h_t_whens, .ref h_t_thens, .ref h_t_grades, .int t_quarrel])), (h_t_whens, .inr (5, [.ref h_t_whens_kept, .int t_whens_most, .int t_whens_size])), (h_t_whens_kept, .inl (G.2.1.2.2, 9, .inr (.inl t_whens_kept))), (h_t_thens, .inr (5, [.ref h_t_thens_kept, .int t_thens_most, .int t_thens_size])), (h_t_thens_kept, .inl (G.2.1.2.2, 9, .inr (.inl t_thens_kept))), (h_t_grades, .inl (G.2.1.2.1, 9, .inl t_grades))] := hD.sub [4, 5, 0, 1, 2, 3] (by decide) rfl
  refine lv_ishl hx hb dX4_sort_5 ?_
  refine lv_iconst (v := (1 : Int32)) hx hb dX4_sort_6 (by decide) ?_
  refine lv_isub hx hb dX4_sort_7 ?_
  refine lv_topi (fun x10 ex10 => ?_)
  have hf := lt_n hf x10 ex10
  refine lv_istore_n (lv' := [(3, .int x10), (0, .ref h_t), (1, .long a1)]) hx hb dX4_sort_8 rfl hl (by decide) rfl (fun ls hl => ?_)
  refine lv_iconst (v := (0 : Int32)) hx hb dX4_sort_9 (by decide) ?_
  refine lv_istore (lv' := [(4, .int (0 : Int32)), (3, .int x10), (0, .ref h_t), (1, .long a1)]) hx hb dX4_sort_10 hl (by decide) rfl (fun ls hl => ?_)
  exact hw_12 t_quarrel fu t_grades x10 (0 : Int32) hf _ _ hP hD hS _ (lv_sub hl [2, 3, 1, 0] rfl)
-- method X4_gradeAt
def f_X4_gradeAt (t_grades : Nat → Int32) (a1 : Int32) : Option (Int32) :=
  if a1 < (0 : Int32) then some ((-9 : Int32)) else if (9 : Int32) ≤ a1 then some ((-9 : Int32)) else gd (ib a1 9) (some ((t_grades a1.toNatClampNeg)))
set_option maxHeartbeats 4000000 in
set_option maxRecDepth 100000 in
theorem c_X4_gradeAt (l : Launch) (G : GG) (h_t h_t_whens h_t_thens h_t_grades : Nat) (sz : Nat) (t_quarrel : Int32) (t_grades : Nat → Int32) (a1 : Int32) (o : Int32) (ho : f_X4_gradeAt t_grades a1 = some o)  : Met l yX4_gradeAt wsX4_gradeAt ({ frames := 0, cells := 0, slots := 0, locals := 0 } : Room) (pcA G [.ref h_t, .int a1] [(h_t, .inr (4, [.ref h_t_whens, .ref h_t_thens, .ref h_t_grades, .int t_quarrel])), (h_t_grades, .inl (G.2.1.2.1, 9, .inl t_grades))] sz) (qcI Unit G o (fun _ => True) (fun _ => [(h_t, .inr (4, [.ref h_t_whens, .ref h_t_thens, .ref h_t_grades, .int t_quarrel])), (h_t_grades, .inl (G.2.1.2.1, 9, .inl t_grades))]) (va_A [(h_t, .inr (4, [.ref h_t_whens, .ref h_t_thens, .ref h_t_grades, .int t_quarrel])), (h_t_grades, .inl (G.2.1.2.1, 9, .inl t_grades))] sz)) 0 0 (va_A [(h_t, .inr (4, [.ref h_t_whens, .ref h_t_thens, .ref h_t_grades, .int t_quarrel])), (h_t_grades, .inl (G.2.1.2.1, 9, .inl t_grades))] sz) := by
  refine Met.ofW (cc := cX4_gradeAt) (maxL := 2) (ret := (some .int)) (by decide) rfl ?_
  intro p e s m args below meth c s₁ B hml hv
  obtain ⟨rfl, hsz, hP, hg, hD0, hc⟩ := hv
  have hx := B.exec
  have hb := B.bytes
  have hr := B.returns
  have hts := atoms_spec (ws := wsX4_gradeAt) B.pre
  have hown : s.vm.findClass RX4 = some m.cls := findClass_of_methodNamed B.named
  have hlocks := B.notSynchronized
  subst hsz
  have hD := hD0.self (sz := s.heap.size)
  generalize hAe : va_A [(h_t, .inr (4, [.ref h_t_whens, .ref h_t_thens, .ref h_t_grades, .int t_quarrel])), (h_t_grades, .inl (G.2.1.2.1, 9, .inl t_grades))] s.heap.size = A at hD hc ⊢
  have hA : ∀ q : Nat, s.heap.size ≤ q → A q := fun q h => by rw [← hAe]; exact Or.inr h
  have hiX4 : ∀ w ∈ wsX40, w ∈ wsX4_gradeAt := by decide +kernel
  have hl := lv_entry ([.ref h_t, .int a1]) (n := 2) (Nat.le_of_ble_eq_true rfl)
  rw [lg_entry_eq]
  generalize (lg_sl ([.ref h_t, .int a1]) ++ List.replicate (2 - (lg_sl ([.ref h_t, .int a1])).length) Slot.unset).toArray = ls at hl ⊢
  have hl : lv_has ls 2 [(0, .ref h_t), (1, .int a1)] := hl
  have hf := ho
  unfold f_X4_gradeAt at hf
  refine en (fun H locs hP hD hS => ?_) hP hD
  refine lv_iload_n hx hb dX4_gradeAt_0 rfl (lv_at hl 1 rfl) ?_
  refine lv_if_lt (tgt := 22) hx hb dX4_gradeAt_1 (by decide) (fun c1 => ?_) (fun c1 => ?_)
  · have hf := it_t c1 hf
    refine lv_bipush (v := (-9 : Int32)) hx hb dX4_gradeAt_22 (by decide) ?_
    rw [← Option.some.inj hf]
    exact rt_i (u := ()) hx hb hr hlocks hP hD trivial hS dX4_gradeAt_24
  · have hf := it_f c1 hf
    refine lv_iload_n hx hb dX4_gradeAt_4 rfl (lv_at hl 1 rfl) ?_
    refine lv_aload_n hx hb dX4_gradeAt_5 rfl (lv_at hl 0 rfl) ?_
    refine va_get (D := G.1) (ci := 4) (v := .ref h_t_grades) (C := RX4) (T := TX4) (N := 4) hx hb hts hiX4 hown hg.1 hP 0 rfl rfl 2 (by decide) (hts (.fieldLink RX4 9 "AsARule$Rules" "grades" "[I") (by decide +kernel)) (fun _ h9 => h9) rfl dX4_gradeAt_6 ?_
    refine va_alen (v := (9 : Int32)) hx hb hg.1 hP 1 1 rfl rfl rfl dX4_gradeAt_9 ?_
    refine lv_icmp_ge (tgt := 22) hx hb dX4_gradeAt_10 (by decide) (fun c2 => ?_) (fun c2 => ?_)
    · have hf := it_t c2 hf
      refine lv_bipush (v := (-9 : Int32)) hx hb dX4_gradeAt_22 (by decide) ?_
      rw [← Option.some.inj hf]
      exact rt_i (u := ()) hx hb hr hlocks hP hD trivial hS dX4_gradeAt_24
    · have hf := it_f c2 hf
      refine lv_aload_n hx hb dX4_gradeAt_13 rfl (lv_at hl 0 rfl) ?_
      refine va_get (D := G.1) (ci := 4) (v := .ref h_t_grades) (C := RX4) (T := TX4) (N := 4) hx hb hts hiX4 hown hg.1 hP 0 rfl rfl 2 (by decide) (hts (.fieldLink RX4 9 "AsARule$Rules" "grades" "[I") (by decide +kernel)) (fun _ h9 => h9) rfl dX4_gradeAt_14 ?_
      refine lv_iload_n hx hb dX4_gradeAt_17 rfl (lv_at hl 1 rfl) ?_
      refine va_iald hx hb hg.1 hP 1 1 rfl rfl (ib_in (gd_t hf)) dX4_gradeAt_18 ?_
      have hf := gd_x hf
      refine lv_goto (tgt := 24) hx hb dX4_gradeAt_19 (by decide) ?_
      rw [← Option.some.inj hf]
      exact rt_i (u := ()) hx hb hr hlocks hP hD trivial hS dX4_gradeAt_24
-- method X4_countedGrade
def f_X4_countedGrade (t_grades : Nat → Int32) (a1 : Int32) : Option (Int32) :=
  bd (f_X4_gradeAt t_grades a1) (fun o1 => if o1 = (-9 : Int32) then some ((8 : Int32)) else some (o1))
set_option maxHeartbeats 4000000 in
set_option maxRecDepth 100000 in
theorem c_X4_countedGrade (l : Launch) (G : GG) (h_t h_t_whens h_t_thens h_t_grades : Nat) (sz : Nat) (t_quarrel : Int32) (t_grades : Nat → Int32) (a1 : Int32) (o : Int32) (ho : f_X4_countedGrade t_grades a1 = some o)  : Met l yX4_countedGrade wsX4_countedGrade ({ frames := 1, cells := 0, slots := 0, locals := 21 } : Room) (pcA G [.ref h_t, .int a1] [(h_t, .inr (4, [.ref h_t_whens, .ref h_t_thens, .ref h_t_grades, .int t_quarrel])), (h_t_grades, .inl (G.2.1.2.1, 9, .inl t_grades))] sz) (qcI Unit G o (fun _ => True) (fun _ => [(h_t, .inr (4, [.ref h_t_whens, .ref h_t_thens, .ref h_t_grades, .int t_quarrel])), (h_t_grades, .inl (G.2.1.2.1, 9, .inl t_grades))]) (va_A [(h_t, .inr (4, [.ref h_t_whens, .ref h_t_thens, .ref h_t_grades, .int t_quarrel])), (h_t_grades, .inl (G.2.1.2.1, 9, .inl t_grades))] sz)) 0 0 (va_A [(h_t, .inr (4, [.ref h_t_whens, .ref h_t_thens, .ref h_t_grades, .int t_quarrel])), (h_t_grades, .inl (G.2.1.2.1, 9, .inl t_grades))] sz) := by
  refine Met.ofW (cc := cX4_countedGrade) (maxL := 3) (ret := (some .int)) (by decide) rfl ?_
  intro p e s m args below meth c s₁ B hml hv
  obtain ⟨rfl, hsz, hP, hg, hD0, hc⟩ := hv
  have hx := B.exec
  have hb := B.bytes
  have hr := B.returns
  have hts := atoms_spec (ws := wsX4_countedGrade) B.pre
  have hown : s.vm.findClass RX4 = some m.cls := findClass_of_methodNamed B.named
  have hlocks := B.notSynchronized
  subst hsz
  have hD := hD0.self (sz := s.heap.size)
  generalize hAe : va_A [(h_t, .inr (4, [.ref h_t_whens, .ref h_t_thens, .ref h_t_grades, .int t_quarrel])), (h_t_grades, .inl (G.2.1.2.1, 9, .inl t_grades))] s.heap.size = A at hD hc ⊢
  have hA : ∀ q : Nat, s.heap.size ≤ q → A q := fun q h => by rw [← hAe]; exact Or.inr h
  have hl := lv_entry ([.ref h_t, .int a1]) (n := 3) (Nat.le_of_ble_eq_true rfl)
  rw [lg_entry_eq]
  generalize (lg_sl ([.ref h_t, .int a1]) ++ List.replicate (3 - (lg_sl ([.ref h_t, .int a1])).length) Slot.unset).toArray = ls at hl ⊢
  have hl : lv_has ls 3 [(0, .ref h_t), (1, .int a1)] := hl
  have hf := ho
  unfold f_X4_countedGrade at hf
  refine en (fun H locs hP hD hS => ?_) hP hD
  refine lv_aload_n hx hb dX4_countedGrade_0 rfl (lv_at hl 0 rfl) ?_
  refine lv_iload_n hx hb dX4_countedGrade_1 rfl (lv_at hl 1 rfl) ?_
  obtain ⟨o1, ho1, hf⟩ := bd_e hf
  refine af_i (wr := []) (va_runV (As := [.int a1]) (rest := []) ⟨hx, hb, hml, hown, hts⟩ (c_X4_gradeAt l G h_t h_t_whens h_t_thens h_t_grades H.size t_quarrel t_grades a1 o1 ho1) (cwV 1 hts gX4_countedGrade_X4_gradeAt rfl rfl rfl (by decide +kernel) ⟨Nat.le_of_ble_eq_true rfl, Nat.le_of_ble_eq_true rfl⟩) (pcA_preV hg hc hP hD hS hA [0, 1] rfl (by decide) (q0 := 0) (ci := 4) rfl rfl rfl) rfl rfl hl.1 rfl (lv_room (Nat.le_of_ble_eq_true rfl)) dX4_countedGrade_2 ⟨Nat.zero_le _, Nat.zero_le _⟩) hP hD hS hA [0, 1] [] rfl rfl (by decide) (by decide) (fun _ H locs _ hP hD hS => ?_)
  have hP : va_P G.1 vwCl [(h_t, .inr (4, [.ref h_t_whens, .ref h_t_thens, .ref h_t_grades, .int t_quarrel])), (h_t_grades, .inl (G.2.1.2.1, 9, .inl t_grades))] H := hP
  have hD : va_D A [(h_t, .inr (4, [.ref h_t_whens, .ref h_t_thens, .ref h_t_grades, .int t_quarrel])), (h_t_grades, .inl (G.2.1.2.1, 9, .inl t_grades))] := hD
  refine lv_istore_n (lv' := [(2, .int o1), (0, .ref h_t), (1, .int a1)]) hx hb dX4_countedGrade_5 rfl hl (by decide) rfl (fun ls hl => ?_)
  refine lv_iload_n hx hb dX4_countedGrade_6 rfl (lv_at hl 0 rfl) ?_
  refine lv_bipush (v := (-9 : Int32)) hx hb dX4_countedGrade_7 (by decide) ?_
  refine lv_icmp_ne (tgt := 17) hx hb dX4_countedGrade_9 (by decide) (fun c2 => ?_) (fun c2 => ?_)
  · have hf := it_f c2 hf
    refine lv_iload_n hx hb dX4_countedGrade_17 rfl (lv_at hl 0 rfl) ?_
    rw [← Option.some.inj hf]
    exact rt_i (u := ()) hx hb hr hlocks hP hD trivial hS dX4_countedGrade_18
  · have hf := it_t c2 hf
    refine lv_bipush (v := (8 : Int32)) hx hb dX4_countedGrade_12 (by decide) ?_
    refine lv_goto (tgt := 18) hx hb dX4_countedGrade_14 (by decide) ?_
    rw [← Option.some.inj hf]
    exact rt_i (u := ()) hx hb hr hlocks hP hD trivial hS dX4_countedGrade_18
-- method X4_rankOf
def lp_X4_rankOf_4 (t_whens_size : Int32) (t_grades : Nat → Int32) (a1 : Int32) : Nat → Int32 → Int32 → Option (Int32)
  | 0, _, _ => none
  | n + 1, v2, v3 => bd (f_X4_size t_whens_size) (fun o1 => if o1 ≤ v3 then some (v2) else bd (f_X7_inSet a1 v3) (fun o3 => if o3 = (0 : Int32) then lt (v3 + (1 : Int32)) (fun x5 => lp_X4_rankOf_4 t_whens_size t_grades a1 n v2 x5) else bd (f_X4_countedGrade t_grades v3) (fun o6 => lt (mxI v2 (o6 + (1 : Int32))) (fun x7 => lt (v3 + (1 : Int32)) (fun x8 => lp_X4_rankOf_4 t_whens_size t_grades a1 n x7 x8)))))
def f_X4_rankOf (t_whens_size : Int32) (t_grades : Nat → Int32) (a1 : Int32) : Option (Int32) :=
  lp_X4_rankOf_4 t_whens_size t_grades a1 fu (0 : Int32) (0 : Int32)
set_option maxHeartbeats 4000000 in
set_option maxRecDepth 100000 in
theorem c_X4_rankOf (l : Launch) (G : GG) (h_t h_t_whens h_t_thens h_t_grades h_t_whens_kept : Nat) (sz : Nat) (t_quarrel : Int32) (t_whens_most : Int32) (t_whens_size : Int32) (t_grades : Nat → Int32) (a1 : Int32) (o : Int32) (ho : f_X4_rankOf t_whens_size t_grades a1 = some o)  : Met l yX4_rankOf wsX4_rankOf ({ frames := 2, cells := 0, slots := 0, locals := 43 } : Room) (pcA G [.ref h_t, .int a1] [(h_t, .inr (4, [.ref h_t_whens, .ref h_t_thens, .ref h_t_grades, .int t_quarrel])), (h_t_whens, .inr (5, [.ref h_t_whens_kept, .int t_whens_most, .int t_whens_size])), (h_t_grades, .inl (G.2.1.2.1, 9, .inl t_grades))] sz) (qcI Unit G o (fun _ => True) (fun _ => [(h_t, .inr (4, [.ref h_t_whens, .ref h_t_thens, .ref h_t_grades, .int t_quarrel])), (h_t_whens, .inr (5, [.ref h_t_whens_kept, .int t_whens_most, .int t_whens_size])), (h_t_grades, .inl (G.2.1.2.1, 9, .inl t_grades))]) (va_A [(h_t, .inr (4, [.ref h_t_whens, .ref h_t_thens, .ref h_t_grades, .int t_quarrel])), (h_t_whens, .inr (5, [.ref h_t_whens_kept, .int t_whens_most, .int t_whens_size])), (h_t_grades, .inl (G.2.1.2.1, 9, .inl t_grades))] sz)) 0 0 (va_A [(h_t, .inr (4, [.ref h_t_whens, .ref h_t_thens, .ref h_t_grades, .int t_quarrel])), (h_t_whens, .inr (5, [.ref h_t_whens_kept, .int t_whens_most, .int t_whens_size])), (h_t_grades, .inl (G.2.1.2.1, 9, .inl t_grades))] sz) := by
  refine Met.ofW (cc := cX4_rankOf) (maxL := 4) (ret := (some .int)) (by decide) rfl ?_
  intro p e s m args below meth c s₁ B hml hv
  obtain ⟨rfl, hsz, hP, hg, hD0, hc⟩ := hv
  have hx := B.exec
  have hb := B.bytes
  have hr := B.returns
  have hts := atoms_spec (ws := wsX4_rankOf) B.pre
  have hown : s.vm.findClass RX4 = some m.cls := findClass_of_methodNamed B.named
  have hlocks := B.notSynchronized
  subst hsz
  have hD := hD0.self (sz := s.heap.size)
  generalize hAe : va_A [(h_t, .inr (4, [.ref h_t_whens, .ref h_t_thens, .ref h_t_grades, .int t_quarrel])), (h_t_whens, .inr (5, [.ref h_t_whens_kept, .int t_whens_most, .int t_whens_size])), (h_t_grades, .inl (G.2.1.2.1, 9, .inl t_grades))] s.heap.size = A at hD hc ⊢
  have hA : ∀ q : Nat, s.heap.size ≤ q → A q := fun q h => by rw [← hAe]; exact Or.inr h
  have hl := lv_entry ([.ref h_t, .int a1]) (n := 4) (Nat.le_of_ble_eq_true rfl)
  rw [lg_entry_eq]
  generalize (lg_sl ([.ref h_t, .int a1]) ++ List.replicate (4 - (lg_sl ([.ref h_t, .int a1])).length) Slot.unset).toArray = ls at hl ⊢
  have hl : lv_has ls 4 [(0, .ref h_t), (1, .int a1)] := hl
  have hf := ho
  have hw_4 : ∀  (n : Nat) (v2 : Int32) (v3 : Int32), lp_X4_rankOf_4 t_whens_size t_grades a1 n v2 v3 = some o → ∀ (H : Heap) (locs : List Loc), va_P G.1 vwCl [(h_t, .inr (4, [.ref h_t_whens, .ref h_t_thens, .ref h_t_grades, .int t_quarrel])), (h_t_whens, .inr (5, [.ref h_t_whens_kept, .int t_whens_most, .int t_whens_size])), (h_t_grades, .inl (G.2.1.2.1, 9, .inl t_grades))] H → va_D A [(h_t, .inr (4, [.ref h_t_whens, .ref h_t_thens, .ref h_t_grades, .int t_quarrel])), (h_t_whens, .inr (5, [.ref h_t_whens_kept, .int t_whens_most, .int t_whens_size])), (h_t_grades, .inl (G.2.1.2.1, 9, .inl t_grades))] → va_S A s.heap H locs → ∀ (ls : Array Slot), lv_has ls 4 [(0, .ref h_t), (1, .int a1), (2, .int v2), (3, .int v3)] → W p l e (headSpec wsX4_rankOf ({ frames := 2, cells := 0, slots := 0, locals := 43 } : Room)).room s m ([.ref h_t, .int a1] : List Value).toArray below meth c H locs 0 0 (MQ below (qcI Unit G o (fun _ => True) (fun _ => [(h_t, .inr (4, [.ref h_t_whens, .ref h_t_thens, .ref h_t_grades, .int t_quarrel])), (h_t_whens, .inr (5, [.ref h_t_whens_kept, .int t_whens_most, .int t_whens_size])), (h_t_grades, .inl (G.2.1.2.1, 9, .inl t_grades))]) A) ([.ref h_t, .int a1] : List Value).toArray s 0 0 A) (F0 m 4 ls []) := by
    intro n
    induction n with
    | zero =>
      intro v2 v3 hf
      exact absurd hf (by rw [lp_X4_rankOf_4]; intro h; cases h)
    | succ n ih =>
      intro v2 v3 hf H locs hP hD hS ls hl
      rw [lp_X4_rankOf_4] at hf
      refine lv_iload_n hx hb dX4_rankOf_4 rfl (lv_at hl 3 rfl) ?_
      refine lv_aload_n hx hb dX4_rankOf_5 rfl (lv_at hl 0 rfl) ?_
      obtain ⟨o1, ho1, hf⟩ := bd_e hf
      refine af_i (wr := [(h_t_grades, .inl (G.2.1.2.1, 9, .inl t_grades))]) (va_runV (As := []) (rest := [.int v3]) ⟨hx, hb, hml, hown, hts⟩ (c_X4_size l G h_t h_t_whens h_t_thens h_t_grades h_t_whens_kept H.size t_quarrel t_whens_most t_whens_size o1 ho1) (cwV 0 hts gX4_rankOf_X4_size rfl rfl rfl (by decide +kernel) ⟨Nat.le_of_ble_eq_true rfl, Nat.le_of_ble_eq_true rfl⟩) (pcA_preV hg hc hP hD hS hA [0, 1] rfl (by decide) (q0 := 0) (ci := 4) rfl rfl rfl) rfl rfl hl.1 rfl (lv_room (Nat.le_of_ble_eq_true rfl)) dX4_rankOf_6 ⟨Nat.zero_le _, Nat.zero_le _⟩) hP hD hS hA [0, 1] [2] rfl rfl (by decide) (by decide) (fun _ H locs _ hP hD hS => ?_)
      have hP : va_P G.1 vwCl [(h_t, .inr (4, [.ref h_t_whens, .ref h_t_thens, .ref h_t_grades, .int t_quarrel])), (h_t_whens, .inr (5, [.ref h_t_whens_kept, .int t_whens_most, .int t_whens_size])), (h_t_grades, .inl (G.2.1.2.1, 9, .inl t_grades))] H := hP.sub [1, 2, 0] rfl
      have hD : va_D A [(h_t, .inr (4, [.ref h_t_whens, .ref h_t_thens, .ref h_t_grades, .int t_quarrel])), (h_t_whens, .inr (5, [.ref h_t_whens_kept, .int t_whens_most, .int t_whens_size])), (h_t_grades, .inl (G.2.1.2.1, 9, .inl t_grades))] := hD.sub [1, 2, 0] (by decide) rfl
      refine lv_icmp_ge (tgt := 38) hx hb dX4_rankOf_9 (by decide) (fun c2 => ?_) (fun c2 => ?_)
      · have hf := it_t c2 hf
        refine lv_iload_n hx hb dX4_rankOf_38 rfl (lv_at hl 2 rfl) ?_
        rw [← Option.some.inj hf]
        exact rt_i (u := ()) hx hb hr hlocks hP hD trivial hS dX4_rankOf_39
      · have hf := it_f c2 hf
        refine lv_iload_n hx hb dX4_rankOf_12 rfl (lv_at hl 1 rfl) ?_
        refine lv_iload_n hx hb dX4_rankOf_13 rfl (lv_at hl 3 rfl) ?_
        obtain ⟨o3, ho3, hf⟩ := bd_e hf
        refine af0_i (va_runSN (As := [.int a1, .int v3]) (rest := []) ⟨hx, hb, hml, hown, hts⟩ (c_X7_inSet l G H.size a1 v3 o3 ho3) ⟨va_cnB (host := "AsARule") 2 hts gX4_rankOf_X7_inSet_n76 rfl rfl rfl (hg.2 _ (List.mem_of_getElem? (i := 7) rfl)) (hts (.initialized RX7) (by decide +kernel)) (by decide +kernel) ⟨Nat.le_of_ble_eq_true rfl, Nat.le_of_ble_eq_true rfl⟩, (hts (.static yX7_inSet) (by decide +kernel)), trivial⟩ (pcA_pre hg hc hP hD hS hA [] rfl rfl [.int a1, .int v3]) rfl rfl hl.1 rfl (lv_room (Nat.le_of_ble_eq_true rfl)) dX4_rankOf_14 ⟨Nat.zero_le _, Nat.zero_le _⟩) hP hD hS hA (fun H locs hP hD hS => ?_)
        refine lv_if_eq (tgt := 32) hx hb dX4_rankOf_17 (by decide) (fun c4 => ?_) (fun c4 => ?_)
        · have hf := it_t c4 hf
          obtain ⟨x5, ex5⟩ : ∃ y : Int32, y = (v3 + (1 : Int32)) := ⟨_, rfl⟩
          have hf := lt_n hf x5 ex5
          refine lv_iinc (v := x5) (lv' := [(3, .int x5), (0, .ref h_t), (1, .int a1), (2, .int v2)]) hx hb dX4_rankOf_32 hl (k := 3) rfl (by rw [ex5]; rfl) (by decide) rfl (fun ls hl => ?_)
          refine lv_goto (tgt := 4) hx hb dX4_rankOf_35 (by decide) ?_
          exact ih v2 x5 hf _ _ hP hD hS _ (lv_sub hl [1, 2, 3, 0] rfl)
        · have hf := it_f c4 hf
          refine lv_iload_n hx hb dX4_rankOf_20 rfl (lv_at hl 2 rfl) ?_
          refine lv_aload_n hx hb dX4_rankOf_21 rfl (lv_at hl 0 rfl) ?_
          refine lv_iload_n hx hb dX4_rankOf_22 rfl (lv_at hl 3 rfl) ?_
          obtain ⟨o6, ho6, hf⟩ := bd_e hf
          refine af_i (wr := [(h_t_whens, .inr (5, [.ref h_t_whens_kept, .int t_whens_most, .int t_whens_size]))]) (va_runV (As := [.int v3]) (rest := [.int v2]) ⟨hx, hb, hml, hown, hts⟩ (c_X4_countedGrade l G h_t h_t_whens h_t_thens h_t_grades H.size t_quarrel t_grades v3 o6 ho6) (cwV 1 hts gX4_rankOf_X4_countedGrade rfl rfl rfl (by decide +kernel) ⟨Nat.le_of_ble_eq_true rfl, Nat.le_of_ble_eq_true rfl⟩) (pcA_preV hg hc hP hD hS hA [0, 2] rfl (by decide) (q0 := 0) (ci := 4) rfl rfl rfl) rfl rfl hl.1 rfl (lv_room (Nat.le_of_ble_eq_true rfl)) dX4_rankOf_23 ⟨Nat.zero_le _, Nat.zero_le _⟩) hP hD hS hA [0, 2] [1] rfl rfl (by decide) (by decide) (fun _ H locs _ hP hD hS => ?_)
          have hP : va_P G.1 vwCl [(h_t, .inr (4, [.ref h_t_whens, .ref h_t_thens, .ref h_t_grades, .int t_quarrel])), (h_t_whens, .inr (5, [.ref h_t_whens_kept, .int t_whens_most, .int t_whens_size])), (h_t_grades, .inl (G.2.1.2.1, 9, .inl t_grades))] H := hP.sub [1, 0, 2] rfl
          have hD : va_D A [(h_t, .inr (4, [.ref h_t_whens, .ref h_t_thens, .ref h_t_grades, .int t_quarrel])), (h_t_whens, .inr (5, [.ref h_t_whens_kept, .int t_whens_most, .int t_whens_size])), (h_t_grades, .inl (G.2.1.2.1, 9, .inl t_grades))] := hD.sub [1, 0, 2] (by decide) rfl
          refine lv_iconst (v := (1 : Int32)) hx hb dX4_rankOf_26 (by decide) ?_
          refine lv_iadd hx hb dX4_rankOf_27 ?_
          refine va_mmax hx hb (by rw [hml]; exact hl.1.symm) hown (hts (.methodLink RX4 87 Lib.Math.max.name) (by decide +kernel)) (hts (.static Lib.Math.max.name) (by decide +kernel)) (hts (.initialized "java/lang/Math") (by decide +kernel)) (hts (.code Lib.Math.max.name Lib.Math.max.code 2 (some .int)) (by decide +kernel)) (Nat.le_of_ble_eq_true rfl) (Nat.le_of_ble_eq_true rfl) (Nat.le_of_ble_eq_true rfl) (Nat.le_of_ble_eq_true rfl) dX4_rankOf_28 ?_
          refine lv_topi (fun x7 ex7 => ?_)
          have hf := lt_n hf x7 ex7
          refine lv_istore_n (lv' := [(2, .int x7), (0, .ref h_t), (1, .int a1), (3, .int v3)]) hx hb dX4_rankOf_31 rfl hl (by decide) rfl (fun ls hl => ?_)
          obtain ⟨x8, ex8⟩ : ∃ y : Int32, y = (v3 + (1 : Int32)) := ⟨_, rfl⟩
          have hf := lt_n hf x8 ex8
          refine lv_iinc (v := x8) (lv' := [(3, .int x8), (2, .int x7), (0, .ref h_t), (1, .int a1)]) hx hb dX4_rankOf_32 hl (k := 3) rfl (by rw [ex8]; rfl) (by decide) rfl (fun ls hl => ?_)
          refine lv_goto (tgt := 4) hx hb dX4_rankOf_35 (by decide) ?_
          exact ih x7 x8 hf _ _ hP hD hS _ (lv_sub hl [2, 3, 1, 0] rfl)
  unfold f_X4_rankOf at hf
  refine en (fun H locs hP hD hS => ?_) hP hD
  refine lv_iconst (v := (0 : Int32)) hx hb dX4_rankOf_0 (by decide) ?_
  refine lv_istore_n (lv' := [(2, .int (0 : Int32)), (0, .ref h_t), (1, .int a1)]) hx hb dX4_rankOf_1 rfl hl (by decide) rfl (fun ls hl => ?_)
  refine lv_iconst (v := (0 : Int32)) hx hb dX4_rankOf_2 (by decide) ?_
  refine lv_istore_n (lv' := [(3, .int (0 : Int32)), (2, .int (0 : Int32)), (0, .ref h_t), (1, .int a1)]) hx hb dX4_rankOf_3 rfl hl (by decide) rfl (fun ls hl => ?_)
  exact hw_4 fu (0 : Int32) (0 : Int32) hf _ _ hP hD hS _ (lv_sub hl [2, 3, 1, 0] rfl)
-- method X4_tallyOf
def lp_X4_tallyOf_5 (t_whens_size : Int32) (t_grades : Nat → Int32) (a1 : Int32) : Nat → Int64 → Int32 → Option (Int64)
  | 0, _, _ => none
  | n + 1, v2, v4 => bd (f_X4_size t_whens_size) (fun o1 => if o1 ≤ v4 then some (v2) else bd (f_X7_inSet a1 v4) (fun o3 => if o3 = (0 : Int32) then lt (v4 + (1 : Int32)) (fun x5 => lp_X4_tallyOf_5 t_whens_size t_grades a1 n v2 x5) else bd (f_X4_countedGrade t_grades v4) (fun o6 => lt (v2 + (shlL (1 : Int64) ((4 : Int32) * o6))) (fun x7 => lt (v4 + (1 : Int32)) (fun x8 => lp_X4_tallyOf_5 t_whens_size t_grades a1 n x7 x8)))))
def f_X4_tallyOf (t_whens_size : Int32) (t_grades : Nat → Int32) (a1 : Int32) : Option (Int64) :=
  lp_X4_tallyOf_5 t_whens_size t_grades a1 fu (0 : Int64) (0 : Int32)
set_option maxHeartbeats 4000000 in
set_option maxRecDepth 100000 in
theorem c_X4_tallyOf (l : Launch) (G : GG) (h_t h_t_whens h_t_thens h_t_grades h_t_whens_kept : Nat) (sz : Nat) (t_quarrel : Int32) (t_whens_most : Int32) (t_whens_size : Int32) (t_grades : Nat → Int32) (a1 : Int32) (o : Int64) (ho : f_X4_tallyOf t_whens_size t_grades a1 = some o)  : Met l yX4_tallyOf wsX4_tallyOf ({ frames := 2, cells := 0, slots := 0, locals := 43 } : Room) (pcA G [.ref h_t, .int a1] [(h_t, .inr (4, [.ref h_t_whens, .ref h_t_thens, .ref h_t_grades, .int t_quarrel])), (h_t_whens, .inr (5, [.ref h_t_whens_kept, .int t_whens_most, .int t_whens_size])), (h_t_grades, .inl (G.2.1.2.1, 9, .inl t_grades))] sz) (qcL Unit G o (fun _ => True) (fun _ => [(h_t, .inr (4, [.ref h_t_whens, .ref h_t_thens, .ref h_t_grades, .int t_quarrel])), (h_t_whens, .inr (5, [.ref h_t_whens_kept, .int t_whens_most, .int t_whens_size])), (h_t_grades, .inl (G.2.1.2.1, 9, .inl t_grades))]) (va_A [(h_t, .inr (4, [.ref h_t_whens, .ref h_t_thens, .ref h_t_grades, .int t_quarrel])), (h_t_whens, .inr (5, [.ref h_t_whens_kept, .int t_whens_most, .int t_whens_size])), (h_t_grades, .inl (G.2.1.2.1, 9, .inl t_grades))] sz)) 0 0 (va_A [(h_t, .inr (4, [.ref h_t_whens, .ref h_t_thens, .ref h_t_grades, .int t_quarrel])), (h_t_whens, .inr (5, [.ref h_t_whens_kept, .int t_whens_most, .int t_whens_size])), (h_t_grades, .inl (G.2.1.2.1, 9, .inl t_grades))] sz) := by
  refine Met.ofW (cc := cX4_tallyOf) (maxL := 5) (ret := (some .long)) (by decide) rfl ?_
  intro p e s m args below meth c s₁ B hml hv
  obtain ⟨rfl, hsz, hP, hg, hD0, hc⟩ := hv
  have hx := B.exec
  have hb := B.bytes
  have hr := B.returns
  have hts := atoms_spec (ws := wsX4_tallyOf) B.pre
  have hown : s.vm.findClass RX4 = some m.cls := findClass_of_methodNamed B.named
  have hlocks := B.notSynchronized
  subst hsz
  have hD := hD0.self (sz := s.heap.size)
  generalize hAe : va_A [(h_t, .inr (4, [.ref h_t_whens, .ref h_t_thens, .ref h_t_grades, .int t_quarrel])), (h_t_whens, .inr (5, [.ref h_t_whens_kept, .int t_whens_most, .int t_whens_size])), (h_t_grades, .inl (G.2.1.2.1, 9, .inl t_grades))] s.heap.size = A at hD hc ⊢
  have hA : ∀ q : Nat, s.heap.size ≤ q → A q := fun q h => by rw [← hAe]; exact Or.inr h
  have hl := lv_entry ([.ref h_t, .int a1]) (n := 5) (Nat.le_of_ble_eq_true rfl)
  rw [lg_entry_eq]
  generalize (lg_sl ([.ref h_t, .int a1]) ++ List.replicate (5 - (lg_sl ([.ref h_t, .int a1])).length) Slot.unset).toArray = ls at hl ⊢
  have hl : lv_has ls 5 [(0, .ref h_t), (1, .int a1)] := hl
  have hf := ho
  have hw_5 : ∀  (n : Nat) (v2 : Int64) (v4 : Int32), lp_X4_tallyOf_5 t_whens_size t_grades a1 n v2 v4 = some o → ∀ (H : Heap) (locs : List Loc), va_P G.1 vwCl [(h_t, .inr (4, [.ref h_t_whens, .ref h_t_thens, .ref h_t_grades, .int t_quarrel])), (h_t_whens, .inr (5, [.ref h_t_whens_kept, .int t_whens_most, .int t_whens_size])), (h_t_grades, .inl (G.2.1.2.1, 9, .inl t_grades))] H → va_D A [(h_t, .inr (4, [.ref h_t_whens, .ref h_t_thens, .ref h_t_grades, .int t_quarrel])), (h_t_whens, .inr (5, [.ref h_t_whens_kept, .int t_whens_most, .int t_whens_size])), (h_t_grades, .inl (G.2.1.2.1, 9, .inl t_grades))] → va_S A s.heap H locs → ∀ (ls : Array Slot), lv_has ls 5 [(0, .ref h_t), (1, .int a1), (2, .long v2), (4, .int v4)] → W p l e (headSpec wsX4_tallyOf ({ frames := 2, cells := 0, slots := 0, locals := 43 } : Room)).room s m ([.ref h_t, .int a1] : List Value).toArray below meth c H locs 0 0 (MQ below (qcL Unit G o (fun _ => True) (fun _ => [(h_t, .inr (4, [.ref h_t_whens, .ref h_t_thens, .ref h_t_grades, .int t_quarrel])), (h_t_whens, .inr (5, [.ref h_t_whens_kept, .int t_whens_most, .int t_whens_size])), (h_t_grades, .inl (G.2.1.2.1, 9, .inl t_grades))]) A) ([.ref h_t, .int a1] : List Value).toArray s 0 0 A) (F0 m 5 ls []) := by
    intro n
    induction n with
    | zero =>
      intro v2 v4 hf
      exact absurd hf (by rw [lp_X4_tallyOf_5]; intro h; cases h)
    | succ n ih =>
      intro v2 v4 hf H locs hP hD hS ls hl
      rw [lp_X4_tallyOf_5] at hf
      refine lv_iload hx hb dX4_tallyOf_5 (lv_at hl 3 rfl) ?_
      refine lv_aload_n hx hb dX4_tallyOf_7 rfl (lv_at hl 0 rfl) ?_
      obtain ⟨o1, ho1, hf⟩ := bd_e hf
      refine af_i (wr := [(h_t_grades, .inl (G.2.1.2.1, 9, .inl t_grades))]) (va_runV (As := []) (rest := [.int v4]) ⟨hx, hb, hml, hown, hts⟩ (c_X4_size l G h_t h_t_whens h_t_thens h_t_grades h_t_whens_kept H.size t_quarrel t_whens_most t_whens_size o1 ho1) (cwV 0 hts gX4_tallyOf_X4_size rfl rfl rfl (by decide +kernel) ⟨Nat.le_of_ble_eq_true rfl, Nat.le_of_ble_eq_true rfl⟩) (pcA_preV hg hc hP hD hS hA [0, 1] rfl (by decide) (q0 := 0) (ci := 4) rfl rfl rfl) rfl rfl hl.1 rfl (lv_room (Nat.le_of_ble_eq_true rfl)) dX4_tallyOf_8 ⟨Nat.zero_le _, Nat.zero_le _⟩) hP hD hS hA [0, 1] [2] rfl rfl (by decide) (by decide) (fun _ H locs _ hP hD hS => ?_)
      have hP : va_P G.1 vwCl [(h_t, .inr (4, [.ref h_t_whens, .ref h_t_thens, .ref h_t_grades, .int t_quarrel])), (h_t_whens, .inr (5, [.ref h_t_whens_kept, .int t_whens_most, .int t_whens_size])), (h_t_grades, .inl (G.2.1.2.1, 9, .inl t_grades))] H := hP.sub [1, 2, 0] rfl
      have hD : va_D A [(h_t, .inr (4, [.ref h_t_whens, .ref h_t_thens, .ref h_t_grades, .int t_quarrel])), (h_t_whens, .inr (5, [.ref h_t_whens_kept, .int t_whens_most, .int t_whens_size])), (h_t_grades, .inl (G.2.1.2.1, 9, .inl t_grades))] := hD.sub [1, 2, 0] (by decide) rfl
      refine lv_icmp_ge (tgt := 42) hx hb dX4_tallyOf_11 (by decide) (fun c2 => ?_) (fun c2 => ?_)
      · have hf := it_t c2 hf
        refine lv_lload_n hx hb dX4_tallyOf_42 rfl (lv_at hl 2 rfl) ?_
        rw [← Option.some.inj hf]
        exact rt_l (u := ()) hx hb hr hlocks hP hD trivial hS dX4_tallyOf_43
      · have hf := it_f c2 hf
        refine lv_iload_n hx hb dX4_tallyOf_14 rfl (lv_at hl 1 rfl) ?_
        refine lv_iload hx hb dX4_tallyOf_15 (lv_at hl 3 rfl) ?_
        obtain ⟨o3, ho3, hf⟩ := bd_e hf
        refine af0_i (va_runSN (As := [.int a1, .int v4]) (rest := []) ⟨hx, hb, hml, hown, hts⟩ (c_X7_inSet l G H.size a1 v4 o3 ho3) ⟨va_cnB (host := "AsARule") 2 hts gX4_tallyOf_X7_inSet_n76 rfl rfl rfl (hg.2 _ (List.mem_of_getElem? (i := 7) rfl)) (hts (.initialized RX7) (by decide +kernel)) (by decide +kernel) ⟨Nat.le_of_ble_eq_true rfl, Nat.le_of_ble_eq_true rfl⟩, (hts (.static yX7_inSet) (by decide +kernel)), trivial⟩ (pcA_pre hg hc hP hD hS hA [] rfl rfl [.int a1, .int v4]) rfl rfl hl.1 rfl (lv_room (Nat.le_of_ble_eq_true rfl)) dX4_tallyOf_17 ⟨Nat.zero_le _, Nat.zero_le _⟩) hP hD hS hA (fun H locs hP hD hS => ?_)
        refine lv_if_eq (tgt := 36) hx hb dX4_tallyOf_20 (by decide) (fun c4 => ?_) (fun c4 => ?_)
        · have hf := it_t c4 hf
          obtain ⟨x5, ex5⟩ : ∃ y : Int32, y = (v4 + (1 : Int32)) := ⟨_, rfl⟩
          have hf := lt_n hf x5 ex5
          refine lv_iinc (v := x5) (lv' := [(4, .int x5), (0, .ref h_t), (1, .int a1), (2, .long v2)]) hx hb dX4_tallyOf_36 hl (k := 3) rfl (by rw [ex5]; rfl) (by decide) rfl (fun ls hl => ?_)
          refine lv_goto (tgt := 5) hx hb dX4_tallyOf_39 (by decide) ?_
          exact ih v2 x5 hf _ _ hP hD hS _ (lv_sub hl [1, 2, 3, 0] rfl)
        · have hf := it_f c4 hf
          refine lv_lload_n hx hb dX4_tallyOf_23 rfl (lv_at hl 2 rfl) ?_
          refine lv_lconst (v := (1 : Int64)) hx hb dX4_tallyOf_24 (by decide) ?_
          refine lv_iconst (v := (4 : Int32)) hx hb dX4_tallyOf_25 (by decide) ?_
          refine lv_aload_n hx hb dX4_tallyOf_26 rfl (lv_at hl 0 rfl) ?_
          refine lv_iload hx hb dX4_tallyOf_27 (lv_at hl 3 rfl) ?_
          obtain ⟨o6, ho6, hf⟩ := bd_e hf
          refine af_i (wr := [(h_t_whens, .inr (5, [.ref h_t_whens_kept, .int t_whens_most, .int t_whens_size]))]) (va_runV (As := [.int v4]) (rest := [.int (4 : Int32), .long (1 : Int64), .long v2]) ⟨hx, hb, hml, hown, hts⟩ (c_X4_countedGrade l G h_t h_t_whens h_t_thens h_t_grades H.size t_quarrel t_grades v4 o6 ho6) (cwV 1 hts gX4_tallyOf_X4_countedGrade rfl rfl rfl (by decide +kernel) ⟨Nat.le_of_ble_eq_true rfl, Nat.le_of_ble_eq_true rfl⟩) (pcA_preV hg hc hP hD hS hA [0, 2] rfl (by decide) (q0 := 0) (ci := 4) rfl rfl rfl) rfl rfl hl.1 rfl (lv_room (Nat.le_of_ble_eq_true rfl)) dX4_tallyOf_29 ⟨Nat.zero_le _, Nat.zero_le _⟩) hP hD hS hA [0, 2] [1] rfl rfl (by decide) (by decide) (fun _ H locs _ hP hD hS => ?_)
          have hP : va_P G.1 vwCl [(h_t, .inr (4, [.ref h_t_whens, .ref h_t_thens, .ref h_t_grades, .int t_quarrel])), (h_t_whens, .inr (5, [.ref h_t_whens_kept, .int t_whens_most, .int t_whens_size])), (h_t_grades, .inl (G.2.1.2.1, 9, .inl t_grades))] H := hP.sub [1, 0, 2] rfl
          have hD : va_D A [(h_t, .inr (4, [.ref h_t_whens, .ref h_t_thens, .ref h_t_grades, .int t_quarrel])), (h_t_whens, .inr (5, [.ref h_t_whens_kept, .int t_whens_most, .int t_whens_size])), (h_t_grades, .inl (G.2.1.2.1, 9, .inl t_grades))] := hD.sub [1, 0, 2] (by decide) rfl
          refine lv_imul hx hb dX4_tallyOf_32 ?_
          refine lv_lshl (v := (shlL (1 : Int64) ((4 : Int32) * o6))) hx hb dX4_tallyOf_33 rfl ?_
          refine lv_ladd hx hb dX4_tallyOf_34 ?_
          refine lv_topl (fun x7 ex7 => ?_)
          have hf := lt_n hf x7 ex7
          refine lv_lstore_n (lv' := [(2, .long x7), (0, .ref h_t), (1, .int a1), (4, .int v4)]) hx hb dX4_tallyOf_35 rfl hl (by decide) rfl (fun ls hl => ?_)
          obtain ⟨x8, ex8⟩ : ∃ y : Int32, y = (v4 + (1 : Int32)) := ⟨_, rfl⟩
          have hf := lt_n hf x8 ex8
          refine lv_iinc (v := x8) (lv' := [(4, .int x8), (2, .long x7), (0, .ref h_t), (1, .int a1)]) hx hb dX4_tallyOf_36 hl (k := 3) rfl (by rw [ex8]; rfl) (by decide) rfl (fun ls hl => ?_)
          refine lv_goto (tgt := 5) hx hb dX4_tallyOf_39 (by decide) ?_
          exact ih x7 x8 hf _ _ hP hD hS _ (lv_sub hl [2, 3, 1, 0] rfl)
  unfold f_X4_tallyOf at hf
  refine en (fun H locs hP hD hS => ?_) hP hD
  refine lv_lconst (v := (0 : Int64)) hx hb dX4_tallyOf_0 (by decide) ?_
  refine lv_lstore_n (lv' := [(2, .long (0 : Int64)), (0, .ref h_t), (1, .int a1)]) hx hb dX4_tallyOf_1 rfl hl (by decide) rfl (fun ls hl => ?_)
  refine lv_iconst (v := (0 : Int32)) hx hb dX4_tallyOf_2 (by decide) ?_
  refine lv_istore (lv' := [(4, .int (0 : Int32)), (2, .long (0 : Int64)), (0, .ref h_t), (1, .int a1)]) hx hb dX4_tallyOf_3 hl (by decide) rfl (fun ls hl => ?_)
  exact hw_5 fu (0 : Int64) (0 : Int32) hf _ _ hP hD hS _ (lv_sub hl [2, 3, 1, 0] rfl)
