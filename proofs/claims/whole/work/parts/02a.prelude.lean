/-! ===== my own words: options, the world's context, calls ===== -/
def gd {α : Type} (b : Bool) (x : Option α) : Option α := if b = true then x else none
theorem gd_t {α : Type} {b : Bool} {x : Option α} {o : α} (h : gd b x = some o) : b = true := by
  unfold gd at h
  by_cases hb : b = true
  · exact hb
  · rw [if_neg hb] at h; cases h
theorem gd_x {α : Type} {b : Bool} {x : Option α} {o : α} (h : gd b x = some o) : x = some o := by
  have hb := gd_t h
  unfold gd at h
  rw [if_pos hb] at h; exact h
theorem gd_y {α : Type} {b : Bool} {x : Option α} (h : b = true) : gd b x = x := by unfold gd; rw [if_pos h]
def bd {α β : Type} (x : Option α) (k : α → Option β) : Option β := match x with
  | none => none
  | some a => k a
theorem bd_e {α β : Type} {x : Option α} {k : α → Option β} {o : β} (h : bd x k = some o) : ∃ a, x = some a ∧ k a = some o := by
  cases x with
  | none => cases h
  | some a => exact ⟨a, rfl, h⟩
theorem bd_y {α β : Type} {x : Option α} {k : α → Option β} {a : α} (h : x = some a) : bd x k = k a := by rw [h]; rfl
def lt {α β : Type} (e : α) (k : α → β) : β := k e
theorem lt_n {α β : Type} {e : α} {k : α → Option β} {o : β} (h : lt e k = some o) (x : α) (hx : x = e) : k x = some o := by rw [hx]; exact h
theorem lt_y {α β : Type} (e : α) (k : α → β) : lt e k = k e := rfl
theorem it_t {c : Prop} [Decidable c] {α : Type} {a b : α} {o : α} (h : c) (hf : (if c then a else b) = o) : a = o := by rw [if_pos h] at hf; exact hf
theorem it_f {c : Prop} [Decidable c] {α : Type} {a b : α} {o : α} (h : ¬ c) (hf : (if c then a else b) = o) : b = o := by rw [if_neg h] at hf; exact hf
def ib (i : Int32) (n : Nat) : Bool := decide (0 ≤ i.toInt ∧ i.toInt < n)
theorem ib_in {i : Int32} {n : Nat} (h : ib i n = true) : vp_in i n := vp_in_iff.mpr (of_decide_eq_true h)
theorem ib_y {i : Int32} {n : Nat} (h : 0 ≤ i.toInt ∧ i.toInt < n) : ib i n = true := decide_eq_true h
theorem ib_nI {j n : Nat} (h : j < n) (hn : n < 2 ^ 31) : ib (nI j) n = true := decide_eq_true (by rw [nI_toInt (by omega)]; omega)
def zb (v : Int32) : Bool := decide (v = 0 ∨ v = 1)
theorem zb_0 : zb 0 = true := by decide
theorem zb_1 : zb 1 = true := by decide
theorem zb_n {v : Int32} (h : zb v = true) : narrow .boolean (.int v) = .int v := by
  rcases of_decide_eq_true h with rfl | rfl <;> rfl
theorem zb_f {v : Int32} (h : zb v = true) : fits .boolean (.int v) = true := by
  rcases of_decide_eq_true h with rfl | rfl <;> rfl
def chb (v : Int32) : Bool := decide (0 ≤ v.toInt ∧ v.toInt < 65536)
theorem chb_n {v : Int32} (h : chb v = true) : narrow .char (.int v) = .int v := by
  have h2 := of_decide_eq_true h
  obtain ⟨j, hj, rfl⟩ := nI_of (x := v) (by rw [Int32.lt_iff_toInt_lt]; show ¬ v.toInt < 0; omega)
  rw [nI_toInt hj] at h2
  exact (pk_charN (by omega)).1
def db (v : Int32) : Bool := decide (¬ v = 0)
theorem db_n {v : Int32} (h : db v = true) : ¬ v = 0 := of_decide_eq_true h
def fu : Nat := 1000
def ushI (x y : Int32) : Int32 := (x.toUInt32 >>> (y.toUInt32 &&& Int32.toUInt32 31)).toInt32
def ushL (x : Int64) (y : Int32) : Int64 := (x.toUInt64 >>> (y.toInt64.toUInt64 &&& Int64.toUInt64 63)).toInt64
def shlL (x : Int64) (y : Int32) : Int64 := x <<< (y.toInt64 &&& 63)
def shrL (x : Int64) (y : Int32) : Int64 := x >>> (y.toInt64 &&& 63)
abbrev mxI (x y : Int32) : Int32 := if x < y then y else x
abbrev mnI (x y : Int32) : Int32 := if y < x then y else x
theorem lgc0 {x y : Int64} : lg_cmp x y = 0 ↔ x = y := by
  unfold lg_cmp
  by_cases h1 : y < x
  · rw [if_pos h1]
    constructor
    · intro h; exact absurd h (by decide)
    · intro h; subst h; exact absurd h1 (by rw [Int64.lt_iff_toInt_lt]; omega)
  · rw [if_neg h1]
    by_cases h2 : x = y
    · rw [if_pos h2]; exact ⟨fun _ => h2, fun _ => rfl⟩
    · rw [if_neg h2]
      constructor
      · intro h; exact absurd h (by decide)
      · intro h; exact absurd h h2
theorem lgcL {x y : Int64} : lg_cmp x y < 0 ↔ x < y := by
  unfold lg_cmp
  by_cases h1 : y < x
  · rw [if_pos h1]
    constructor
    · intro h; exact absurd h (by decide)
    · intro h; rw [Int64.lt_iff_toInt_lt] at h h1; omega
  · rw [if_neg h1]
    by_cases h2 : x = y
    · rw [if_pos h2]; subst h2; exact ⟨fun h => absurd h (by decide), fun h => absurd h h1⟩
    · rw [if_neg h2]
      refine ⟨fun _ => ?_, fun _ => by decide⟩
      rw [Int64.lt_iff_toInt_lt] at h1 ⊢
      have : x.toInt ≠ y.toInt := fun h => h2 (Int64.toInt_inj.mp h)
      omega
theorem lgcG {x y : Int64} : 0 < lg_cmp x y ↔ y < x := by
  unfold lg_cmp
  by_cases h1 : y < x
  · rw [if_pos h1]; exact ⟨fun _ => h1, fun _ => by decide⟩
  · rw [if_neg h1]
    by_cases h2 : x = y
    · rw [if_pos h2]; exact ⟨fun h => absurd h (by decide), fun h => absurd h h1⟩
    · rw [if_neg h2]; exact ⟨fun h => absurd h (by decide), fun h => absurd h h1⟩
theorem lgcLe {x y : Int64} : lg_cmp x y ≤ 0 ↔ x ≤ y := by
  rw [Int32.le_iff_toInt_le, Int64.le_iff_toInt_le]
  have h := @lgcG x y
  rw [Int32.lt_iff_toInt_lt, Int64.lt_iff_toInt_lt] at h
  omega
theorem lgcGe {x y : Int64} : 0 ≤ lg_cmp x y ↔ y ≤ x := by
  rw [Int32.le_iff_toInt_le, Int64.le_iff_toInt_le]
  have h := @lgcL x y
  rw [Int32.lt_iff_toInt_lt, Int64.lt_iff_toInt_lt] at h
  omega
/-- what goes along with every world: classes and slots, the three array classes, LETTER_WORLDS' array, the string constants and their arrays -/
abbrev GG : Type := va_G × (ClassId × ClassId × ClassId) × Nat × (Nat → Nat) × (Nat → Nat)
abbrev tyG (G : GG) : List (ClassId × FieldType) := [(G.2.1.1, .byte), (G.2.1.2.1, .int), (G.2.1.2.2, .long)]
def nwL : List Cond := [.methodLinkNest RX0 21 yX7_holds "AsARule", .methodLinkNest RX1 27 yX7_allIn "AsARule", .methodLinkNest RX1 48 yX7_inSet "AsARule", .methodLinkNest RX2 63 yX7_holds "AsARule", .methodLinkNest RX2 84 yX7_allIn "AsARule", .methodLinkNest RX2 88 yX7_inSet "AsARule", .methodLinkNest RX4 64 yX7_holds "AsARule", .methodLinkNest RX4 76 yX7_inSet "AsARule", .methodLinkNest RX7 9 yX6_init "AsARule", .methodLinkNest RX7 18 yX3_init "AsARule", .methodLinkNest RX7 25 yX2_init "AsARule", .methodLinkNest RX7 44 yX1_init "AsARule", .methodLinkNest RX7 51 yX0_init "AsARule"]
def nwA (U : State) : Prop := ∀ w ∈ nwL, va_Nw w U
theorem nwL_tab : ∀ w ∈ nwL, w.onTables = true := by decide +kernel
theorem nwA.same {u U : State} (h : u.vm = U.vm) (hn : nwA u) : nwA U := fun w hw => va_Nw.same (nwL_tab w hw) h (hn w hw)
theorem nwA.warm {s U : State} (hW : s.WarmedH U.vm) (hn : nwA s) : nwA U := by
  intro w hw
  have h := hn w hw
  simp only [nwL, List.mem_cons, List.not_mem_nil, or_false] at hw
  rcases hw with rfl | rfl | rfl | rfl | rfl | rfl | rfl | rfl | rfl | rfl | rfl | rfl | rfl <;> exact va_Nw.warmM hW h
def ltW (j : Nat) : Int64 := (([-6148914691236517206, -3689348814741910324, -1085102592571150096, -71777214294589696, -281470681808896, -4294967296] : List Int64).getD j 0)
def ltF (j : Nat) : Value := .long (ltW j)
def lenS : List Nat := [6, 2, 4, 4, 3]
def bytS : List (List Int32) := [[97, 108, 119, 97, 121, 115], [105, 102], [116, 104, 101, 110], [102, 97, 99, 116], [109, 97, 121]]
def strS : List (Nat × String) := [(68, "always"), (74, "if"), (76, "then"), (77, "fact"), (79, "may")]
def slen (i : Nat) : Int32 := Int32.ofNat (lenS.getD i 0)
def sbyt (i j : Nat) : Int32 := (bytS.getD i []).getD j 0
def gk (G : GG) (U : State) : Prop := va_K G.1 vwCl (tyG G) U ∧ nwA U
def gc (G : GG) (A : Nat → Prop) (U : State) (H : Heap) : Prop :=
  va_Z RX3 "LETTER_WORLDS" "[J" (.ref G.2.2.1) A U H ∧ va_T .long G.2.2.1 6 ltF A U H ∧ vk_S 5 lenS bytS G.2.2.2.1 G.2.2.2.2 A U H ∧ va_Z RJ0 "COMPACT_STRINGS" "Z" (.int 1) A U H ∧ va_Zq RJ3 "SIOOBE_FORMATTER" "Ljava/util/function/BiFunction;" A U H ∧
  ∀ (i : Nat) (q : Nat × String), strS[i]? = some q → vk_R RX3 q.1 q.2 (G.2.2.2.1 i) U
theorem gk.warm {G : GG} {s U : State} (hW : s.WarmedH U.vm) (h : gk G s) : gk G U := ⟨va_K.moved hW.alike h.1, h.2.warm hW⟩
theorem gk.call {G : GG} {U : State} {g : JFrame} {mk : MethodId} {a : Array Value} (h : gk G U) : gk G (U.calling g mk a) := ⟨va_K.moved (u := U) (U := U.calling g mk a) (Vm.Alike.refl U.vm) h.1, nwA.same (u := U) (U := U.calling g mk a) rfl h.2⟩
theorem gc.call {G : GG} {A : Nat → Prop} {U : State} {H : Heap} {g : JFrame} {mk : MethodId} {a : Array Value} (h : gc G A U H) : gc G A (U.calling g mk a) H := by
  have hv : U.vm.Alike (U.calling g mk a).vm := Vm.Alike.refl U.vm
  exact ⟨h.1.moved hv, h.2.1.moved hv, h.2.2.1.moved hv, h.2.2.2.1.moved hv, h.2.2.2.2.1.moved hv, fun i q hq => vk_R.same (u := U) rfl (h.2.2.2.2.2 i q hq)⟩
theorem gc.down {G : GG} {A B : Nat → Prop} {s U : State} {H H1 : Heap} (hW : s.WarmedH U.vm) (hAB : ∀ q, B q → A q) (hq : ∀ a : Nat, a < H.size → ¬ A a → H1[a]? = H[a]?) (h : gc G A s H) : gc G B U H1 := by
  have hv := hW.alike
  exact ⟨((h.1.kept hq).narrow hAB).moved hv, ((h.2.1.kept hq).narrow hAB).moved hv, ((h.2.2.1.kept hq).narrow hAB).moved hv, ((h.2.2.2.1.kept hq).narrow hAB).moved hv, ((h.2.2.2.2.1.kept hq).narrow hAB).moved hv, fun i q hq => vk_R.warm hW (h.2.2.2.2.2 i q hq)⟩
def pcA (G : GG) (av : List Value) (ws : va_W) (sz : Nat) : Array Value → State → Prop := va_Pc av (fun U => U.heap.size = sz ∧ va_P G.1 vwCl ws U.heap ∧ gk G U ∧ va_D (fun _ => True) ws ∧ gc G (va_A ws sz) U U.heap)
theorem pcA_blind {G : GG} {av : List Value} {ws : va_W} {sz : Nat} : FrameBlind (pcA G av ws sz) := by
  intro a U g mk h
  obtain ⟨h1, h2, h3, h4, h5, h6⟩ := h
  exact ⟨h1, h2, h3, h4.call, h5, h6.call⟩
/-- the world behind a method: its cells, at addresses that u may name -/
def wfB {S : Type} (G : GG) (wf : S → va_W) (A : Nat → Prop) (u : S) (t : State) : Prop := va_P G.1 vwCl (wf u) t.heap ∧ va_D A (wf u)
section MyCalls
variable {p : Program} {l : Launch} {e : Env} {R : Room} {s : State} {m : MethodId} {args : Array Value} {below : List Frame} {meth : Method} {c : Code} {H : Heap} {locs : List Loc} {cells slots : Nat} {Q : State → Prop}
variable {G : GG} {A : Nat → Prop} {ws wc wr : va_W} {y : MethodName} {bytes cc : ByteArray} {maxL nL mc ms n index pc : Nat} {ret : Option FieldType} {wy : List Cond} {rm : Room} {Ts : List Cond} {own C host : String} {b : Addr} {As rest st : List Value} {ls : Array Slot} {S : Type} {wf : S → va_W} {pu : S → Prop}
theorem pcA_pre (hg : gk G s) (hc : gc G A s s.heap) (hP : va_P G.1 vwCl ws H) (hD : va_D A ws) (hS : va_S A s.heap H locs) (hA : ∀ q, s.heap.size ≤ q → A q) (isC : List Nat) (hC : isC.map (fun i => ws[i]?) = wc.map some) (hnC : va_nd isC = true) (av : List Value) : PreS s H (pcA G av wc H.size) av := by
  refine ⟨pcA_blind, fun U hU hW => ⟨rfl, by rw [hU], ?_, hg.warm hW, (hD.sub isC hnC hC).weaken (fun _ _ _ _ => trivial), ?_⟩⟩
  · rw [hU]
    refine hP.sub isC ?_
    have : isC.filterMap (fun i => ws[i]?) = (isC.map (fun i => ws[i]?)).filterMap id := by rw [List.filterMap_map]; rfl
    rw [this, hC, List.filterMap_map]
    show wc.filterMap some = wc
    exact List.filterMap_some
  · rw [hU]
    exact hc.down hW (va_free hD hS hA isC hC) (fun a h1 h2 => hS.2.1 a h1 h2)
theorem pcA_preV (hg : gk G s) (hc : gc G A s s.heap) (hP : va_P G.1 vwCl ws H) (hD : va_D A ws) (hS : va_S A s.heap H locs) (hA : ∀ q, s.heap.size ≤ q → A q) (isC : List Nat) (hC : isC.map (fun i => ws[i]?) = wc.map some) (hnC : va_nd isC = true) {q0 ci : Nat} {q : vw_C} {fs : List Value} (hci : vwCl[ci]? = some q) (hq : q.1 = C) (hb0 : ws[q0]? = some (b, .inr (ci, fs))) : PreV s H C b (pcA G (.ref b :: As) wc H.size) As := by
  have h := pcA_pre hg hc hP hD hS hA isC hC hnC (.ref b :: As)
  exact ⟨h.1, hq ▸ va_recv hg.1 hP hci hb0, h.2⟩
def qcI (S : Type) (G : GG) (r0 : Int32) (pu : S → Prop) (wf : S → va_W) (A : Nat → Prop) : Array Value → State → Outcome → State → Prop := va_Qi (fun r u => r = r0 ∧ pu u) (wfB G wf A) A
def qcL (S : Type) (G : GG) (r0 : Int64) (pu : S → Prop) (wf : S → va_W) (A : Nat → Prop) : Array Value → State → Outcome → State → Prop := va_Ql (fun r u => r = r0 ∧ pu u) (wfB G wf A) A
def qcV (S : Type) (G : GG) (pu : S → Prop) (wf : S → va_W) (A : Nat → Prop) : Array Value → State → Outcome → State → Prop := va_Qv pu (wfB G wf A) A
/-- behind a run: the frame rule -/
theorem af_i {r0 : Int32} {a : Array Value} (hr : va_Run p l e R s m args below meth c H locs cells slots mc ms (F0 m pc ls st) rest (qcI S G r0 pu wf (va_A wc H.size) a) (va_A wc H.size)) (hP : va_P G.1 vwCl ws H) (hD : va_D A ws) (hS : va_S A s.heap H locs) (hA : ∀ q, s.heap.size ≤ q → A q) (isC isR : List Nat) (hC : isC.map (fun i => ws[i]?) = wc.map some) (hR : isR.map (fun i => ws[i]?) = wr.map some) (hn : va_nd isR = true) (hdis : ∀ i ∈ isR, i ∉ isC)
    (kk : ∀ (u : S) (H1 : Heap) (locs1 : List Loc), pu u → va_P G.1 vwCl (wr ++ wf u) H1 → va_D A (wr ++ wf u) → va_S A s.heap H1 locs1 → W p l e R s m args below meth c H1 locs1 (cells + mc) (slots + ms) Q (F0 m (pc + 3) ls (.int r0 :: rest))) : W p l e R s m args below meth c H locs cells slots Q (F0 m pc ls st) := by
  have hF := va_free hD hS hA isC hC
  refine va_calli hr hS (fun q _ h => hF q h) hF (fun r u t H1 locs1 ht hvm hw hB hz hk hS1 => ?_)
  obtain ⟨rfl, hu⟩ := hw
  obtain ⟨hP1, hD1⟩ := hB
  rw [ht] at hP1
  obtain ⟨h1, h2⟩ := va_join hP hD isC isR hC hR hn hdis hk hF hP1 hD1
  exact kk u H1 locs1 hu h1 h2 hS1
theorem af_l {r0 : Int64} {a : Array Value} (hr : va_Run p l e R s m args below meth c H locs cells slots mc ms (F0 m pc ls st) rest (qcL S G r0 pu wf (va_A wc H.size) a) (va_A wc H.size)) (hP : va_P G.1 vwCl ws H) (hD : va_D A ws) (hS : va_S A s.heap H locs) (hA : ∀ q, s.heap.size ≤ q → A q) (isC isR : List Nat) (hC : isC.map (fun i => ws[i]?) = wc.map some) (hR : isR.map (fun i => ws[i]?) = wr.map some) (hn : va_nd isR = true) (hdis : ∀ i ∈ isR, i ∉ isC)
    (kk : ∀ (u : S) (H1 : Heap) (locs1 : List Loc), pu u → va_P G.1 vwCl (wr ++ wf u) H1 → va_D A (wr ++ wf u) → va_S A s.heap H1 locs1 → W p l e R s m args below meth c H1 locs1 (cells + mc) (slots + ms) Q (F0 m (pc + 3) ls (.long r0 :: rest))) : W p l e R s m args below meth c H locs cells slots Q (F0 m pc ls st) := by
  have hF := va_free hD hS hA isC hC
  refine va_calll hr hS (fun q _ h => hF q h) hF (fun r u t H1 locs1 ht hvm hw hB hz hk hS1 => ?_)
  obtain ⟨rfl, hu⟩ := hw
  obtain ⟨hP1, hD1⟩ := hB
  rw [ht] at hP1
  obtain ⟨h1, h2⟩ := va_join hP hD isC isR hC hR hn hdis hk hF hP1 hD1
  exact kk u H1 locs1 hu h1 h2 hS1
theorem af_v {a : Array Value} (hr : va_Run p l e R s m args below meth c H locs cells slots mc ms (F0 m pc ls st) rest (qcV S G pu wf (va_A wc H.size) a) (va_A wc H.size)) (hP : va_P G.1 vwCl ws H) (hD : va_D A ws) (hS : va_S A s.heap H locs) (hA : ∀ q, s.heap.size ≤ q → A q) (isC isR : List Nat) (hC : isC.map (fun i => ws[i]?) = wc.map some) (hR : isR.map (fun i => ws[i]?) = wr.map some) (hn : va_nd isR = true) (hdis : ∀ i ∈ isR, i ∉ isC)
    (kk : ∀ (u : S) (H1 : Heap) (locs1 : List Loc), pu u → va_P G.1 vwCl (wr ++ wf u) H1 → va_D A (wr ++ wf u) → va_S A s.heap H1 locs1 → W p l e R s m args below meth c H1 locs1 (cells + mc) (slots + ms) Q (F0 m (pc + 3) ls rest)) : W p l e R s m args below meth c H locs cells slots Q (F0 m pc ls st) := by
  have hF := va_free hD hS hA isC hC
  refine va_callv hr hS (fun q _ h => hF q h) hF (fun u t H1 locs1 ht hvm hu hB hz hk hS1 => ?_)
  obtain ⟨hP1, hD1⟩ := hB
  rw [ht] at hP1
  obtain ⟨h1, h2⟩ := va_join hP hD isC isR hC hR hn hdis hk hF hP1 hD1
  exact kk u H1 locs1 hu h1 h2 hS1
theorem af0_p {wfu : va_W} {H1 : Heap} {locs1 : List Loc} (hP : va_P G.1 vwCl ws H) (hk : ∀ q : Nat, q < H.size → ¬ va_A [] H.size q → H1[q]? = H[q]?) : va_P G.1 vwCl ws H1 := by
  refine hP.kept (fun k q hq => ?_)
  have hl := (hP k q hq).lt
  refine hk q.1 hl (fun h => ?_)
  rcases h with ⟨k2, e2, h⟩ | h
  · simp at h
  · omega
theorem af0_a (hA : ∀ q, s.heap.size ≤ q → A q) (hS : va_S A s.heap H locs) : ∀ q, va_A [] H.size q → A q := by
  intro q h
  rcases h with ⟨k2, e2, h⟩ | h
  · simp at h
  · exact hA q (Nat.le_trans hS.1 h)
theorem af0_i {r0 : Int32} {a : Array Value} (hr : va_Run p l e R s m args below meth c H locs cells slots mc ms (F0 m pc ls st) rest (qcI S G r0 pu wf (va_A [] H.size) a) (va_A [] H.size)) (hP : va_P G.1 vwCl ws H) (hD : va_D A ws) (hS : va_S A s.heap H locs) (hA : ∀ q, s.heap.size ≤ q → A q)
    (kk : ∀ (H1 : Heap) (locs1 : List Loc), va_P G.1 vwCl ws H1 → va_D A ws → va_S A s.heap H1 locs1 → W p l e R s m args below meth c H1 locs1 (cells + mc) (slots + ms) Q (F0 m (pc + 3) ls (.int r0 :: rest))) : W p l e R s m args below meth c H locs cells slots Q (F0 m pc ls st) := by
  have hF := af0_a hA hS
  refine va_calli hr hS (fun q _ h => hF q h) hF (fun r u t H1 locs1 ht hvm hw hB hz hk hS1 => ?_)
  obtain ⟨rfl, hu⟩ := hw
  exact kk H1 locs1 (af0_p (wfu := []) (locs1 := []) hP hk) hD hS1
theorem af0_l {r0 : Int64} {a : Array Value} (hr : va_Run p l e R s m args below meth c H locs cells slots mc ms (F0 m pc ls st) rest (qcL S G r0 pu wf (va_A [] H.size) a) (va_A [] H.size)) (hP : va_P G.1 vwCl ws H) (hD : va_D A ws) (hS : va_S A s.heap H locs) (hA : ∀ q, s.heap.size ≤ q → A q)
    (kk : ∀ (H1 : Heap) (locs1 : List Loc), va_P G.1 vwCl ws H1 → va_D A ws → va_S A s.heap H1 locs1 → W p l e R s m args below meth c H1 locs1 (cells + mc) (slots + ms) Q (F0 m (pc + 3) ls (.long r0 :: rest))) : W p l e R s m args below meth c H locs cells slots Q (F0 m pc ls st) := by
  have hF := af0_a hA hS
  refine va_calll hr hS (fun q _ h => hF q h) hF (fun r u t H1 locs1 ht hvm hw hB hz hk hS1 => ?_)
  obtain ⟨rfl, hu⟩ := hw
  exact kk H1 locs1 (af0_p (wfu := []) (locs1 := []) hP hk) hD hS1
theorem af0_v {a : Array Value} (hr : va_Run p l e R s m args below meth c H locs cells slots mc ms (F0 m pc ls st) rest (qcV S G pu wf (va_A [] H.size) a) (va_A [] H.size)) (hP : va_P G.1 vwCl ws H) (hD : va_D A ws) (hS : va_S A s.heap H locs) (hA : ∀ q, s.heap.size ≤ q → A q)
    (kk : ∀ (H1 : Heap) (locs1 : List Loc), va_P G.1 vwCl ws H1 → va_D A ws → va_S A s.heap H1 locs1 → W p l e R s m args below meth c H1 locs1 (cells + mc) (slots + ms) Q (F0 m (pc + 3) ls rest)) : W p l e R s m args below meth c H locs cells slots Q (F0 m pc ls st) := by
  have hF := af0_a hA hS
  refine va_callv hr hS (fun q _ h => hF q h) hF (fun u t H1 locs1 ht hvm hu hB hz hk hS1 => ?_)
  exact kk H1 locs1 (af0_p (wfu := []) (locs1 := []) hP hk) hD hS1
theorem en {g : JFrame} (h : ∀ (H : Heap) (locs : List Loc), va_P G.1 vwCl ws H → va_D A ws → va_S A s.heap H locs → W p l e R s m args below meth c H locs cells slots Q g) (hP : va_P G.1 vwCl ws s.heap) (hD : va_D A ws) : W p l e R s m args below meth c s.heap [] cells slots Q g := h s.heap [] hP hD va_S.rf
theorem nw_B {N : Nat} {n : Int32} {H0 : Heap} (hx : p.tables.exec = Jvm.exec) (hb : c.code = cc) (harr : (Cond.arrayClass .byte).before args s = true) (hK : va_K G.1 vwCl (tyG G) s) (hP : va_P G.1 vwCl ws H) (hD : va_D A ws) (hS : va_S A H0 H locs) (hA : ∀ q, H0.size ≤ q → A q) (hn : ¬ n < 0) (hN : n.toNatClampNeg = N) (hbytes : N * componentBytes .byte ≤ 536870912) (hcells : cells + 1 ≤ R.cells) (hslots : slots + N ≤ R.slots) (hdg : decode cc pc = .ok (.newarray .byte, 2))
    (kk : ∀ (q : Nat) (H1 : Heap), va_P G.1 vwCl (ws ++ [(q, .inl (G.2.1.1, N, .inl (fun _ => 0)))]) H1 → va_D A (ws ++ [(q, .inl (G.2.1.1, N, .inl (fun _ => 0)))]) → va_S A H0 H1 locs → W p l e R s m args below meth c H1 locs (cells + 1) (slots + N) Q (F0 m (pc + 2) ls (.ref q :: rest))) : W p l e R s m args below meth c H locs cells slots Q (F0 m pc ls (.int n :: rest)) := by
  refine va_newa (atype := .byte) (a0 := (N, .inl (fun _ => 0))) hx hb harr rfl hK hP hD hS hA (fun cA => rfl) hn hN hbytes hcells hslots hdg (fun q cA H1 hK1 hP1 hD1 hS1 => ?_)
  have h1 : s.vm.findClass ("[" ++ (.byte : FieldType).toString) = some cA := (hK1.2 3 (cA, .byte) rfl).2
  have h2 : s.vm.findClass ("[" ++ (.byte : FieldType).toString) = some G.2.1.1 := (hK.2 0 (G.2.1.1, .byte) rfl).2
  rw [h1] at h2
  obtain rfl := Option.some.inj h2
  exact kk q H1 hP1 hD1 hS1
theorem nw_I {N : Nat} {n : Int32} {H0 : Heap} (hx : p.tables.exec = Jvm.exec) (hb : c.code = cc) (harr : (Cond.arrayClass .int).before args s = true) (hK : va_K G.1 vwCl (tyG G) s) (hP : va_P G.1 vwCl ws H) (hD : va_D A ws) (hS : va_S A H0 H locs) (hA : ∀ q, H0.size ≤ q → A q) (hn : ¬ n < 0) (hN : n.toNatClampNeg = N) (hbytes : N * componentBytes .int ≤ 536870912) (hcells : cells + 1 ≤ R.cells) (hslots : slots + N ≤ R.slots) (hdg : decode cc pc = .ok (.newarray .int, 2))
    (kk : ∀ (q : Nat) (H1 : Heap), va_P G.1 vwCl (ws ++ [(q, .inl (G.2.1.2.1, N, .inl (fun _ => 0)))]) H1 → va_D A (ws ++ [(q, .inl (G.2.1.2.1, N, .inl (fun _ => 0)))]) → va_S A H0 H1 locs → W p l e R s m args below meth c H1 locs (cells + 1) (slots + N) Q (F0 m (pc + 2) ls (.ref q :: rest))) : W p l e R s m args below meth c H locs cells slots Q (F0 m pc ls (.int n :: rest)) := by
  refine va_newa (atype := .int) (a0 := (N, .inl (fun _ => 0))) hx hb harr rfl hK hP hD hS hA (fun cA => rfl) hn hN hbytes hcells hslots hdg (fun q cA H1 hK1 hP1 hD1 hS1 => ?_)
  have h1 : s.vm.findClass ("[" ++ (.int : FieldType).toString) = some cA := (hK1.2 3 (cA, .int) rfl).2
  have h2 : s.vm.findClass ("[" ++ (.int : FieldType).toString) = some G.2.1.2.1 := (hK.2 1 (G.2.1.2.1, .int) rfl).2
  rw [h1] at h2
  obtain rfl := Option.some.inj h2
  exact kk q H1 hP1 hD1 hS1
theorem nw_J {N : Nat} {n : Int32} {H0 : Heap} (hx : p.tables.exec = Jvm.exec) (hb : c.code = cc) (harr : (Cond.arrayClass .long).before args s = true) (hK : va_K G.1 vwCl (tyG G) s) (hP : va_P G.1 vwCl ws H) (hD : va_D A ws) (hS : va_S A H0 H locs) (hA : ∀ q, H0.size ≤ q → A q) (hn : ¬ n < 0) (hN : n.toNatClampNeg = N) (hbytes : N * componentBytes .long ≤ 536870912) (hcells : cells + 1 ≤ R.cells) (hslots : slots + N ≤ R.slots) (hdg : decode cc pc = .ok (.newarray .long, 2))
    (kk : ∀ (q : Nat) (H1 : Heap), va_P G.1 vwCl (ws ++ [(q, .inl (G.2.1.2.2, N, .inr (.inl (fun _ => 0))))]) H1 → va_D A (ws ++ [(q, .inl (G.2.1.2.2, N, .inr (.inl (fun _ => 0))))]) → va_S A H0 H1 locs → W p l e R s m args below meth c H1 locs (cells + 1) (slots + N) Q (F0 m (pc + 2) ls (.ref q :: rest))) : W p l e R s m args below meth c H locs cells slots Q (F0 m pc ls (.int n :: rest)) := by
  refine va_newa (atype := .long) (a0 := (N, .inr (.inl (fun _ => 0)))) hx hb harr rfl hK hP hD hS hA (fun cA => rfl) hn hN hbytes hcells hslots hdg (fun q cA H1 hK1 hP1 hD1 hS1 => ?_)
  have h1 : s.vm.findClass ("[" ++ (.long : FieldType).toString) = some cA := (hK1.2 3 (cA, .long) rfl).2
  have h2 : s.vm.findClass ("[" ++ (.long : FieldType).toString) = some G.2.1.2.2 := (hK.2 2 (G.2.1.2.2, .long) rfl).2
  rw [h1] at h2
  obtain rfl := Option.some.inj h2
  exact kk q H1 hP1 hD1 hS1
theorem rt_i {r0 : Int32} {u : S} (hx : p.tables.exec = Jvm.exec) (hb : c.code = cc) (hr : meth.sig.returnType = some .int) (hlocks : meth.locks = false) (hP : va_P G.1 vwCl (wf u) H) (hD : va_D A (wf u)) (hu : pu u) (hS : va_S A s.heap H locs) (hdg : decode cc pc = .ok (.ireturn, 1)) : W p l e R s m args below meth c H locs cells slots (MQ below (qcI S G r0 pu wf A) args s cells slots A) (F0 m pc ls [.int r0]) :=
  W.iret (v := r0) hx hb hr (fun t ht _ => ⟨⟨r0, u, rfl, ⟨rfl, hu⟩, by rw [ht]; exact hP, hD⟩, hS.F ht⟩) hS.2.2 hdg hlocks
theorem rt_z {r0 : Int32} {u : S} (hx : p.tables.exec = Jvm.exec) (hb : c.code = cc) (hr : meth.sig.returnType = some .boolean) (hz : zb r0 = true) (hlocks : meth.locks = false) (hP : va_P G.1 vwCl (wf u) H) (hD : va_D A (wf u)) (hu : pu u) (hS : va_S A s.heap H locs) (hdg : decode cc pc = .ok (.ireturn, 1)) : W p l e R s m args below meth c H locs cells slots (MQ below (qcI S G r0 pu wf A) args s cells slots A) (F0 m pc ls [.int r0]) :=
  W.zret (v := r0) hx hb hr (zb_n hz) (fun t ht _ => ⟨⟨r0, u, rfl, ⟨rfl, hu⟩, by rw [ht]; exact hP, hD⟩, hS.F ht⟩) hS.2.2 hdg hlocks
theorem rt_c {r0 : Int32} {ty : FieldType} {u : S} (hx : p.tables.exec = Jvm.exec) (hb : c.code = cc) (hr : meth.sig.returnType = some ty) (hn : narrow ty (.int r0) = .int r0) (hlocks : meth.locks = false) (hP : va_P G.1 vwCl (wf u) H) (hD : va_D A (wf u)) (hu : pu u) (hS : va_S A s.heap H locs) (hdg : decode cc pc = .ok (.ireturn, 1)) : W p l e R s m args below meth c H locs cells slots (MQ below (qcI S G r0 pu wf A) args s cells slots A) (F0 m pc ls [.int r0]) :=
  W.zret (v := r0) hx hb hr hn (fun t ht _ => ⟨⟨r0, u, rfl, ⟨rfl, hu⟩, by rw [ht]; exact hP, hD⟩, hS.F ht⟩) hS.2.2 hdg hlocks
theorem rt_l {r0 : Int64} {u : S} (hx : p.tables.exec = Jvm.exec) (hb : c.code = cc) (hr : meth.sig.returnType = some .long) (hlocks : meth.locks = false) (hP : va_P G.1 vwCl (wf u) H) (hD : va_D A (wf u)) (hu : pu u) (hS : va_S A s.heap H locs) (hdg : decode cc pc = .ok (.lreturn, 1)) : W p l e R s m args below meth c H locs cells slots (MQ below (qcL S G r0 pu wf A) args s cells slots A) (F0 m pc ls [.long r0]) :=
  W.lret (v := r0) hx hb hr (fun t ht _ => ⟨⟨r0, u, rfl, ⟨rfl, hu⟩, by rw [ht]; exact hP, hD⟩, hS.F ht⟩) hS.2.2 hdg hlocks
theorem rt_v {u : S} (hx : p.tables.exec = Jvm.exec) (hb : c.code = cc) (hr : meth.sig.returnType = none) (hlocks : meth.locks = false) (hP : va_P G.1 vwCl (wf u) H) (hD : va_D A (wf u)) (hu : pu u) (hS : va_S A s.heap H locs) (hdg : decode cc pc = .ok (.return_, 1)) : W p l e R s m args below meth c H locs cells slots (MQ below (qcV S G pu wf A) args s cells slots A) (F0 m pc ls []) :=
  W.vret hx hb hr (fun t ht _ => ⟨⟨u, rfl, hu, by rw [ht]; exact hP, hD⟩, hS.F ht⟩) hS.2.2 hdg hlocks
end MyCalls
