-- ===== items, side by side =====
abbrev RU : Type := Int32 × Int32 × Int32 × Int32 × Int32 × Int32 × Int32 × Int64 × (Nat → Int64) × (Nat → Int32) × (Nat → Int64)
abbrev RI : Type := Int32 × Int32 × Int32 × Int32 × Int32 × Int32 × Int32 × Int64 × (Nat → Int64) × (Nat → Int32) × (Nat → Int64) × (Nat → Int32)
theorem rule_both {α : Type} {tx : Nat → Nat} {N : Nat} {tt tk pl : Nat → Int32} {M : Nat} (hT : TXm tx N tt) (hM : M ≤ 400) (L : List (Nat × Nat)) (j : Nat) (hj : j + L.length = M) (hR : repT N tk pl j L) :
    ∃ (ok : Bool) (v1 v2 : Int64) (j' : Nat) (L' : List (Nat × Nat)), j' + L'.length = M ∧ repT N tk pl j' L' ∧ L'.length ≤ L.length ∧
      (∀ K : Int64 → Int64 → Int32 → Int32 → Option α, bd (f_X3_saying (f_one 9) (nI (M + 1)) (nI j) (nI (hd L)) tk (0 : Int32)) (fun o4 => bd (f_X3_expect (nI (M + 1)) o4.2.1 o4.2.2 tk (260 : Int32)) (fun o5 => bd (f_X3_saying (f_one 9) (nI (M + 1)) o5.1 o5.2 tk (0 : Int32)) (fun o6 => K o4.1 o6.1 o6.2.1 o6.2.2))) = K v1 v2 (nI j') (tkc ok L')) ∧
      ∀ (i : Nat) (a k s vm wm op : Int32) (sy : Int64) (vals : Nat → Int64) (waits : Nat → Int32) (fresh : Nat → Int64), i ≤ 8 → Cur tx N a k s L → ∃ r : RU, f_X8_rules (nI N) a k s vm wm op sy tt vals waits fresh (nI i) = some r ∧ r.1 = (if ok = true then 1 else 0) ∧ Cur tx N r.2.1 r.2.2.1 r.2.2.2.1 L' ∧ (ok = true → r.2.2.2.2.2.2.2.2.2.2 = vp_updL (vp_updL fresh (9 + i) v1) (18 + i) v2) := by
  obtain ⟨ok1, v1, j1, L1, a1, a2, a3, a4, a5, a6⟩ := say_both (tk := tk) (pl := pl) hT hM L j hj hR
  have hh := repT_hd a2
  cases ok1 with
  | false =>
    refine ⟨false, v1, 0, j1, L1, a1, a2, a3, ?_, ?_⟩
    · intro K
      rw [a5, bd_s, expect_n _ _ _ _ _ (show ¬ tkc false L1 = (260 : Int32) from tkc_no' (t := 260) (by decide) (by decide)), bd_s, say_X, bd_s]
      rfl
    · intro i a k s vm wm op sy vals waits fresh hi hC
      obtain ⟨r, e, r1, r2, r3⟩ := a6 a k s vm wm op sy vals waits hC
      unfold f_X8_rules
      rw [e, bd_s, r1, if_pos f10]
      exact ⟨_, rfl, rfl, r2, fun h => by cases h⟩
  | true =>
    by_cases h4 : hdc L1 = 4
    · obtain ⟨q, L2, rfl⟩ := cons_of (by decide) h4
      have a1' := a1
      rw [List.length_cons] at a1'
      obtain ⟨ok, v2, j2, L3, b1, b2, b3, b4, b5, b6⟩ := say_both (tk := tk) (pl := pl) hT hM L2 (j1 + 1) (by omega) (repT_tl a2)
      refine ⟨ok, v1, v2, j2, L3, b1, b2, by rw [List.length_cons] at a3; omega, ?_, ?_⟩
      · intro K
        rw [a5, bd_s, show tkc true ((4, q) :: L2) = nI (hd ((4, q) :: L2)) from rfl, show (260 : Int32) = nI 260 from rfl, expect_y (t := 260) hM a1 a2 rfl, bd_s, b5, bd_s]
      · intro i a k s vm wm op sy vals waits fresh hi hC
        obtain ⟨r, e, r1, r2, r3⟩ := a6 a k s vm wm op sy vals waits hC
        obtain ⟨a', k', s', es, hC'⟩ := scan_next hT.1 tt hT.2.1 hT.2.2 r2
        have rk : r.2.2.1 = nI 4 := (Cur_k r2).1
        obtain ⟨r', e', r1', r2', r3'⟩ := b6 a' k' s' r.2.2.2.2.1 r.2.2.2.2.2.1 r.2.2.2.2.2.2.1 r.2.2.2.2.2.2.2.1 r.2.2.2.2.2.2.2.2.1 r.2.2.2.2.2.2.2.2.2 hC'
        unfold f_X8_rules
        rw [e, bd_s, r1, if_neg (show ¬ (if true = true then (1 : Int32) else 0) = 0 from z10), ad9, gdi (by omega) (by decide), if_pos (show r.2.2.1 = (4 : Int32) from rk), es, bd_s, e', bd_s, r1', clp (by omega), ad18]
        cases ok with
        | false =>
          rw [if_pos f10]
          exact ⟨_, rfl, rfl, r2', fun h => by cases h⟩
        | true =>
          rw [if_neg (show ¬ (if true = true then (1 : Int32) else 0) = 0 from z10), gdi (by omega) (by decide), clp (by omega)]
          refine ⟨_, rfl, rfl, r2', fun _ => ?_⟩
          show vp_updL (vp_updL fresh (9 + i) _) (18 + i) _ = _
          rw [r3 rfl, r3' rfl]
    · refine ⟨false, v1, 0, j1, L1, a1, a2, a3, ?_, ?_⟩
      · intro K
        rw [a5, bd_s, expect_n _ _ _ _ _ (show ¬ tkc true L1 = (260 : Int32) from fun z => h4 ((hd_eq hh.2 (t := 260) (by decide) (cC_260 _ hh.2)).mp z)), bd_s, say_X, bd_s]
        rfl
      · intro i a k s vm wm op sy vals waits fresh hi hC
        obtain ⟨r, e, r1, r2, r3⟩ := a6 a k s vm wm op sy vals waits hC
        have rk := Cur_k r2
        unfold f_X8_rules
        rw [e, bd_s, r1, if_neg (show ¬ (if true = true then (1 : Int32) else 0) = 0 from z10), ad9, gdi (by omega) (by decide), if_neg (show ¬ r.2.2.1 = (4 : Int32) by rw [rk.1]; exact ncu (d := 4) rk.2 (by decide) h4)]
        exact ⟨_, rfl, rfl, r2, fun h => by cases h⟩
theorem full_no {m k : Nat} (hm : m ≤ 9) (hk : k < m) : f_X5_isFull (nI m) (nI k) = some 0 := by
  unfold f_X5_isFull
  rw [if_pos (show nI k < nI m by rw [nlt (by omega) (by omega)]; exact hk)]
theorem full_yes {m : Nat} (hm : m ≤ 9) : f_X5_isFull (nI m) (nI m) = some 1 := by
  unfold f_X5_isFull
  rw [if_neg (show ¬ nI m < nI m by rw [nlt (by omega) (by omega)]; omega)]
/-- an item of one saying -/
theorem item_list {tx : Nat → Nat} {N : Nat} {tt tk pl : Nat → Int32} {M : Nat} (hT : TXm tx N tt) (hM : M ≤ 400) {c q st m k : Nat} (L : List (Nat × Nat)) (j : Nat) (hj : j + ((c, q) :: L).length = M) (hR : repT N tk pl j ((c, q) :: L))
    (hs : f_X8_sortOf (nI c) = some (nI st)) (hst : st < 5) (h1 : ¬ st = 1) (hmo : f_X8_mostOf (nI st) = some (nI m)) (hm : m ≤ 9) (hk : k < m) (kept : Nat → Int64) :
    ∃ (ok : Bool) (v : Int64) (j' : Nat) (L' : List (Nat × Nat)), j' + L'.length = M ∧ repT N tk pl j' L' ∧ L'.length ≤ L.length ∧
      f_X3_readListed (nI (M + 1)) (nI j) (nI (hd ((c, q) :: L))) tk (nI m) (nI k) kept = some (nI j', tkc ok L', nI (k + 1), vp_updL kept k v) ∧
      ∀ (a kk s vm wm op : Int32) (sy : Int64) (vals : Nat → Int64) (waits : Nat → Int32) (fresh : Nat → Int64) (fm : Nat → Int32), fm st = nI k → Cur tx N a kk s ((c, q) :: L) → ∃ r : RI, f_X8_item (nI N) a kk s vm wm op sy tt vals waits fresh fm = some r ∧ r.1 = (if ok = true then 1 else 0) ∧ Cur tx N r.2.1 r.2.2.1 r.2.2.2.1 L' ∧ (ok = true → r.2.2.2.2.2.2.2.2.2.2.1 = vp_updL fresh (9 * st + k) v ∧ r.2.2.2.2.2.2.2.2.2.2.2 = upd fm st (nI (k + 1))) := by
  have hj' := hj
  rw [List.length_cons] at hj'
  obtain ⟨ok1, v, j1, L1, a1, a2, a3, a4, a5, a6⟩ := say_both (tk := tk) (pl := pl) hT hM L (j + 1) (by omega) (repT_tl hR)
  have hh := repT_hd a2
  have cl : f_X3_readListed (nI (M + 1)) (nI j) (nI (hd ((c, q) :: L))) tk (nI m) (nI k) kept = bd (f_X3_expect (nI (M + 1)) (nI j1) (tkc ok1 L1) tk (59 : Int32)) (fun o6 => some (o6.1, o6.2, nI (k + 1), vp_updL kept k v)) := by
    unfold f_X3_readListed
    rw [full_no hm hk, bd_s, if_pos rfl, take_eq hM hj hR, bd_s, a5, bd_s, add_eq hm hk, bd_s]
  have mo : ∀ (a kk s vm wm op : Int32) (sy : Int64) (vals : Nat → Int64) (waits : Nat → Int32) (fresh : Nat → Int64) (fm : Nat → Int32), fm st = nI k → Cur tx N a kk s ((c, q) :: L) → ∃ r : RT, r.1 = (if ok1 = true then 1 else 0) ∧ Cur tx N r.2.1 r.2.2.1 r.2.2.2.1 L1 ∧ (ok1 = true → r.2.2.2.2.2.2.2.1 = v) ∧
      f_X8_item (nI N) a kk s vm wm op sy tt vals waits fresh fm = (if r.1 = (0 : Int32) then some ((0 : Int32), r.2.1, r.2.2.1, r.2.2.2.1, r.2.2.2.2.1, r.2.2.2.2.2.1, r.2.2.2.2.2.2.1, r.2.2.2.2.2.2.2.1, r.2.2.2.2.2.2.2.2.1, r.2.2.2.2.2.2.2.2.2, fresh, fm) else (jn_X8_item_77 (nI N) tt r.2.1 r.2.2.1 r.2.2.2.1 r.2.2.2.2.1 r.2.2.2.2.2.1 r.2.2.2.2.2.2.1 r.2.2.2.2.2.2.2.1 r.2.2.2.2.2.2.2.2.1 r.2.2.2.2.2.2.2.2.2 (vp_updL fresh (9 * st + k) r.2.2.2.2.2.2.2.1) fm (nI st))) := by
    intro a kk s vm wm op sy vals waits fresh fm hf hC
    have hk' := (Cur_k hC).1
    obtain ⟨a', k', s', es, hC'⟩ := scan_next hT.1 tt hT.2.1 hT.2.2 hC
    obtain ⟨r, e, r1, r2, r3⟩ := a6 a' k' s' vm wm op sy vals waits hC'
    refine ⟨r, r1, r2, r3, ?_⟩
    unfold f_X8_item
    rw [show f_X8_sortOf kk = some (nI st) from by rw [hk']; exact hs, bd_s, if_neg (lnn (by omega)), gdi hst (by decide), hmo, bd_s, clp (by omega), hf, if_neg (by rw [neq (by omega) (by omega)]; omega), gdi hst (by decide), lt_y, es, bd_s, if_neg (show ¬ nI st = (1 : Int32) by rw [i1, neq (by omega) (by decide)]; exact h1), e, bd_s, show (9 : Int32) * nI st + nI k = nI (9 * st + k) from by rw [show (9 : Int32) = nI 9 from rfl, show nI 9 * nI st = nI (9 * st) from (Int32.ofNat_mul 9 st).symm, nI_add], gdi (by omega) (by decide), clp (by omega)]
  cases ok1 with
  | false =>
    refine ⟨false, v, j1, L1, a1, a2, a3, ?_, ?_⟩
    · rw [cl, expect_n _ _ _ _ _ (show ¬ tkc false L1 = (59 : Int32) from tkc_no (t := 59) (by decide)), bd_s]; rfl
    · intro a kk s vm wm op sy vals waits fresh fm hf hC
      obtain ⟨r, r1, r2, r3, e⟩ := mo a kk s vm wm op sy vals waits fresh fm hf hC
      rw [e, r1, if_pos f10]
      exact ⟨_, rfl, rfl, r2, fun h => by cases h⟩
  | true =>
    by_cases h19 : hdc L1 = 19
    · obtain ⟨q2, L2, rfl⟩ := cons_of (by decide) h19
      have a1' := a1
      rw [List.length_cons] at a1' a3
      refine ⟨true, v, j1 + 1, L2, by omega, repT_tl a2, by omega, ?_, ?_⟩
      · rw [cl, show tkc true ((19, q2) :: L2) = nI (hd ((19, q2) :: L2)) from rfl, show (59 : Int32) = nI 59 from rfl, expect_y (t := 59) hM a1 a2 rfl, bd_s]; rfl
      · intro a kk s vm wm op sy vals waits fresh fm hf hC
        obtain ⟨r, r1, r2, r3, e⟩ := mo a kk s vm wm op sy vals waits fresh fm hf hC
        obtain ⟨a', k', s', es, hC'⟩ := scan_next hT.1 tt hT.2.1 hT.2.2 r2
        have rk : r.2.2.1 = nI 19 := (Cur_k r2).1
        rw [e, r1, if_neg (show ¬ (if true = true then (1 : Int32) else 0) = 0 from z10)]
        unfold jn_X8_item_77
        rw [if_pos (show r.2.2.1 = (19 : Int32) from rk), gdi hst (by decide), gdi hst (by decide), es, bd_s, clp (by omega), hf, nI_s]
        refine ⟨_, rfl, rfl, hC', fun _ => ⟨?_, rfl⟩⟩
        show vp_updL fresh (9 * st + k) _ = _
        rw [r3 rfl]
    · refine ⟨false, v, j1, L1, a1, a2, a3, ?_, ?_⟩
      · rw [cl, expect_n _ _ _ _ _ (show ¬ tkc true L1 = (59 : Int32) from fun z => h19 ((hd_eq hh.2 (t := 59) (by decide) (cC_59 _ hh.2)).mp z)), bd_s]; rfl
      · intro a kk s vm wm op sy vals waits fresh fm hf hC
        obtain ⟨r, r1, r2, r3, e⟩ := mo a kk s vm wm op sy vals waits fresh fm hf hC
        have rk := Cur_k r2
        rw [e, r1, if_neg (show ¬ (if true = true then (1 : Int32) else 0) = 0 from z10)]
        unfold jn_X8_item_77
        rw [if_neg (show ¬ r.2.2.1 = (19 : Int32) by rw [rk.1]; exact ncu (d := 19) rk.2 (by decide) h19)]
        exact ⟨_, rfl, rfl, r2, fun h => by cases h⟩
/-- an item of two -/
theorem item_rule {tx : Nat → Nat} {N : Nat} {tt tk pl : Nat → Int32} {M : Nat} (hT : TXm tx N tt) (hM : M ≤ 400) {q k : Nat} (L : List (Nat × Nat)) (j : Nat) (hj : j + ((3, q) :: L).length = M) (hR : repT N tk pl j ((3, q) :: L)) (hk : k < 8) (wk tkk : Nat → Int64) :
    ∃ (ok : Bool) (v1 v2 : Int64) (j' : Nat) (L' : List (Nat × Nat)), j' + L'.length = M ∧ repT N tk pl j' L' ∧ L'.length ≤ L.length ∧
      f_X3_readRule (nI (M + 1)) (nI j) (nI (hd ((3, q) :: L))) tk (nI 8) (nI k) wk (nI 8) (nI k) tkk = some (nI j', tkc ok L', nI (k + 1), vp_updL wk k v1, nI (k + 1), vp_updL tkk k v2) ∧
      ∀ (a kk s vm wm op : Int32) (sy : Int64) (vals : Nat → Int64) (waits : Nat → Int32) (fresh : Nat → Int64) (fm : Nat → Int32), fm 1 = nI k → Cur tx N a kk s ((3, q) :: L) → ∃ r : RI, f_X8_item (nI N) a kk s vm wm op sy tt vals waits fresh fm = some r ∧ r.1 = (if ok = true then 1 else 0) ∧ Cur tx N r.2.1 r.2.2.1 r.2.2.2.1 L' ∧ (ok = true → r.2.2.2.2.2.2.2.2.2.2.1 = vp_updL (vp_updL fresh (9 + k) v1) (18 + k) v2 ∧ r.2.2.2.2.2.2.2.2.2.2.2 = upd fm 1 (nI (k + 1))) := by
  have hj' := hj
  rw [List.length_cons] at hj'
  obtain ⟨ok1, v1, v2, j1, L1, a1, a2, a3, a5, a6⟩ := rule_both (α := Int32 × Int32 × Int32 × (Nat → Int64) × Int32 × (Nat → Int64)) (tk := tk) (pl := pl) hT hM L (j + 1) (by omega) (repT_tl hR)
  have hh := repT_hd a2
  have cl : f_X3_readRule (nI (M + 1)) (nI j) (nI (hd ((3, q) :: L))) tk (nI 8) (nI k) wk (nI 8) (nI k) tkk = bd (f_X3_expect (nI (M + 1)) (nI j1) (tkc ok1 L1) tk (59 : Int32)) (fun o8 => some (o8.1, o8.2, nI (k + 1), vp_updL wk k v1, nI (k + 1), vp_updL tkk k v2)) := by
    unfold f_X3_readRule
    rw [show f_X4_isFull (nI 8) (nI k) = some 0 from (show f_X4_isFull (nI 8) (nI k) = bd (f_X5_isFull (nI 8) (nI k)) (fun o => _) from rfl).trans (by rw [full_no (by decide) hk]; rfl), bd_s, if_pos rfl, take_eq hM hj hR, bd_s]
    refine (a5 (fun x y c d => bd (f_X4_add (nI 8) (nI k) wk (nI 8) (nI k) tkk x y) (fun o7 => bd (f_X3_expect (nI (M + 1)) c d tk (59 : Int32)) (fun o8 => some (o8.1, o8.2, o7.1, o7.2.1, o7.2.2.1, o7.2.2.2))))).trans ?_
    rw [add4_eq (by decide) hk, bd_s]
  have mo : ∀ (a kk s vm wm op : Int32) (sy : Int64) (vals : Nat → Int64) (waits : Nat → Int32) (fresh : Nat → Int64) (fm : Nat → Int32), fm 1 = nI k → Cur tx N a kk s ((3, q) :: L) → ∃ r : RU, r.1 = (if ok1 = true then 1 else 0) ∧ Cur tx N r.2.1 r.2.2.1 r.2.2.2.1 L1 ∧ (ok1 = true → r.2.2.2.2.2.2.2.2.2.2 = vp_updL (vp_updL fresh (9 + k) v1) (18 + k) v2) ∧
      f_X8_item (nI N) a kk s vm wm op sy tt vals waits fresh fm = (if r.1 = (0 : Int32) then some ((0 : Int32), r.2.1, r.2.2.1, r.2.2.2.1, r.2.2.2.2.1, r.2.2.2.2.2.1, r.2.2.2.2.2.2.1, r.2.2.2.2.2.2.2.1, r.2.2.2.2.2.2.2.2.1, r.2.2.2.2.2.2.2.2.2.1, r.2.2.2.2.2.2.2.2.2.2, fm) else (jn_X8_item_77 (nI N) tt r.2.1 r.2.2.1 r.2.2.2.1 r.2.2.2.2.1 r.2.2.2.2.2.1 r.2.2.2.2.2.2.1 r.2.2.2.2.2.2.2.1 r.2.2.2.2.2.2.2.2.1 r.2.2.2.2.2.2.2.2.2.1 r.2.2.2.2.2.2.2.2.2.2 fm (nI 1))) := by
    intro a kk s vm wm op sy vals waits fresh fm hf hC
    have hk' := (Cur_k hC).1
    obtain ⟨a', k', s', es, hC'⟩ := scan_next hT.1 tt hT.2.1 hT.2.2 hC
    obtain ⟨r, e, r1, r2, r3⟩ := a6 k a' k' s' vm wm op sy vals waits fresh (by omega) hC'
    refine ⟨r, r1, r2, r3, ?_⟩
    unfold f_X8_item
    rw [show f_X8_sortOf kk = some (nI 1) from by rw [hk']; rfl, bd_s, if_neg (lnn (by decide)), gdi (by decide) (by decide), show f_X8_mostOf (nI 1) = some (nI 8) from rfl, bd_s, clp (by decide), hf, if_neg (by rw [neq (by omega) (by decide)]; omega), gdi (by decide) (by decide), lt_y, es, bd_s, if_pos (show nI 1 = (1 : Int32) from rfl), e, bd_s]
  cases ok1 with
  | false =>
    refine ⟨false, v1, v2, j1, L1, a1, a2, a3, ?_, ?_⟩
    · rw [cl, expect_n _ _ _ _ _ (show ¬ tkc false L1 = (59 : Int32) from tkc_no (t := 59) (by decide)), bd_s]; rfl
    · intro a kk s vm wm op sy vals waits fresh fm hf hC
      obtain ⟨r, r1, r2, r3, e⟩ := mo a kk s vm wm op sy vals waits fresh fm hf hC
      rw [e, r1, if_pos f10]
      exact ⟨_, rfl, rfl, r2, fun h => by cases h⟩
  | true =>
    by_cases h19 : hdc L1 = 19
    · obtain ⟨q2, L2, rfl⟩ := cons_of (by decide) h19
      have a1' := a1
      rw [List.length_cons] at a1' a3
      refine ⟨true, v1, v2, j1 + 1, L2, by omega, repT_tl a2, by omega, ?_, ?_⟩
      · rw [cl, show tkc true ((19, q2) :: L2) = nI (hd ((19, q2) :: L2)) from rfl, show (59 : Int32) = nI 59 from rfl, expect_y (t := 59) hM a1 a2 rfl, bd_s]; rfl
      · intro a kk s vm wm op sy vals waits fresh fm hf hC
        obtain ⟨r, r1, r2, r3, e⟩ := mo a kk s vm wm op sy vals waits fresh fm hf hC
        obtain ⟨a', k', s', es, hC'⟩ := scan_next hT.1 tt hT.2.1 hT.2.2 r2
        have rk : r.2.2.1 = nI 19 := (Cur_k r2).1
        rw [e, r1, if_neg (show ¬ (if true = true then (1 : Int32) else 0) = 0 from z10)]
        unfold jn_X8_item_77
        rw [if_pos (show r.2.2.1 = (19 : Int32) from rk), gdi (by decide) (by decide), gdi (by decide) (by decide), es, bd_s, clp (by decide), hf, nI_s]
        exact ⟨_, rfl, rfl, hC', fun _ => ⟨r3 rfl, rfl⟩⟩
    · refine ⟨false, v1, v2, j1, L1, a1, a2, a3, ?_, ?_⟩
      · rw [cl, expect_n _ _ _ _ _ (show ¬ tkc true L1 = (59 : Int32) from fun z => h19 ((hd_eq hh.2 (t := 59) (by decide) (cC_59 _ hh.2)).mp z)), bd_s]; rfl
      · intro a kk s vm wm op sy vals waits fresh fm hf hC
        obtain ⟨r, r1, r2, r3, e⟩ := mo a kk s vm wm op sy vals waits fresh fm hf hC
        have rk := Cur_k r2
        rw [e, r1, if_neg (show ¬ (if true = true then (1 : Int32) else 0) = 0 from z10)]
        unfold jn_X8_item_77
        rw [if_neg (show ¬ r.2.2.1 = (19 : Int32) by rw [rk.1]; exact ncu (d := 19) rk.2 (by decide) h19)]
        exact ⟨_, rfl, rfl, r2, fun h => by cases h⟩
