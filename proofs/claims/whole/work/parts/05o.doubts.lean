-- ===== doubts =====
theorem nI_sub {a b : Nat} (h : b ≤ a) : nI a - nI b = nI (a - b) := by
  have e : nI a = nI (a - b) + nI b := by rw [nI_add, show a - b + b = a by omega]
  rw [e, Int32.add_sub_cancel]
theorem nI_an {a b : Nat} (h : b ≤ a) : nI a + -(nI b) = nI (a - b) := by
  rw [← Int32.sub_eq_add_neg]; exact nI_sub h
theorem mnI_eq {a b : Nat} (ha : a < 2 ^ 31) (hb : b < 2 ^ 31) : mnI (nI a) (nI b) = nI (min a b) := by
  unfold mnI
  by_cases h : b < a
  · rw [if_pos (by rw [nlt hb ha]; exact h), Nat.min_eq_right (by omega)]
  · rw [if_neg (by rw [nlt hb ha]; exact h), Nat.min_eq_left (by omega)]
def lsN (x : Int64) (dn : Nat → Nat) (s : Nat) : Nat := fo (fun w m => if bl x w = true then min m (dn w) else m) 64 0 s
theorem dleast_eq (dk : Nat → Int32) (dn : Nat → Nat) (x : Int64) (h : ∀ w, w < 64 → bl x w = true → dk w = nI (dn w) ∧ dn w ≤ 99) : f_X0_least dk x = some (nI (lsN x dn 99)) := by
  unfold f_X0_least lsN
  have step : ∀ (c i m n : Nat), i + c = 64 → c < n → m ≤ 99 → lp_X0_least_6 dk x n (nI m) (nI i) = some (nI (fo (fun w m => if bl x w = true then min m (dn w) else m) c i m)) := by
    intro c
    induction c with
    | zero =>
      intro i m n hi hn hm
      obtain ⟨n, rfl⟩ : ∃ q, n = q + 1 := ⟨n - 1, by omega⟩
      rw [lp_X0_least_6, if_pos (by rw [i64, nle (by decide) (by omega)]; omega)]
      rfl
    | succ c ih =>
      intro i m n hi hn hm
      obtain ⟨n, rfl⟩ : ∃ q, n = q + 1 := ⟨n - 1, by omega⟩
      rw [lp_X0_least_6, if_neg (by rw [i64, nle (by decide) (by omega)]; omega), holds_eq x (by omega), bd_s]
      show _ = some (nI (fo _ c (i + 1) (if bl x i = true then min m (dn i) else m)))
      by_cases hb : bl x i = true
      · obtain ⟨e, hd⟩ := h i (by omega) hb
        rw [if_pos hb, if_neg z10, gdi (by omega) (by decide), clp (by omega), lt_y, lt_y, nI_s, if_pos hb, e, mnI_eq (by omega) (by omega)]
        exact ih (i + 1) _ n (by omega) (by omega) (by omega)
      · rw [if_neg hb, if_pos rfl, lt_y, nI_s, if_neg hb]
        exact ih (i + 1) m n (by omega) (by omega) hm
  exact step 64 0 99 fu (by decide) (by decide) (by decide)
theorem mleast_eq (dk : Nat → Int32) (dn : Nat → Nat) (th x : Int64) (h : ∀ w, w < 64 → bl th w = true → dk w = nI (dn w) ∧ dn w ≤ 99) (h9 : ∀ w, w < 64 → ¬ bl th w = true → dk w = -9) : f_X8_leastOf dk x = some (nI (lsN (th &&& x) dn 1000)) := by
  unfold f_X8_leastOf lsN
  have step : ∀ (c i m n : Nat), i + c = 64 → c < n → m ≤ 1000 → lp_X8_leastOf_7 dk x n (nI m) (nI i) = some (nI (fo (fun w m => if bl (th &&& x) w = true then min m (dn w) else m) c i m)) := by
    intro c
    induction c with
    | zero =>
      intro i m n hi hn hm
      obtain ⟨n, rfl⟩ : ∃ q, n = q + 1 := ⟨n - 1, by omega⟩
      rw [lp_X8_leastOf_7, if_pos (by rw [i64, nle (by decide) (by omega)]; omega)]
      rfl
    | succ c ih =>
      intro i m n hi hn hm
      obtain ⟨n, rfl⟩ : ∃ q, n = q + 1 := ⟨n - 1, by omega⟩
      rw [lp_X8_leastOf_7, if_neg (by rw [i64, nle (by decide) (by omega)]; omega), gdi (by omega) (by decide), clp (by omega)]
      show _ = some (nI (fo _ c (i + 1) (if bl (th &&& x) i = true then min m (dn i) else m)))
      rw [bl_and]
      by_cases hb : bl th i = true
      · obtain ⟨e, hd⟩ := h i (by omega) hb
        rw [e, if_neg (lnn (by omega)), has_eq x (by omega), bd_s, hb, Bool.true_and]
        by_cases hx : bl x i = true
        · rw [if_pos hx, if_neg z10, gdi (by omega) (by decide), if_pos hx]
          by_cases hl : m ≤ dn i
          · rw [if_pos (by rw [nle (by omega) (by omega)]; exact hl), lt_y, nI_s, Nat.min_eq_left hl]
            exact ih (i + 1) _ n (by omega) (by omega) (by omega)
          · rw [if_neg (by rw [nle (by omega) (by omega)]; exact hl), gdi (by omega) (by decide), lt_y, lt_y, nI_s, Nat.min_eq_right (by omega)]
            exact ih (i + 1) _ n (by omega) (by omega) (by omega)
        · rw [if_neg hx, if_pos rfl, lt_y, nI_s, if_neg hx]
          exact ih (i + 1) m n (by omega) (by omega) hm
      · rw [h9 i (by omega) hb, if_pos (by decide), lt_y, nI_s]
        have hf : bl th i = false := by cases hh : bl th i; rfl; exact absurd hh hb
        rw [hf, Bool.false_and, if_neg (by decide)]
        exact ih (i + 1) m n (by omega) (by omega) hm
  exact step 64 0 1000 fu (by decide) (by decide) (by decide)
theorem lsN_rel (x : Int64) (dn : Nat → Nat) (h : ∀ w, w < 64 → bl x w = true → dn w ≤ 99) : (x = 0 ∧ lsN x dn 1000 = 1000) ∨ (¬ x = 0 ∧ lsN x dn 1000 = lsN x dn 99 ∧ lsN x dn 99 ≤ 99 ∧ ∀ w, w < 64 → bl x w = true → lsN x dn 99 ≤ dn w) := by
  have hh := fo_rel (fun w m => if bl x w = true then min m (dn w) else m) (fun w m => if bl x w = true then min m (dn w) else m)
    (fun i a b => (a = 1000 ∧ b = 99 ∧ ∀ w, w < i → bl x w = false) ∨ (a = b ∧ b ≤ 99 ∧ (∃ w, w < i ∧ bl x w = true) ∧ ∀ w, w < i → bl x w = true → b ≤ dn w)) 64 0 1000 99 (Or.inl ⟨rfl, rfl, fun w hw => absurd hw (Nat.not_lt_zero w)⟩) (fun j a b _ hj hI => ?_)
  · rcases hh with ⟨h1, h2, h3⟩ | ⟨h1, h2, ⟨w, hw, hb⟩, h4⟩
    · exact Or.inl ⟨bl_ext (fun w hw => by rw [h3 w (by omega), bl_0]), h1⟩
    · refine Or.inr ⟨fun z => ?_, h1, h2, fun w hw => h4 w (by omega)⟩
      rw [z, bl_0] at hb; cases hb
  · by_cases hb : bl x j = true
    · have hd := h j (by omega) hb
      simp only [if_pos hb]
      right
      rcases hI with ⟨h1, h2, h3⟩ | ⟨h1, h2, _, h4⟩
      · refine ⟨by omega, by omega, ⟨j, by omega, hb⟩, fun w hw hwb => ?_⟩
        by_cases e : w = j
        · subst e; omega
        · rw [h3 w (by omega)] at hwb; cases hwb
      · refine ⟨by omega, by omega, ⟨j, by omega, hb⟩, fun w hw hwb => ?_⟩
        by_cases e : w = j
        · subst e; omega
        · have := h4 w (by omega) hwb; omega
    · have hf : bl x j = false := by cases hh : bl x j; rfl; exact absurd hh hb
      simp only [if_neg hb]
      rcases hI with ⟨h1, h2, h3⟩ | ⟨h1, h2, ⟨w, hw, hwb⟩, h4⟩
      · left
        refine ⟨h1, h2, fun w hw => ?_⟩
        by_cases e : w = j
        · subst e; exact hf
        · exact h3 w (by omega)
      · right
        refine ⟨h1, h2, ⟨w, by omega, hwb⟩, fun v hv hvb => ?_⟩
        by_cases e : v = j
        · subst e; exact absurd hvb hb
        · exact h4 v (by omega) hvb
def fre (dk : Nat → Int32) : Nat := fb_ct (fun w => decide (dk w = 0)) 64
theorem fre_congr {a b : Nat → Int32} (h : ∀ w, w < 64 → a w = b w) : fo (fun w m => if a w = 0 then m + 1 else m) 64 0 0 = fo (fun w (m : Int32) => if b w = 0 then m + 1 else m) 64 0 0 := fo_congr 64 0 _ (fun j b _ hj => by rw [h j (by omega)])
theorem dfree_eq (dk : Nat → Int32) : f_X0_free dk = some (fo (fun w m => if dk w = 0 then m + 1 else m) 64 0 0) := by
  unfold f_X0_free
  refine lp_fo0 (fun n a i => lp_X0_free_4 dk n a i) 64 _ some (by decide) (fun n a => ?_) (fun n a i hi => ?_) 0
  · show lp_X0_free_4 _ (n + 1) _ _ = _
    rw [lp_X0_free_4, if_pos (by decide)]
  · show lp_X0_free_4 _ (n + 1) _ _ = _
    rw [lp_X0_free_4, if_neg (by rw [i64, nle (by decide) (by omega)]; omega), gdi hi (by decide), clp (by omega)]
    by_cases h : dk i = 0
    · rw [if_pos h, if_pos h, lt_y, lt_y, nI_s]
    · rw [if_neg h, if_neg h, lt_y, nI_s]
theorem ad0 (x : Int32) : x + 0 = x := Int32.add_zero x
theorem plain_eq (dk : Nat → Int32) : f_X8_plain dk = some (fo (fun w m => if dk w = 0 then m + 1 else m) 64 0 0) := by
  unfold f_X8_plain
  refine lp_fo0 (fun n a i => lp_X8_plain_4 dk n a i) 64 _ some (by decide) (fun n a => ?_) (fun n a i hi => ?_) 0
  · show lp_X8_plain_4 _ (n + 1) _ _ = _
    rw [lp_X8_plain_4, if_pos (by decide)]
  · show lp_X8_plain_4 _ (n + 1) _ _ = _
    rw [lp_X8_plain_4, if_neg (by rw [i64, nle (by decide) (by omega)]; omega), gdi hi (by decide), clp (by omega)]
    by_cases h : dk i = 0
    · rw [if_pos h, if_pos h, lt_y, lt_y, nI_s]
    · rw [if_neg h, if_neg h, lt_y, lt_y, nI_s, ad0]
/-- a loop that writes every place it reads -/
theorem fo_put (g : Nat → Int32 → Int32) (f : Nat → Int32) : ∀ c, fo (fun w (x : Nat → Int32) => upd x w (g w (x w))) c 0 f = fun j => if j < c then g j (f j) else f j
  | 0 => by funext j; rw [if_neg (Nat.not_lt_zero j)]; rfl
  | c + 1 => by
    rw [fo_last, fo_put g f c, Nat.zero_add]
    funext j
    show (if j = c then g c (if c < c then g c (f c) else f c) else (if j < c then g j (f j) else f j)) = (if j < c + 1 then g j (f j) else f j)
    by_cases e : j = c
    · subst e; rw [if_pos rfl, if_neg (Nat.lt_irrefl j), if_pos (by omega)]
    · rw [if_neg e]
      by_cases h : j < c
      · rw [if_pos h, if_pos (by omega)]
      · rw [if_neg h, if_neg (by omega)]
theorem upd_self (x : Nat → Int32) (w : Nat) : upd x w (x w) = x := by
  funext j
  show (if j = w then _ else _) = _
  by_cases e : j = w
  · rw [if_pos e, e]
  · rw [if_neg e]
theorem shift_eq (dk : Nat → Int32) (x : Int64) (b : Int32) : f_X0_shift dk x b = some (fun j => if j < 64 then (if bl x j = true then mnI 99 (dk j + b) else dk j) else dk j) := by
  unfold f_X0_shift
  rw [← fo_put (fun j v => if bl x j = true then mnI 99 (v + b) else v) dk 64]
  refine lp_fo0 (fun n a i => lp_X0_shift_3 x b n a i) 64 _ some (by decide) (fun n a => ?_) (fun n a i hi => ?_) dk
  · show lp_X0_shift_3 _ _ (n + 1) _ _ = _
    rw [lp_X0_shift_3, if_pos (by decide)]
  · show lp_X0_shift_3 _ _ (n + 1) _ _ = _
    rw [lp_X0_shift_3, if_neg (by rw [i64, nle (by decide) (by omega)]; omega), holds_eq x hi, bd_s]
    by_cases h : bl x i = true
    · rw [if_pos h, if_neg z10, gdi hi (by decide), gdi hi (by decide), clp (by omega), lt_y, nI_s, if_pos h]
    · rw [if_neg h, if_pos rfl, lt_y, nI_s, if_neg h, upd_self]
def lrn (then_ : Int64) (f y z : Int32) (w : Nat) (v : Int32) : Int32 := if v < 0 then v else let s := (if bl then_ w = true then v - y else v - z + f); if s ≤ 99 then s else 99
theorem learn56_eq (then_ : Int64) (f y z : Int32) (dk : Nat → Int32) : lp_X8_learn_56 then_ f y z fu dk 0 = bd (f_X8_plain (fun j => if j < 64 then lrn then_ f y z j (dk j) else dk j)) (fun o5 => some (o5, (fun j => if j < 64 then lrn then_ f y z j (dk j) else dk j))) := by
  rw [← fo_put (lrn then_ f y z) dk 64]
  refine lp_fo0 (fun n a i => lp_X8_learn_56 then_ f y z n a i) 64 (fun w (x : Nat → Int32) => upd x w (lrn then_ f y z w (x w))) (fun d => bd (f_X8_plain d) (fun o5 => some (o5, d))) (by decide) (fun n a => ?_) (fun n a i hi => ?_) dk
  · show lp_X8_learn_56 _ _ _ _ (n + 1) _ _ = _
    rw [lp_X8_learn_56, if_pos (by decide)]
  · show lp_X8_learn_56 _ _ _ _ (n + 1) _ _ = _
    rw [lp_X8_learn_56, if_neg (by rw [i64, nle (by decide) (by omega)]; omega), gdi hi (by decide), clp (by omega)]
    show _ = lp_X8_learn_56 then_ f y z n (upd a i (lrn then_ f y z i (a i))) (nI (i + 1))
    unfold lrn
    by_cases h0 : a i < 0
    · rw [if_pos h0, if_pos h0, lt_y, nI_s, upd_self]
    · rw [if_neg h0, if_neg h0, has_eq then_ hi, bd_s]
      by_cases h : bl then_ i = true
      · rw [if_pos h, if_neg z10, gdi hi (by decide), if_pos h]
        unfold jn_X8_learn_108
        show _ = lp_X8_learn_56 then_ f y z n (upd a i (if a i - y ≤ 99 then a i - y else 99)) (nI (i + 1))
        by_cases h9 : a i - y ≤ 99
        · rw [if_pos h9, if_pos h9, gdi hi (by decide), lt_y, nI_s, clp (by omega)]
        · rw [if_neg h9, if_neg h9, gdi hi (by decide), lt_y, nI_s, clp (by omega)]
      · rw [if_neg h, if_pos rfl, gdi hi (by decide), if_neg h]
        unfold jn_X8_learn_108
        show _ = lp_X8_learn_56 then_ f y z n (upd a i (if a i - z + f ≤ 99 then a i - z + f else 99)) (nI (i + 1))
        by_cases h9 : a i - z + f ≤ 99
        · rw [if_pos h9, if_pos h9, gdi hi (by decide), lt_y, nI_s, clp (by omega)]
        · rw [if_neg h9, if_neg h9, gdi hi (by decide), lt_y, nI_s, clp (by omega)]
/-- doubts as they stand -/
def dOK (th : Int64) (dk : Nat → Int32) : Prop := ∀ w, w < 64 → (bl th w = true → ∃ d, d ≤ 99 ∧ dk w = nI d) ∧ (¬ bl th w = true → dk w = -9)
theorem dOK_n {th : Int64} {dk : Nat → Int32} (h : dOK th dk) : ∀ w, w < 64 → bl th w = true → dk w = nI ((dk w).toNatClampNeg) ∧ (dk w).toNatClampNeg ≤ 99 := fun w hw hb => by
  obtain ⟨d, hd, e⟩ := (h w hw).1 hb
  rw [e, clp (by omega)]; exact ⟨rfl, hd⟩
theorem lsN_congr {x : Int64} {a b : Nat → Nat} {s : Nat} (h : ∀ w, w < 64 → bl x w = true → a w = b w) : lsN x a s = lsN x b s := by
  unfold lsN
  refine fo_congr 64 0 s (fun j b _ hj => ?_)
  by_cases hb : bl x j = true
  · rw [if_pos hb, if_pos hb, h j (by omega) hb]
  · rw [if_neg hb, if_neg hb]
theorem bl_andl {x y : Int64} {w : Nat} (h : bl (x &&& y) w = true) : bl x w = true := by rw [bl_and, Bool.and_eq_true] at h; exact h.1
theorem bl_andr {x y : Int64} {w : Nat} (h : bl (x &&& y) w = true) : bl y w = true := by rw [bl_and, Bool.and_eq_true] at h; exact h.2
theorem n1000 {a : Nat} (h : a ≤ 99) : ¬ nI a = (1000 : Int32) := by rw [i1000, neq (by omega) (by decide)]; omega
theorem believed_same {th then_ : Int64} {dk md : Nat → Int32} (hd : dOK th dk) (hm : ∀ w, w < 64 → md w = dk w) : f_X7_believed then_ th dk = f_X8_believed then_ md := by
  unfold f_X7_believed f_X8_believed
  have hn := dOK_n hd
  have m1 := mleast_eq md (fun w => (dk w).toNatClampNeg) th then_ (fun w hw hb => by rw [hm w hw]; exact hn w hw hb) (fun w hw hb => by rw [hm w hw]; exact (hd w hw).2 hb)
  have m2 := mleast_eq md (fun w => (dk w).toNatClampNeg) th (then_ ^^^ (-1)) (fun w hw hb => by rw [hm w hw]; exact hn w hw hb) (fun w hw hb => by rw [hm w hw]; exact (hd w hw).2 hb)
  have c1 := dleast_eq dk (fun w => (dk w).toNatClampNeg) (th &&& then_) (fun w hw hb => hn w hw (bl_andl hb))
  have c2 := dleast_eq dk (fun w => (dk w).toNatClampNeg) (th &&& (then_ ^^^ (-1))) (fun w hw hb => hn w hw (bl_andl hb))
  rw [m1, m2, bd_s, bd_s, show f_X2_worldsThere th = some th from rfl, bd_s, lt_y, bd_s, lt_y]
  rcases lsN_rel (th &&& (then_ ^^^ (-1))) (fun w => (dk w).toNatClampNeg) (fun w hw hb => (hn w hw (bl_andl hb)).2) with ⟨e, e2⟩ | ⟨e, e2, e3, e4⟩
  · rw [if_pos e, e2, if_pos i1000.symm]
  · rw [if_neg e, e2, if_neg (n1000 e3)]
    rcases lsN_rel (th &&& then_) (fun w => (dk w).toNatClampNeg) (fun w hw hb => (hn w hw (bl_andl hb)).2) with ⟨g, g2⟩ | ⟨g, g2, g3, g4⟩
    · rw [if_pos g, g2, if_pos i1000.symm]
    · rw [if_neg g, g2, if_neg (n1000 g3), c1, c2, bd_s, bd_s]
theorem learn_same {th then_ : Int64} {dk md : Nat → Int32} (hd : dOK th dk) (hm : ∀ w, w < 64 → md w = dk w) (x : Int32) : ∃ (r : Int32) (dk' md' : Nat → Int32), f_X7_learn then_ th dk x = some (r, dk') ∧ f_X8_learn then_ md x = some (r, md') ∧ dOK th dk' ∧ ∀ w, w < 64 → md' w = dk' w := by
  unfold f_X7_learn f_X8_learn
  rw [show f_X8_in x.toInt64 1 20 = some (if (1 : Int) ≤ x.toInt ∧ x.toInt ≤ 20 then 1 else 0) from mIn_i x 1 20, bd_s]
  by_cases h1 : x < (1 : Int32)
  · rw [if_pos h1, if_neg (show ¬ ((1 : Int) ≤ x.toInt ∧ x.toInt ≤ 20) from fun h => by rw [Int32.lt_iff_toInt_lt] at h1; have b : x.toInt < 1 := h1; omega), if_pos rfl]
    exact ⟨_, _, _, rfl, rfl, hd, hm⟩
  rw [if_neg h1]
  by_cases h2 : x ≤ (20 : Int32)
  · have h1' : (1 : Int) ≤ x.toInt := by rw [Int32.lt_iff_toInt_lt] at h1; have : ¬ x.toInt < 1 := h1; omega
    have h2' : x.toInt ≤ 20 := by rw [Int32.le_iff_toInt_le] at h2; exact h2
    rw [if_pos h2, if_pos (show (1 : Int) ≤ x.toInt ∧ x.toInt ≤ 20 from ⟨h1', h2'⟩), if_neg z10]
    obtain ⟨f, hf, rfl⟩ := nI_of (x := x) (by rw [Int32.lt_iff_toInt_lt]; show ¬ x.toInt < 0; omega)
    rw [nI_toInt hf] at h1' h2'
    have hn := dOK_n hd
    have m1 := mleast_eq md (fun w => (dk w).toNatClampNeg) th then_ (fun w hw hb => by rw [hm w hw]; exact hn w hw hb) (fun w hw hb => by rw [hm w hw]; exact (hd w hw).2 hb)
    have m2 := mleast_eq md (fun w => (dk w).toNatClampNeg) th (then_ ^^^ (-1)) (fun w hw hb => by rw [hm w hw]; exact hn w hw hb) (fun w hw hb => by rw [hm w hw]; exact (hd w hw).2 hb)
    have c1 := dleast_eq dk (fun w => (dk w).toNatClampNeg) (th &&& then_) (fun w hw hb => hn w hw (bl_andl hb))
    rw [m1, m2, bd_s, bd_s, show f_X2_worldsThere th = some th from rfl, bd_s, lt_y, bd_s, lt_y]
    rcases lsN_rel (th &&& then_) (fun w => (dk w).toNatClampNeg) (fun w hw hb => (hn w hw (bl_andl hb)).2) with ⟨g, g2⟩ | ⟨g, g2, g3, g4⟩
    · rw [if_pos g, g2, if_pos i1000.symm]
      exact ⟨_, _, _, rfl, rfl, hd, hm⟩
    rw [if_neg g, g2, if_neg (n1000 g3)]
    rcases lsN_rel (th &&& (then_ ^^^ (-1))) (fun w => (dk w).toNatClampNeg) (fun w hw hb => (hn w hw (bl_andl hb)).2) with ⟨e, e2⟩ | ⟨e, e2, e3, e4⟩
    · rw [if_pos e, e2, if_pos i1000.symm]
      exact ⟨_, _, _, rfl, rfl, hd, hm⟩
    rw [if_neg e, e2, if_neg (n1000 e3), c1, bd_s, shift_eq, bd_s]
    generalize hy : lsN (th &&& then_) (fun w => (dk w).toNatClampNeg) 99 = y at *
    generalize hz : lsN (th &&& (then_ ^^^ (-1))) (fun w => (dk w).toNatClampNeg) 99 = z at *
    have hdis : ∀ w, w < 64 → bl (th &&& (then_ ^^^ (-1))) w = true → ¬ bl (th &&& then_) w = true := fun w hw h h' => by
      have a := bl_andr h
      rw [bl_not hw, bl_andr h'] at a; cases a
    have c2 := dleast_eq (fun j => if j < 64 then (if bl (th &&& then_) j = true then mnI 99 (dk j + -(nI y)) else dk j) else dk j) (fun w => (dk w).toNatClampNeg) (th &&& (then_ ^^^ (-1))) (fun w hw hb => by
      show (if w < 64 then _ else _) = _ ∧ _
      rw [if_pos hw, if_neg (hdis w hw hb)]
      exact hn w hw (bl_andl hb))
    rw [hz] at c2
    rw [c2, bd_s, shift_eq, bd_s, dfree_eq, bd_s, learn56_eq, plain_eq, bd_s]
    have key : ∀ w, w < 64 → (if w < 64 then lrn then_ (nI f) (nI y) (nI z) w (md w) else md w) = (if w < 64 then if bl (th &&& (then_ ^^^ (-1))) w = true then mnI 99 ((if w < 64 then if bl (th &&& then_) w = true then mnI 99 (dk w + -(nI y)) else dk w else dk w) + (nI f - nI z)) else (if w < 64 then if bl (th &&& then_) w = true then mnI 99 (dk w + -(nI y)) else dk w else dk w) else (if w < 64 then if bl (th &&& then_) w = true then mnI 99 (dk w + -(nI y)) else dk w else dk w)) ∧ ((bl th w = true → ∃ d, d ≤ 99 ∧ lrn then_ (nI f) (nI y) (nI z) w (md w) = nI d) ∧ (¬ bl th w = true → lrn then_ (nI f) (nI y) (nI z) w (md w) = -9)) := by
      intro w hw
      rw [if_pos hw, if_pos hw, if_pos hw, hm w hw]
      by_cases ht : bl th w = true
      · obtain ⟨ed, h99⟩ := hn w hw ht
        generalize (dk w).toNatClampNeg = d at ed h99
        have hdn : (dk w).toNatClampNeg = d := by rw [ed, clp (by omega)]
        by_cases hb : bl then_ w = true
        · have hyd : y ≤ d := by rw [← hdn]; exact g4 w hw (by rw [bl_and, ht, hb]; rfl)
          rw [if_neg (show ¬ bl (th &&& (then_ ^^^ (-1))) w = true by rw [bl_and, bl_not hw, hb, ht]; decide), if_pos (show bl (th &&& then_) w = true by rw [bl_and, ht, hb]; rfl), ed, nI_an hyd, i99, mnI_eq (by omega) (by omega)]
          have e1 : lrn then_ (nI f) (nI y) (nI z) w (nI d) = nI (min 99 (d - y)) := by
            unfold lrn
            rw [if_neg (lnn (by omega)), if_pos hb, nI_sub hyd]
            show (if nI (d - y) ≤ 99 then nI (d - y) else 99) = _
            rw [i99, if_pos (by rw [nle (by omega) (by omega)]; omega), Nat.min_eq_right (by omega)]
          rw [e1]
          exact ⟨rfl, fun _ => ⟨_, by omega, rfl⟩, fun h => absurd ht h⟩
        · have hbf : bl then_ w = false := by cases hh : bl then_ w; rfl; exact absurd hh hb
          have hzd : z ≤ d := by rw [← hdn]; exact e4 w hw (by rw [bl_and, bl_not hw, ht, hbf]; rfl)
          rw [if_pos (show bl (th &&& (then_ ^^^ (-1))) w = true by rw [bl_and, bl_not hw, hbf, ht]; rfl), if_neg (show ¬ bl (th &&& then_) w = true by rw [bl_and, ht, hbf]; decide), ed]
          have e0 : nI d + (nI f - nI z) = nI (d - z + f) := by
            rw [show nI d + (nI f - nI z) = nI d - nI z + nI f from by rw [Int32.sub_eq_add_neg, Int32.sub_eq_add_neg, Int32.add_assoc, Int32.add_comm (nI f)], nI_sub hzd, nI_add]
          have e1 : lrn then_ (nI f) (nI y) (nI z) w (nI d) = nI (min 99 (d - z + f)) := by
            unfold lrn
            rw [if_neg (lnn (by omega)), if_neg hb, nI_sub hzd, nI_add]
            show (if nI (d - z + f) ≤ 99 then nI (d - z + f) else 99) = _
            by_cases h9 : d - z + f ≤ 99
            · rw [i99, if_pos (by rw [nle (by omega) (by omega)]; omega), Nat.min_eq_right (by omega)]
            · rw [i99, if_neg (by rw [nle (by omega) (by omega)]; omega), Nat.min_eq_left (by omega)]
          rw [e0, i99, mnI_eq (by omega) (by omega), e1]
          exact ⟨rfl, fun _ => ⟨_, by omega, rfl⟩, fun h => absurd ht h⟩
      · have htf : bl th w = false := by cases hh : bl th w; rfl; exact absurd hh ht
        rw [if_neg (show ¬ bl (th &&& (then_ ^^^ (-1))) w = true by rw [bl_and, htf, Bool.false_and]; decide), if_neg (show ¬ bl (th &&& then_) w = true by rw [bl_and, htf, Bool.false_and]; decide), (hd w hw).2 ht]
        have e1 : lrn then_ (nI f) (nI y) (nI z) w (-9) = -9 := by
          unfold lrn
          rw [if_pos (by decide)]
        rw [e1]
        exact ⟨rfl, fun h => absurd h ht, fun _ => rfl⟩
    refine ⟨_, _, (fun j => if j < 64 then lrn then_ (nI f) (nI y) (nI z) j (md j) else md j), rfl, ?_, ?_, ?_⟩
    · rw [fre_congr (fun w hw => (key w hw).1)]
    · intro w hw
      have k1 := key w hw
      simp only []
      rw [← k1.1, if_pos hw]
      exact k1.2
    · exact fun w hw => (key w hw).1
  · rw [if_neg h2, if_neg (show ¬ ((1 : Int) ≤ x.toInt ∧ x.toInt ≤ 20) from fun h => h2 (by rw [Int32.le_iff_toInt_le]; exact h.2)), if_pos rfl]
    exact ⟨_, _, _, rfl, rfl, hd, hm⟩
theorem restart_eq {k : Nat} (hk : k ≤ 9) (th : Int64) (w t : Nat → Int64) (gr dk : Nat → Int32) : f_X0_restart dk th (nI k) w (nI k) t gr = some (fun j => if j < 64 then WG th w t k gr j else dk j) := by
  unfold f_X0_restart
  rw [← fo_put (fun j _ => WG th w t k gr j) dk 64]
  refine lp_fo0 (fun n a i => lp_X0_restart_2 th (nI k) w (nI k) t gr n a i) 64 _ some (by decide) (fun n a => ?_) (fun n a i hi => ?_) dk
  · show lp_X0_restart_2 _ _ _ _ _ _ (n + 1) _ _ = _
    rw [lp_X0_restart_2, if_pos (by decide)]
  · show lp_X0_restart_2 _ _ _ _ _ _ (n + 1) _ _ = _
    rw [lp_X0_restart_2, if_neg (by rw [i64, nle (by decide) (by omega)]; omega), rank_eq hk hi, bd_s, gdi hi (by decide), clp (by omega), lt_y, nI_s]
theorem forgets_eq {k k0 : Nat} (hk : k ≤ 9) (hk0 : k0 ≤ 9) (said : Nat → Int64) (many : Nat → Int32) (hm0 : many 0 = nI k0) (hm : many 1 = nI k) (gr dk : Nat → Int32) (hg : grOK gr k) : f_X8_forgets said many gr dk = some (fun j => if j < 64 then WG (meet said k0) (fun i => said (9 + i)) (fun i => said (18 + i)) k gr j else dk j) := by
  unfold f_X8_forgets
  rw [← fo_put (fun j _ => WG (meet said k0) (fun i => said (9 + i)) (fun i => said (18 + i)) k gr j) dk 64]
  refine lp_fo0 (fun n a i => lp_X8_forgets_2 said many gr n a i) 64 _ some (by decide) (fun n a => ?_) (fun n a i hi => ?_) dk
  · show lp_X8_forgets_2 _ _ _ (n + 1) _ _ = _
    rw [lp_X8_forgets_2, if_pos (by decide)]
  · show lp_X8_forgets_2 _ _ _ (n + 1) _ _ = _
    rw [lp_X8_forgets_2, if_neg (by rw [i64, nle (by decide) (by omega)]; omega), worldGrade_eq hk hk0 hi said many hm0 hm gr hg, bd_s, gdi hi (by decide), clp (by omega), lt_y, nI_s]
theorem WG_ok {k : Nat} {th : Int64} {w t : Nat → Int64} {gr : Nat → Int32} (hg : grOK gr k) : dOK th (fun j => WG th w t k gr j) := by
  intro wd hw
  unfold WG
  constructor
  · intro h
    obtain ⟨m, hm, e⟩ := rnk_rng (p := fun r => bl (brk w t r) wd) hg
    exact ⟨m, by omega, by show (if bl th wd = true then _ else _) = _; rw [if_pos h, e]⟩
  · intro h; show (if bl th wd = true then _ else _) = _; rw [if_neg h]
