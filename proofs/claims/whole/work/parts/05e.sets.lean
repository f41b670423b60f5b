-- ===== sets, meets, broken rules =====
theorem bd_s {α β : Type} (a : α) (k : α → Option β) : bd (some a) k = k a := rfl
theorem ad9 (r : Nat) : (9 : Int32) + nI r = nI (9 + r) := nI_add 9 r
theorem ad18 (r : Nat) : (18 : Int32) + nI r = nI (18 + r) := nI_add 18 r
theorem gdi {α : Type} {i n : Nat} {x : Option α} (h : i < n) (hn : n < 2 ^ 31) : gd (ib (nI i) n) x = x := gd_y (ib_nI h hn)
theorem clp {i : Nat} (h : i < 2 ^ 31) : (nI i).toNatClampNeg = i := nI_clamp h
theorem w0n {b : Bool} : ((if b = true then (1 : Int32) else 0) = 0) = (b = false) := by cases b <;> simp
theorem z10 : ¬ ((1 : Int32) = 0) := by decide
def one (r : Nat) : Int32 := (1 : Int32) <<< (nI r &&& 31)
theorem bt_1 : ∀ i, i < 32 → bt 1 i = decide (i = 0) := by decide +kernel
theorem bt_one {r : Nat} (hr : r < 32) (i : Nat) : bt (one r) i = decide (i = r) := by
  rcases Nat.lt_or_ge i 32 with h | h
  · unfold one
    rw [b_shl r hr 1 h]
    by_cases e : i = r
    · subst e; simp [bt_1]
    · by_cases h2 : r ≤ i
      · rw [bt_1 (i - r) (by omega)]
        have : ¬ i - r = 0 := by omega
        simp [e, this]
      · simp [h2, e]
  · rw [b_big h, decide_eq_false (by omega)]
def setOf (p : Nat → Bool) (k : Nat) : Int32 := fo (fun r s => if p r = true then s ||| one r else s) k 0 0
theorem bt_setOf (p : Nat → Bool) : ∀ {k : Nat}, k ≤ 32 → ∀ i, bt (setOf p k) i = (decide (i < k) && p i)
  | 0, _, i => by
    show bt 0 i = _
    rw [b_0]; simp
  | k + 1, h, i => by
    have ih := bt_setOf p (k := k) (by omega) i
    unfold setOf at ih ⊢
    rw [fo_last, Nat.zero_add]
    by_cases hp : p k = true
    · rw [if_pos hp, b_or, ih, bt_one (by omega)]
      by_cases e : i = k
      · subst e; simp [hp]
      · by_cases h2 : i < k
        · have h3 : i < k + 1 := by omega
          simp [h2, h3, e]
        · have h3 : ¬ i < k + 1 := by omega
          simp [h2, h3, e]
    · rw [if_neg hp, ih]
      by_cases e : i = k
      · subst e
        have : p i = false := by cases hh : p i; rfl; exact absurd hh hp
        simp [this]
      · by_cases h2 : i < k
        · have h3 : i < k + 1 := by omega
          simp [h2, h3]
        · have h3 : ¬ i < k + 1 := by omega
          simp [h2, h3]
theorem setOf_congr {p q : Nat → Bool} {k : Nat} (h : ∀ r, r < k → p r = q r) : setOf p k = setOf q k := by
  unfold setOf
  exact fo_congr k 0 0 (fun j b _ hj => by rw [h j (by omega)])
def meet (f : Nat → Int64) (k : Nat) : Int64 := fo (fun i a => a &&& f i) k 0 (-1)
theorem meet_congr {f g : Nat → Int64} {k : Nat} (h : ∀ i, i < k → f i = g i) : meet f k = meet g k := by
  unfold meet
  exact fo_congr k 0 _ (fun j b _ hj => by rw [h j (by omega)])
def brk (w t : Nat → Int64) (r : Nat) : Int64 := w r &&& (t r ^^^ (-1))
-- ---- the class
theorem get_eq {k i : Nat} (hk : k ≤ 9) (hi : i < k) (f : Nat → Int64) : f_X5_get (nI k) f (nI i) = some (f i) := by
  unfold f_X5_get
  rw [if_neg (lnn (by omega)), if_neg (by rw [nle (by omega) (by omega)]; omega), if_neg (by rw [i9, nle (by decide) (by omega)]; omega), gdi (by omega) (by decide), clp (by omega)]
theorem get_no {k : Nat} (hk : k ≤ 9) {x : Int32} (h : ¬ ∃ i, i < k ∧ x = nI i) (f : Nat → Int64) : f_X5_get (nI k) f x = some 0 := by
  unfold f_X5_get
  rcases pk_ix x (n := k) (by omega) with h1 | h1 | h1
  · rw [if_pos h1]
  · by_cases h0 : x < (0 : Int32)
    · rw [if_pos h0]
    · rw [if_neg h0, if_pos h1]
  · exact absurd h1 h
theorem meet_eq {k : Nat} (hk : k ≤ 9) (f : Nat → Int64) : f_X5_meet (nI k) f = some (meet f k) := by
  unfold f_X5_meet
  refine lp_fo0 (fun n a i => lp_X5_meet_6 (nI k) f n a i) k (fun i a => a &&& f i) some (by rw [fu_eq]; omega) (fun n a => ?_) (fun n a i hi => ?_) (-1)
  · show lp_X5_meet_6 _ _ (n + 1) _ _ = _
    rw [lp_X5_meet_6, if_pos (by rw [nle (by omega) (by omega)]; omega)]
  · show lp_X5_meet_6 _ _ (n + 1) _ _ = _
    rw [lp_X5_meet_6, if_neg (by rw [nle (by omega) (by omega)]; omega), get_eq hk hi, bd_s, lt_y, lt_y, nI_s]
theorem size4_eq (x : Int32) : f_X4_size x = some x := rfl
theorem breaking_eq {k r : Nat} (hk : k ≤ 9) (hr : r < k) (w t : Nat → Int64) : f_X4_breaking (nI k) w (nI k) t (nI r) = some (brk w t r) := by
  unfold f_X4_breaking
  rw [get_eq hk hr, get_eq hk hr]; rfl
def brkn (w t : Nat → Int64) (k wd : Nat) : Int32 := setOf (fun r => bl (brk w t r) wd) k
theorem brokenIn_eq {k wd : Nat} (hk : k ≤ 9) (hw : wd < 64) (w t : Nat → Int64) : f_X4_brokenIn (nI k) w (nI k) t (nI wd) = some (brkn w t k wd) := by
  unfold f_X4_brokenIn brkn setOf
  refine lp_fo0 (fun n a i => lp_X4_brokenIn_4 (nI k) w (nI k) t (nI wd) n a i) k _ some (by rw [fu_eq]; omega) (fun n a => ?_) (fun n a i hi => ?_) 0
  · show lp_X4_brokenIn_4 _ _ _ _ _ (n + 1) _ _ = _
    rw [lp_X4_brokenIn_4, size4_eq, bd_s, if_pos (by rw [nle (by omega) (by omega)]; omega)]
  · show lp_X4_brokenIn_4 _ _ _ _ _ (n + 1) _ _ = _
    rw [lp_X4_brokenIn_4, size4_eq, bd_s, if_neg (by rw [nle (by omega) (by omega)]; omega), breaking_eq hk hi, bd_s, holds_eq _ hw, bd_s]
    by_cases hb : bl (brk w t i) wd = true
    · rw [if_pos hb, if_neg z10, lt_y, lt_y, nI_s, if_pos hb]; rfl
    · rw [if_neg hb, if_pos rfl, lt_y, nI_s, if_neg hb]
def unbr (th : Int64) (w t : Nat → Int64) (k : Nat) : Int64 := fo (fun r a => a &&& (brk w t r ^^^ (-1))) k 0 th
theorem unbroken_eq {k : Nat} (hk : k ≤ 9) (th : Int64) (w t : Nat → Int64) : f_X2_unbroken th (nI k) w (nI k) t = some (unbr th w t k) := by
  unfold f_X2_unbroken unbr
  refine lp_fo0 (fun n a i => lp_X2_unbroken_7 th (nI k) w (nI k) t n a i) k _ some (by rw [fu_eq]; omega) (fun n a => ?_) (fun n a i hi => ?_) th
  · show lp_X2_unbroken_7 _ _ _ _ _ (n + 1) _ _ = _
    rw [lp_X2_unbroken_7, size4_eq, bd_s, if_pos (by rw [nle (by omega) (by omega)]; omega)]
  · show lp_X2_unbroken_7 _ _ _ _ _ (n + 1) _ _ = _
    rw [lp_X2_unbroken_7, size4_eq, bd_s, if_neg (by rw [nle (by omega) (by omega)]; omega), breaking_eq hk hi, bd_s, lt_y, lt_y, nI_s]
-- ---- the reference
theorem allOf_eq {s k : Nat} (hs : s < 5) (hk : k ≤ 9) (said : Nat → Int64) (many : Nat → Int32) (hm : many s = nI k) : f_X8_allOf said many (nI s) = some (meet (fun i => said (9 * s + i)) k) := by
  unfold f_X8_allOf
  refine lp_fo0 (fun n a i => lp_X8_allOf_7 said many (nI s) n a i) k _ some (by rw [fu_eq]; omega) (fun n a => ?_) (fun n a i hi => ?_) (-1)
  · show lp_X8_allOf_7 _ _ _ (n + 1) _ _ = _
    rw [lp_X8_allOf_7, gdi (by omega) (by decide), clp (by omega), hm, if_pos (by rw [nle (by omega) (by omega)]; omega)]
  · show lp_X8_allOf_7 _ _ _ (n + 1) _ _ = _
    have e : ((9 : Int32) * nI s) + nI i = nI (9 * s + i) := by rw [i9, pk_mul, nI_add]
    rw [lp_X8_allOf_7, gdi (by omega) (by decide), clp (by omega), hm, if_neg (by rw [nle (by omega) (by omega)]; omega), e, gdi (by omega) (by decide), clp (by omega), lt_y, lt_y, nI_s]
theorem thereNow_eq {k : Nat} (hk : k ≤ 9) (said : Nat → Int64) (many : Nat → Int32) (hm : many 0 = nI k) : f_X8_thereNow said many = some (meet said k) := by
  unfold f_X8_thereNow
  have := allOf_eq (s := 0) (by decide) hk said many hm
  rw [i0, this]
  show some (meet (fun i => said (9 * 0 + i)) k) = _
  rw [meet_congr (g := said) (fun i _ => by rw [Nat.mul_zero, Nat.zero_add])]
theorem groundNow_eq {k k3 : Nat} (hk : k ≤ 9) (hk3 : k3 ≤ 9) (said : Nat → Int64) (many : Nat → Int32) (hm : many 0 = nI k) (hm3 : many 3 = nI k3) : f_X8_groundNow said many = some (meet said k &&& meet (fun i => said (27 + i)) k3) := by
  unfold f_X8_groundNow
  rw [thereNow_eq hk said many hm, bd_s, i3, allOf_eq (s := 3) (by decide) hk3 said many hm3]
  rfl
theorem mbroken_eq {r : Nat} (hr : r < 9) (said : Nat → Int64) : f_X8_broken said (nI r) = some (brk (fun i => said (9 + i)) (fun i => said (18 + i)) r) := by
  unfold f_X8_broken
  rw [ad9, ad18, gdi (by omega) (by decide), gdi (by omega) (by decide), clp (by omega), clp (by omega)]
  rfl
theorem m1c : (1 : Int32).toNatClampNeg = 1 := by decide
theorem gd1 {α : Type} {x : Option α} : gd (ib (1 : Int32) 5) x = x := gd_y (by decide)
theorem or0 (x : Int32) : x ||| 0 = x := by
  apply b_ext; intro i _; rw [b_or, b_0, Bool.or_false]
theorem mbreaks_eq {k wd : Nat} (hk : k ≤ 9) (hw : wd < 64) (said : Nat → Int64) (many : Nat → Int32) (hm : many 1 = nI k) : lp_X8_breaks_13 said many (nI wd) fu 0 0 = some (brkn (fun i => said (9 + i)) (fun i => said (18 + i)) k wd) := by
  unfold brkn setOf
  refine lp_fo0 (fun n a i => lp_X8_breaks_13 said many (nI wd) n a i) k _ some (by rw [fu_eq]; omega) (fun n a => ?_) (fun n a i hi => ?_) 0
  · show lp_X8_breaks_13 _ _ _ (n + 1) _ _ = _
    rw [lp_X8_breaks_13, gd1, m1c, hm, if_pos (by rw [nle (by omega) (by omega)]; omega)]
  · show lp_X8_breaks_13 _ _ _ (n + 1) _ _ = _
    rw [lp_X8_breaks_13, gd1, m1c, hm, if_neg (by rw [nle (by omega) (by omega)]; omega), mbroken_eq (by omega), bd_s, has_eq _ hw, bd_s]
    by_cases hb : bl (brk (fun i => said (9 + i)) (fun i => said (18 + i)) i) wd = true
    · rw [if_pos hb, if_neg z10, lt_y, lt_y, nI_s, if_pos hb]; rfl
    · rw [if_neg hb, if_pos rfl, lt_y, lt_y, nI_s, if_neg hb, or0]
theorem mthere_eq {k : Nat} (hk : k ≤ 9) (th : Int64) (x : Int32) (said : Nat → Int64) (many : Nat → Int32) (hm : many 1 = nI k) : lp_X8_there_13 said many x fu th 0 = some (unbr th (fun i => said (9 + i)) (fun i => said (18 + i)) k) := by
  unfold unbr
  refine lp_fo0 (fun n a i => lp_X8_there_13 said many x n a i) k _ some (by rw [fu_eq]; omega) (fun n a => ?_) (fun n a i hi => ?_) th
  · show lp_X8_there_13 _ _ _ (n + 1) _ _ = _
    rw [lp_X8_there_13, gd1, m1c, hm, if_pos (by rw [nle (by omega) (by omega)]; omega)]
  · show lp_X8_there_13 _ _ _ (n + 1) _ _ = _
    rw [lp_X8_there_13, gd1, m1c, hm, if_neg (by rw [nle (by omega) (by omega)]; omega), mbroken_eq (by omega), bd_s, lt_y, lt_y, nI_s]
theorem brk_congr {w t w' t' : Nat → Int64} {k : Nat} (hw : ∀ i, i < k → w i = w' i) (ht : ∀ i, i < k → t i = t' i) : ∀ r, r < k → brk w t r = brk w' t' r := fun r hr => by
  unfold brk; rw [hw r hr, ht r hr]
theorem brkn_congr {w t w' t' : Nat → Int64} {k : Nat} (hw : ∀ i, i < k → w i = w' i) (ht : ∀ i, i < k → t i = t' i) (wd : Nat) : brkn w t k wd = brkn w' t' k wd := setOf_congr (fun r hr => by rw [brk_congr hw ht r hr])
theorem unbr_congr {w t w' t' : Nat → Int64} {k : Nat} (hw : ∀ i, i < k → w i = w' i) (ht : ∀ i, i < k → t i = t' i) (th : Int64) : unbr th w t k = unbr th w' t' k := by
  unfold unbr
  exact fo_congr k 0 _ (fun j b _ hj => by rw [brk_congr hw ht j (by omega)])
