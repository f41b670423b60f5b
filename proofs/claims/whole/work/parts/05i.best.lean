-- ===== tallies, the least worlds =====
theorem shl1 {c : Nat} (h : c < 64) : shlL (1 : Int64) (nI c) = lN (2 ^ c) := by
  unfold shlL
  have := wb_shl 1 (k := c) h
  rw [Nat.one_mul] at this
  exact this
theorem tally_eq {k : Nat} (hk : k ≤ 8) (gr : Nat → Int32) (hg : grOK gr k) (set : Int32) : f_X4_tallyOf (nI k) gr set = some (lN (smB 16 (bt set) (cgN gr) k)) := by
  unfold f_X4_tallyOf
  have e := (lp_fo (fun n a i => lp_X4_tallyOf_5 (nI k) gr set n a i) k (fun r s => if bt set r = true then s + lN (16 ^ cgN gr r) else s) some (fun i x => x = lN (smB 16 (bt set) (cgN gr) i)) (fun n a _ => ?_) (fun n a i hi hI => ?_) k 0 0 fu (by omega) (by rw [fu_eq]; omega) rfl)
  · rw [show (0 : Int32) = nI 0 from rfl]
    refine e.1.trans ?_
    rw [e.2]
  · show lp_X4_tallyOf_5 _ _ _ (n + 1) _ _ = _
    rw [lp_X4_tallyOf_5, size4_eq, bd_s, if_pos (by rw [nle (by omega) (by omega)]; omega)]
  · show lp_X4_tallyOf_5 _ _ _ (n + 1) _ _ = _ ∧ _
    rw [lp_X4_tallyOf_5, size4_eq, bd_s, if_neg (by rw [nle (by omega) (by omega)]; omega), inSet_eq _ (by omega), bd_s]
    obtain ⟨ec, hc⟩ := cg_ok hg hi
    have e16 : shlL (1 : Int64) ((4 : Int32) * cgI gr i) = lN (16 ^ cgN gr i) := by
      rw [ec, i4, pk_mul, shl1 (by omega), Nat.pow_mul]
    by_cases hb : bt set i = true
    · rw [if_pos hb, if_neg z10, counted_eq gr (by omega), bd_s, lt_y, lt_y, nI_s, e16, if_pos hb, hI]
      refine ⟨rfl, ?_⟩
      show lN _ + lN _ = lN (fb_sm _ (i + 1))
      rw [lN_add, fb_sm_succ, if_pos hb]
      rfl
    · rw [if_neg hb, if_pos rfl, lt_y, nI_s, if_neg hb]
      refine ⟨rfl, ?_⟩
      rw [hI]
      show lN _ = lN (fb_sm _ (i + 1))
      rw [fb_sm_succ, if_neg hb, Nat.add_zero]
      rfl
theorem pow9_eq {c : Nat} (hc : c ≤ 8) (said : Nat → Int64) (many gr : Nat → Int32) (x1 : Int32) (K : Int64 → Int32 → Option Int64) (v2 : Int64) {r : Nat} (hr : r < 9) (hcg : cgI gr r = nI c) : lp_X8_counts_22 said many gr x1 K v2 (nI r) fu 1 0 = jn_X8_counts_47 said many gr x1 K v2 (nI r) (lN (9 ^ c)) := by
  have e := (lp_fo (fun n a i => lp_X8_counts_22 said many gr x1 K v2 (nI r) n a i) c (fun _ a => a * 9) (fun a => jn_X8_counts_47 said many gr x1 K v2 (nI r) a) (fun i x => x = lN (9 ^ i)) (fun n a _ => ?_) (fun n a i hi hI => ?_) c 0 1 fu (by omega) (by rw [fu_eq]; omega) rfl)
  · refine e.1.trans ?_
    rw [e.2]
  · show lp_X8_counts_22 _ _ _ _ _ _ _ (n + 1) _ _ = _
    rw [lp_X8_counts_22, mcounted_eq gr hr, bd_s, hcg, if_pos (by rw [nle (by omega) (by omega)]; omega)]
  · show lp_X8_counts_22 _ _ _ _ _ _ _ (n + 1) _ _ = _ ∧ _
    rw [lp_X8_counts_22, mcounted_eq gr hr, bd_s, hcg, if_neg (by rw [nle (by omega) (by omega)]; omega), lt_y, lt_y, nI_s]
    refine ⟨rfl, ?_⟩
    rw [hI, Nat.pow_succ]
    exact lN_mul _ 9
theorem add0L (x : Int64) : x + 0 = x := Int64.add_zero x
theorem counts_eq {k wd : Nat} (hk : k ≤ 8) (hw : wd < 64) (said : Nat → Int64) (many : Nat → Int32) (hm : many 1 = nI k) (gr : Nat → Int32) (hg : grOK gr k) : f_X8_counts said many gr (nI wd) = some (lN (smB 9 (fun r => bl (brk (fun i => said (9 + i)) (fun i => said (18 + i)) r) wd) (cgN gr) k)) := by
  unfold f_X8_counts
  have e := (lp_fo (fun n a i => lp_X8_counts_5 said many gr (nI wd) n a i) k (fun r s => if bl (brk (fun i => said (9 + i)) (fun i => said (18 + i)) r) wd = true then s + lN (9 ^ cgN gr r) else s) some (fun i x => x = lN (smB 9 (fun r => bl (brk (fun i => said (9 + i)) (fun i => said (18 + i)) r) wd) (cgN gr) i)) (fun n a _ => ?_) (fun n a i hi hI => ?_) k 0 0 fu (by omega) (by rw [fu_eq]; omega) rfl)
  · refine e.1.trans ?_
    rw [e.2]
  · show lp_X8_counts_5 _ _ _ _ (n + 1) _ _ = _
    rw [lp_X8_counts_5, gd1, m1c, hm, if_pos (by rw [nle (by omega) (by omega)]; omega)]
  · show lp_X8_counts_5 _ _ _ _ (n + 1) _ _ = _ ∧ _
    obtain ⟨ec, hc⟩ := cg_ok hg hi
    rw [lp_X8_counts_5, gd1, m1c, hm, if_neg (by rw [nle (by omega) (by omega)]; omega), pow9_eq hc said many gr (nI wd) _ a (by omega) ec]
    unfold jn_X8_counts_47
    rw [mbroken_eq (by omega), bd_s, has_eq _ hw, bd_s]
    by_cases hb : bl (brk (fun i => said (9 + i)) (fun i => said (18 + i)) i) wd = true
    · rw [if_pos hb, if_neg z10, lt_y, lt_y, nI_s, if_pos hb, hI]
      refine ⟨rfl, ?_⟩
      show lN _ + lN _ = lN (fb_sm _ (i + 1))
      rw [lN_add, fb_sm_succ, if_pos hb]
      rfl
    · rw [if_neg hb, if_pos rfl, lt_y, lt_y, nI_s, if_neg hb, add0L]
      refine ⟨rfl, ?_⟩
      rw [hI]
      show lN _ = lN (fb_sm _ (i + 1))
      rw [fb_sm_succ, if_neg hb, Nat.add_zero]
      rfl
-- ---- the least of some worlds
def stC (all : Int64) (v : Nat → Int64) (w : Nat) (x : Int64 × Int64) : Int64 × Int64 :=
  if bl all w = true then (if x.2 ≤ v w then (if v w = x.2 then (x.1 ||| shlL 1 (nI w), x.2) else x) else ((0 : Int64) ||| shlL 1 (nI w), v w)) else x
def stM (all : Int64) (v : Nat → Int64) (w : Nat) (x : Int64 × Int64) : Int64 × Int64 :=
  if bl all w = true then (if x.1 < 0 then (v w, (0 : Int64) ||| shlL 1 (nI w)) else if x.1 ≤ v w then (if v w = x.1 then (x.1, x.2 ||| shlL 1 (nI w)) else x) else (v w, (0 : Int64) ||| shlL 1 (nI w))) else x
def LST (all : Int64) (v : Nat → Int64) : Int64 := (fo (stC all v) 64 0 (0, 9223372036854775807)).1
theorem LST_rel {all : Int64} {v u : Nat → Int64} (h0 : ∀ w, w < 64 → bl all w = true → ¬ u w < 0 ∧ ¬ (9223372036854775807 : Int64) ≤ v w) (h1 : ∀ a b, a < 64 → b < 64 → bl all a = true → bl all b = true → (v a ≤ v b ↔ u a ≤ u b) ∧ (v a = v b ↔ u a = u b)) :
    (fo (stM all u) 64 0 (-1, 0)).2 = LST all v := by
  have key := fo_rel (stC all v) (stM all u) (fun i x y => x.1 = y.2 ∧ ((x.2 = 9223372036854775807 ∧ y.1 = -1) ∨ ∃ a, a < 64 ∧ bl all a = true ∧ x.2 = v a ∧ y.1 = u a)) 64 0 (0, 9223372036854775807) (-1, 0) ⟨rfl, Or.inl ⟨rfl, rfl⟩⟩ (fun j x y _ hj hI => ?_)
  · exact key.1.symm
  · have hj : j < 64 := by omega
    obtain ⟨x1, x2⟩ := x
    obtain ⟨y1, y2⟩ := y
    obtain ⟨e1, e2⟩ := hI
    have e1 : x1 = y2 := e1
    subst e1
    unfold stC stM
    by_cases hb : bl all j = true
    · rw [if_pos hb, if_pos hb]
      obtain ⟨g0, g1⟩ := h0 j hj hb
      rcases e2 with ⟨f1, f2⟩ | ⟨a, ha, hba, f1, f2⟩
      · have f1 : x2 = 9223372036854775807 := f1
        have f2 : y1 = -1 := f2
        subst f1; subst f2
        rw [if_neg g1, if_pos (by decide : (-1 : Int64) < 0)]
        exact ⟨rfl, Or.inr ⟨j, hj, hb, rfl, rfl⟩⟩
      · have f1 : x2 = v a := f1
        have f2 : y1 = u a := f2
        subst f1; subst f2
        have hn := (h0 a ha hba).1
        obtain ⟨o1, o2⟩ := h1 a j ha hj hba hb
        show (if v a ≤ v j then (if v j = v a then (x1 ||| shlL 1 (nI j), v a) else (x1, v a)) else ((0 : Int64) ||| shlL 1 (nI j), v j)).1 = (if u a < 0 then (u j, (0 : Int64) ||| shlL 1 (nI j)) else if u a ≤ u j then (if u j = u a then (u a, x1 ||| shlL 1 (nI j)) else (u a, x1)) else (u j, (0 : Int64) ||| shlL 1 (nI j))).2 ∧ _
        rw [if_neg hn]
        by_cases q1 : v a ≤ v j
        · rw [if_pos q1, if_pos (o1.mp q1)]
          by_cases q2 : v j = v a
          · rw [if_pos q2, if_pos (o2.mp q2.symm).symm]
            exact ⟨rfl, Or.inr ⟨a, ha, hba, rfl, rfl⟩⟩
          · rw [if_neg q2, if_neg (fun z => q2 (o2.mpr z.symm).symm)]
            exact ⟨rfl, Or.inr ⟨a, ha, hba, rfl, rfl⟩⟩
        · rw [if_neg q1, if_neg (fun z => q1 (o1.mpr z))]
          exact ⟨rfl, Or.inr ⟨j, hj, hb, rfl, rfl⟩⟩
    · rw [if_neg hb, if_neg hb]
      exact ⟨rfl, e2⟩
theorem or0L (x : Int64) : x ||| 0 = x := by
  apply bl_ext; intro i _; rw [bl_or, bl_0, Bool.or_false]
-- the class's loop
def vC (w t : Nat → Int64) (k : Nat) (gr : Nat → Int32) (how wd : Nat) : Int64 := if how = 0 then (rnk gr (fun r => bl (brk w t r) wd) k).toInt64 else lN (smB 16 (fun r => bl (brk w t r) wd) (cgN gr) k)
theorem smB_congr {B : Nat} {p q : Nat → Bool} {c d : Nat → Nat} {k : Nat} (h : ∀ r, r < k → p r = q r) (hc : ∀ r, r < k → c r = d r) : smB B p c k = smB B q d k := by
  unfold smB
  exact fb_sm_cong (fun r hr => by rw [h r hr, hc r hr])
theorem least_eq {k how : Nat} (hk : k ≤ 8) (hh : how < 2) (th among : Int64) (w t : Nat → Int64) (gr : Nat → Int32) (hg : grOK gr k) : f_X2_least th (nI k) w (nI k) t gr among (nI how) = some (LST (th &&& among) (vC w t k gr how)) := by
  unfold f_X2_least LST
  refine lp_fo0 (fun n (a : Int64 × Int64) i => lp_X2_least_11 th (nI k) w (nI k) t gr among (nI how) n a.1 a.2 i) 64 (stC (th &&& among) (vC w t k gr how)) (fun a => some a.1) (by decide) (fun n a => ?_) (fun n a i hi => ?_) (0, 9223372036854775807)
  · show lp_X2_least_11 _ _ _ _ _ _ _ _ (n + 1) _ _ _ = _
    rw [lp_X2_least_11, if_pos (by rw [i64, nle (by decide) (by decide)]; omega)]
  · show lp_X2_least_11 _ _ _ _ _ _ _ _ (n + 1) _ _ _ = _
    rw [lp_X2_least_11, if_neg (by rw [i64, nle (by decide) (by omega)]; omega), holds_eq _ hi, bd_s]
    unfold stC
    by_cases hb : bl (th &&& among) i = true
    · rw [if_pos hb, if_neg z10, brokenIn_eq (by omega) hi, bd_s, if_pos hb]
      have fin : ∀ v : Int64, v = vC w t k gr how i → jn_X2_least_69 th (nI k) w (nI k) t gr among (nI how) (fun v4 v6 v8 => lp_X2_least_11 th (nI k) w (nI k) t gr among (nI how) n v4 v6 v8) a.1 a.2 (nI i) v =
          (fun n (a : Int64 × Int64) i => lp_X2_least_11 th (nI k) w (nI k) t gr among (nI how) n a.1 a.2 i) n (if a.2 ≤ vC w t k gr how i then (if vC w t k gr how i = a.2 then (a.1 ||| shlL 1 (nI i), a.2) else a) else ((0 : Int64) ||| shlL 1 (nI i), vC w t k gr how i)) (nI (i + 1)) := by
        intro v ev
        rw [← ev]
        unfold jn_X2_least_69 jn_X2_least_86
        by_cases q1 : a.2 ≤ v
        · rw [if_pos q1, if_pos q1]
          by_cases q2 : v = a.2
          · rw [if_pos q2, if_pos q2, lt_y, lt_y, nI_s]
          · rw [if_neg q2, if_neg q2, lt_y, nI_s]
        · rw [if_neg q1, if_neg q1, if_pos rfl, lt_y, lt_y, nI_s]
      by_cases h0 : how = 0
      · subst h0
        rw [if_pos (show nI 0 = (0 : Int32) from rfl), rankOf_eq (by omega), bd_s]
        refine fin _ ?_
        unfold vC
        rw [if_pos rfl, rnk_congr (q := fun r => bl (brk w t r) i) (fun _ _ => rfl) (fun r hr => bt_brkn (by omega) hr)]
      · rw [if_neg (by rw [i0, neq (by omega) (by decide)]; exact h0), tally_eq hk gr hg, bd_s]
        refine fin _ ?_
        unfold vC
        rw [if_neg h0, smB_congr (q := fun r => bl (brk w t r) i) (d := cgN gr) (fun r hr => bt_brkn (by omega) hr) (fun _ _ => rfl)]
    · rw [if_neg hb, if_pos rfl, lt_y, nI_s, if_neg hb]
-- the reference's
def vM (w t : Nat → Int64) (k : Nat) (gr : Nat → Int32) (how wd : Nat) : Int64 := if how = 0 then (rnk gr (fun r => bl (brk w t r) wd) k).toInt64 else lN (smB 9 (fun r => bl (brk w t r) wd) (cgN gr) k)
theorem mbest33_eq {k k0 how : Nat} (hk : k ≤ 8) (hk0 : k0 ≤ 9) (hh : how < 2) (when : Int64) (said : Nat → Int64) (many : Nat → Int32) (hm0 : many 0 = nI k0) (hm : many 1 = nI k) (gr : Nat → Int32) (hg : grOK gr k) : lp_X8_best_33 when said many gr (nI how) (meet said k0 &&& when) fu (-1) 0 0 = some (fo (stM (meet said k0 &&& when) (vM (fun i => said (9 + i)) (fun i => said (18 + i)) k gr how)) 64 0 (-1, 0)).2 := by
  refine lp_fo0 (fun n (a : Int64 × Int64) i => lp_X8_best_33 when said many gr (nI how) (meet said k0 &&& when) n a.1 a.2 i) 64 (stM (meet said k0 &&& when) (vM (fun i => said (9 + i)) (fun i => said (18 + i)) k gr how)) (fun a => some a.2) (by decide) (fun n a => ?_) (fun n a i hi => ?_) (-1, 0)
  · show lp_X8_best_33 _ _ _ _ _ _ (n + 1) _ _ _ = _
    rw [lp_X8_best_33, if_pos (by rw [i64, nle (by decide) (by decide)]; omega)]
  · show lp_X8_best_33 _ _ _ _ _ _ (n + 1) _ _ _ = _
    rw [lp_X8_best_33, if_neg (by rw [i64, nle (by decide) (by omega)]; omega), has_eq _ hi, bd_s]
    unfold stM
    by_cases hb : bl (meet said k0 &&& when) i = true
    · rw [if_pos hb, if_neg z10, if_pos hb]
      have fin : ∀ v : Int64, v = vM (fun i => said (9 + i)) (fun i => said (18 + i)) k gr how i → jn_X8_best_69 when said many gr (nI how) (meet said k0 &&& when) (fun v4 v6 v8 => lp_X8_best_33 when said many gr (nI how) (meet said k0 &&& when) n v4 v6 v8) a.1 a.2 (nI i) v =
          (fun n (a : Int64 × Int64) i => lp_X8_best_33 when said many gr (nI how) (meet said k0 &&& when) n a.1 a.2 i) n (if a.1 < 0 then (vM (fun i => said (9 + i)) (fun i => said (18 + i)) k gr how i, (0 : Int64) ||| shlL 1 (nI i)) else if a.1 ≤ vM (fun i => said (9 + i)) (fun i => said (18 + i)) k gr how i then (if vM (fun i => said (9 + i)) (fun i => said (18 + i)) k gr how i = a.1 then (a.1, a.2 ||| shlL 1 (nI i)) else a) else (vM (fun i => said (9 + i)) (fun i => said (18 + i)) k gr how i, (0 : Int64) ||| shlL 1 (nI i))) (nI (i + 1)) := by
        intro v ev
        rw [← ev]
        unfold jn_X8_best_69 jn_X8_best_86 jn_X8_best_93
        by_cases q0 : a.1 < 0
        · rw [if_pos q0, if_pos q0, if_pos rfl, lt_y, lt_y, nI_s]
        · rw [if_neg q0, if_neg q0]
          by_cases q1 : a.1 ≤ v
          · rw [if_pos q1, if_pos q1]
            by_cases q2 : v = a.1
            · rw [if_pos q2, if_pos q2, lt_y, lt_y, nI_s]
            · rw [if_neg q2, if_neg q2, lt_y, lt_y, nI_s, or0L]
          · rw [if_neg q1, if_neg q1, if_pos rfl, lt_y, lt_y, nI_s]
      have hth : bl (meet said k0) i = true := by rw [bl_and, Bool.and_eq_true] at hb; exact hb.1
      by_cases h0 : how = 0
      · subst h0
        rw [if_pos (show nI 0 = (0 : Int32) from rfl), worldGrade_eq (by omega) hk0 hi said many hm0 hm gr hg, bd_s]
        refine fin _ ?_
        unfold vM WG
        rw [if_pos rfl, if_pos hth]
      · rw [if_neg (by rw [i0, neq (by omega) (by decide)]; exact h0), counts_eq hk hi said many hm gr hg, bd_s]
        refine fin _ ?_
        unfold vM
        rw [if_neg h0]
    · rw [if_neg hb, if_pos rfl, lt_y, nI_s, if_neg hb]
theorem toI64 (x : Int32) : x.toInt64.toInt = x.toInt := by simp
theorem vM_LST {k how : Nat} (hk : k ≤ 8) (all : Int64) (w t : Nat → Int64) (gr : Nat → Int32) (hg : grOK gr k) : (fo (stM all (vM w t k gr how)) 64 0 (-1, 0)).2 = LST all (vC w t k gr how) := by
  refine LST_rel (fun wd hw hb => ?_) (fun a b ha hb hba hbb => ?_)
  · unfold vM vC
    by_cases h0 : how = 0
    · rw [if_pos h0, if_pos h0]
      obtain ⟨m, hm, e⟩ := rnk_rng (p := fun r => bl (brk w t r) wd) hg
      rw [e, Int64.lt_iff_toInt_lt, Int64.le_iff_toInt_le, toI64, nI_toInt (by omega)]
      constructor
      · show ¬ (m : Int) < 0; omega
      · show ¬ (9223372036854775807 : Int) ≤ (m : Int); omega
    · rw [if_neg h0, if_neg h0]
      have h1 := smB_lt (B := 16) (by decide) (fun r => bl (brk w t r) wd) hk (fun r hr => by have := (cg_ok hg hr).2; omega : ∀ r, r < k → cgN gr r < 9)
      have h2 := smB_lt (B := 9) (by decide) (fun r => bl (brk w t r) wd) hk (fun r hr => by have := (cg_ok hg hr).2; omega : ∀ r, r < k → cgN gr r < 9)
      have e1 : (16 : Nat) ^ 9 = 68719476736 := by decide
      have e2 : (9 : Nat) ^ 9 = 387420489 := by decide
      rw [Int64.lt_iff_toInt_lt, Int64.le_iff_toInt_le, pk_lT (by omega), pk_lT (by omega)]
      constructor
      · show ¬ (_ : Int) < 0; omega
      · show ¬ (9223372036854775807 : Int) ≤ _; omega
  · unfold vM vC
    by_cases h0 : how = 0
    · rw [if_pos h0, if_pos h0, if_pos h0, if_pos h0]
      exact ⟨Iff.rfl, Iff.rfl⟩
    · rw [if_neg h0, if_neg h0, if_neg h0, if_neg h0]
      have hc : ∀ r, r < k → cgN gr r < 9 := fun r hr => by have := (cg_ok hg hr).2; omega
      have e1 : (16 : Nat) ^ 9 = 68719476736 := by decide
      have e2 : (9 : Nat) ^ 9 = 387420489 := by decide
      have a1 := smB_lt (B := 16) (by decide) (fun r => bl (brk w t r) a) hk hc
      have a2 := smB_lt (B := 9) (by decide) (fun r => bl (brk w t r) a) hk hc
      have b1 := smB_lt (B := 16) (by decide) (fun r => bl (brk w t r) b) hk hc
      have b2 := smB_lt (B := 9) (by decide) (fun r => bl (brk w t r) b) hk hc
      have o1 := smB_ord (p := fun r => bl (brk w t r) a) (q := fun r => bl (brk w t r) b) hk hc
      have o2 := smB_ord (p := fun r => bl (brk w t r) b) (q := fun r => bl (brk w t r) a) hk hc
      rw [pk_lLE (by omega) (by omega), pk_lLE (by omega) (by omega), pk_lEQ (by omega) (by omega), pk_lEQ (by omega) (by omega)]
      constructor <;> constructor <;> intro z <;> omega
