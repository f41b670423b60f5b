-- ===== the calls that change nothing =====
def RelI (th gd : Int64) (az : Int32) (ak : Nat → Int64) (q wz : Int32) (wk : Nat → Int64) (tz : Int32) (tq : Nat → Int64) (gr : Nat → Int32) (fz : Int32) (fk : Nat → Int64) (gz : Int32) (gk : Nat → Int64) (ez : Int32) (es : Nat → Int32) (el : Nat → Int64) (dk : Nat → Int32) (mq : Int32) (said : Nat → Int64) (many mgr md : Nat → Int32) : Prop :=
  ∃ k0 k1 k3 k4 : Nat, az = nI k0 ∧ wz = nI k1 ∧ tz = nI k1 ∧ fz = nI k3 ∧ gz = nI k4 ∧ Core k0 k1 k3 k4 th gd ak q wk tq gr fk gk ez es el mq said many mgr ∧ dOK th dk ∧ ∀ w, w < 64 → md w = dk w
theorem has5_y {k r : Nat} (hk : k ≤ 300) (hr : r < k) : f_X5_has (nI k) (nI r) = some 1 := by
  unfold f_X5_has
  rw [if_neg (lnn (by omega)), if_neg (by rw [nle (by omega) (by omega)]; omega)]
theorem has5_n {k : Nat} (hk : k ≤ 300) {x : Int32} (h : ¬ ∃ r, r < k ∧ x = nI r) : f_X5_has (nI k) x = some 0 := by
  unfold f_X5_has
  by_cases h0 : x < (0 : Int32)
  · rw [if_pos h0]
  · obtain ⟨j, hj, rfl⟩ := nI_of h0
    rw [if_neg h0, if_pos (by rw [nle (by omega) hj]; exact Nat.le_of_not_lt (fun z => h ⟨j, z, rfl⟩))]
theorem has4_y {k r : Nat} (hk : k ≤ 9) (hr : r < k) : f_X4_has (nI k) (nI r) = some 1 := by
  unfold f_X4_has
  rw [has5_y (by omega) hr, bd_s, gd_y zb_1]
theorem has4_n {k : Nat} (hk : k ≤ 9) {x : Int32} (h : ¬ ∃ r, r < k ∧ x = nI r) : f_X4_has (nI k) x = some 0 := by
  unfold f_X4_has
  rw [has5_n (by omega) h, bd_s, gd_y zb_0]
theorem m1_int : ∀ k, k < 10 → ((nI k - (1 : Int32)).toInt64).toInt = (k : Int) - 1 := by decide +kernel
theorem in_y {k r : Nat} (hk : k ≤ 9) (hr : r < k) : f_X8_in ((nI r).toInt64) (0 : Int64) ((nI k - (1 : Int32)).toInt64) = some 1 := by
  rw [mIn_i, m1_int k (by omega), nI_toInt (by omega), if_pos]
  exact ⟨Int.natCast_nonneg r, by omega⟩
theorem in_n {k : Nat} (hk : k ≤ 9) {x : Int32} (h : ¬ ∃ r, r < k ∧ x = nI r) : f_X8_in (x.toInt64) (0 : Int64) ((nI k - (1 : Int32)).toInt64) = some 0 := by
  rw [mIn_i, m1_int k (by omega), if_neg]
  intro hh
  have h0 : (0 : Int) ≤ x.toInt := hh.1
  have h1 := hh.2
  obtain ⟨j, hj, rfl⟩ := nI_of (x := x) (by rw [Int32.lt_iff_toInt_lt]; show ¬ x.toInt < 0; omega)
  rw [nI_toInt hj] at h1
  exact h ⟨j, by omega, rfl⟩
theorem isRule_y {k r : Nat} (hk : k ≤ 9) (hr : r < k) {many : Nat → Int32} (hm : many 1 = nI k) : f_X8_isRule many (nI r) = some 1 := by
  unfold f_X8_isRule
  rw [gd1, m1c, hm, in_y hk hr, bd_s, gd_y zb_1]
theorem isRule_n {k : Nat} (hk : k ≤ 9) {x : Int32} (h : ¬ ∃ r, r < k ∧ x = nI r) {many : Nat → Int32} (hm : many 1 = nI k) : f_X8_isRule many x = some 0 := by
  unfold f_X8_isRule
  rw [gd1, m1c, hm, in_n hk h, bd_s, gd_y zb_0]
theorem in_lit (x : Int32) (b : Nat) (hb : b < 100) : (∃ r, r ≤ b ∧ x = nI r) ∧ f_X8_in (x.toInt64) (0 : Int64) (lN b) = some 1 ∨ (¬ ∃ r, r ≤ b ∧ x = nI r) ∧ f_X8_in (x.toInt64) (0 : Int64) (lN b) = some 0 := by
  have e : (lN b).toInt = (b : Int) := lN_toInt (by omega)
  by_cases h : ∃ r, r ≤ b ∧ x = nI r
  · left
    refine ⟨h, ?_⟩
    obtain ⟨r, hr, rfl⟩ := h
    rw [mIn_i, e, nI_toInt (by omega), if_pos]
    exact ⟨Int.natCast_nonneg r, by omega⟩
  · right
    refine ⟨h, ?_⟩
    rw [mIn_i, e, if_neg]
    intro hh
    have h0 : (0 : Int) ≤ x.toInt := hh.1
    have h1 := hh.2
    obtain ⟨j, hj, rfl⟩ := nI_of (x := x) (by rw [Int32.lt_iff_toInt_lt]; show ¬ x.toInt < 0; omega)
    rw [nI_toInt hj] at h1
    exact h ⟨j, by omega, rfl⟩
theorem s_there {th gd : Int64} {az : Int32} {ak : Nat → Int64} {q wz : Int32} {wk : Nat → Int64} {tz : Int32} {tq : Nat → Int64} {gr : Nat → Int32} {fz : Int32} {fk : Nat → Int64} {gz : Int32} {gk : Nat → Int64} {ez : Int32} {es : Nat → Int32} {el : Nat → Int64} {dk : Nat → Int32} {mq : Int32} {said : Nat → Int64} {many mgr md : Nat → Int32} (h : RelI th gd az ak q wz wk tz tq gr fz fk gz gk ez es el dk mq said many mgr md) (x : Int32) : ∃ o, f_X7_there th gd wz wk tz tq x = some o ∧ f_X8_there said many x = some o := by
  obtain ⟨k0, k1, k3, k4, rfl, rfl, rfl, rfl, rfl, ⟨hI, h2, hth, hgd, hq, hmq, hgr, hmgr, hez, hel⟩, hd, hmd⟩ := h
  obtain ⟨e1, e2, e3⟩ := ir_th hI
  obtain ⟨⟨b0, b1, b3, b4⟩, ⟨f0, f1, f3, f4⟩, ha, hw, ht, hf, hg⟩ := hI
  rw [← hth] at e2
  rw [← hgd] at e3
  unfold f_X7_there f_X8_there
  by_cases c0 : x = 0
  · subst c0
    rw [if_pos rfl, if_neg (by decide), if_pos rfl, e2, bd_s]
    exact ⟨_, rfl, rfl⟩
  rw [if_neg c0]
  by_cases c1 : x = 1
  · subst c1
    rw [if_pos rfl, if_neg (by decide), if_neg (by decide), if_pos rfl, e3, bd_s]
    exact ⟨_, rfl, rfl⟩
  rw [if_neg c1]
  by_cases c2 : x = 2
  · subst c2
    rw [if_pos rfl, if_pos rfl, e2, bd_s, unbroken_eq (by omega), bd_s, mthere_eq (by omega) _ _ _ _ f1, unbr_congr hw ht]
    exact ⟨_, rfl, rfl⟩
  · rw [if_neg c2, if_neg c2, if_neg c0, if_neg c1]
    exact ⟨_, rfl, rfl⟩
theorem s_grade {th gd : Int64} {az : Int32} {ak : Nat → Int64} {q wz : Int32} {wk : Nat → Int64} {tz : Int32} {tq : Nat → Int64} {gr : Nat → Int32} {fz : Int32} {fk : Nat → Int64} {gz : Int32} {gk : Nat → Int64} {ez : Int32} {es : Nat → Int32} {el : Nat → Int64} {dk : Nat → Int32} {mq : Int32} {said : Nat → Int64} {many mgr md : Nat → Int32} (h : RelI th gd az ak q wz wk tz tq gr fz fk gz gk ez es el dk mq said many mgr md) (x : Int32) : ∃ o, f_X7_grade wz gr x = some o ∧ f_X8_grade many mgr x = some o := by
  obtain ⟨k0, k1, k3, k4, rfl, rfl, rfl, rfl, rfl, ⟨hI, h2, hth, hgd, hq, hmq, hgr, hmgr, hez, hel⟩, hd, hmd⟩ := h
  obtain ⟨⟨b0, b1, b3, b4⟩, ⟨f0, f1, f3, f4⟩, ha, hw, ht, hf, hg⟩ := hI
  unfold f_X7_grade f_X8_grade
  by_cases c : ∃ r, r < k1 ∧ x = nI r
  · obtain ⟨r, hr, rfl⟩ := c
    rw [has4_y (by omega) hr, bd_s, if_neg z10, isRule_y (by omega) hr f1, bd_s, if_neg z10, gradeAt_eq gr (by omega), bd_s, gdi (by omega) (by decide), clp (by omega), hgr r hr, hmgr r hr]
    exact ⟨_, rfl, rfl⟩
  · rw [has4_n (by omega) c, bd_s, if_pos rfl, isRule_n (by omega) c f1, bd_s, if_pos rfl]
    exact ⟨_, rfl, rfl⟩
theorem s_gradeOf {th gd : Int64} {az : Int32} {ak : Nat → Int64} {q wz : Int32} {wk : Nat → Int64} {tz : Int32} {tq : Nat → Int64} {gr : Nat → Int32} {fz : Int32} {fk : Nat → Int64} {gz : Int32} {gk : Nat → Int64} {ez : Int32} {es : Nat → Int32} {el : Nat → Int64} {dk : Nat → Int32} {mq : Int32} {said : Nat → Int64} {many mgr md : Nat → Int32} (h : RelI th gd az ak q wz wk tz tq gr fz fk gz gk ez es el dk mq said many mgr md) (x : Int32) : ∃ o, f_X7_gradeOf th wz wk tz tq gr x = some o ∧ f_X8_gradeOf said many mgr x = some o := by
  obtain ⟨k0, k1, k3, k4, rfl, rfl, rfl, rfl, rfl, ⟨hI, h2, hth, hgd, hq, hmq, hgr, hmgr, hez, hel⟩, hd, hmd⟩ := h
  obtain ⟨e1, e2, e3⟩ := ir_th hI
  obtain ⟨⟨b0, b1, b3, b4⟩, ⟨f0, f1, f3, f4⟩, ha, hw, ht, hf, hg⟩ := hI
  unfold f_X7_gradeOf f_X8_gradeOf
  by_cases c : ∃ w, w < 64 ∧ x = nI w
  · obtain ⟨w, hw', rfl⟩ := c
    rw [isWorld_yes hw', bd_s, if_neg z10, mWorld_yes hw', bd_s, if_neg z10, rank_eq (by omega) hw', bd_s, worldGrade_eq (by omega) (by omega) hw' said many f0 f1 mgr (grOK_of hmgr), bd_s, e1, hth, WG_congr (gr' := mgr) hw ht (fun r hr => by rw [hgr r hr, hmgr r hr])]
    exact ⟨_, rfl, rfl⟩
  · rw [isWorld_no c, bd_s, if_pos rfl, mWorld_no c, bd_s, if_pos rfl]
    exact ⟨_, rfl, rfl⟩
theorem s_breaks {th gd : Int64} {az : Int32} {ak : Nat → Int64} {q wz : Int32} {wk : Nat → Int64} {tz : Int32} {tq : Nat → Int64} {gr : Nat → Int32} {fz : Int32} {fk : Nat → Int64} {gz : Int32} {gk : Nat → Int64} {ez : Int32} {es : Nat → Int32} {el : Nat → Int64} {dk : Nat → Int32} {mq : Int32} {said : Nat → Int64} {many mgr md : Nat → Int32} (h : RelI th gd az ak q wz wk tz tq gr fz fk gz gk ez es el dk mq said many mgr md) (x : Int32) : ∃ o, f_X7_breaks wz wk tz tq x = some o ∧ f_X8_breaks said many x = some o := by
  obtain ⟨k0, k1, k3, k4, rfl, rfl, rfl, rfl, rfl, ⟨hI, h2, hth, hgd, hq, hmq, hgr, hmgr, hez, hel⟩, hd, hmd⟩ := h
  obtain ⟨⟨b0, b1, b3, b4⟩, ⟨f0, f1, f3, f4⟩, ha, hw, ht, hf, hg⟩ := hI
  unfold f_X7_breaks f_X8_breaks
  by_cases c : ∃ w, w < 64 ∧ x = nI w
  · obtain ⟨w, hw', rfl⟩ := c
    rw [isWorld_yes hw', bd_s, if_neg z10, mWorld_yes hw', bd_s, if_neg z10, brokenIn_eq (by omega) hw', bd_s, mbreaks_eq (by omega) hw' said many f1, brkn_congr hw ht]
    exact ⟨_, rfl, rfl⟩
  · rw [isWorld_no c, bd_s, if_pos rfl, mWorld_no c, bd_s, if_pos rfl]
    exact ⟨_, rfl, rfl⟩
theorem mbest_eq {k k0 how : Nat} (hk : k ≤ 8) (hk0 : k0 ≤ 9) (hh : how < 2) (when : Int64) (said : Nat → Int64) (many : Nat → Int32) (hm0 : many 0 = nI k0) (hm : many 1 = nI k) (gr : Nat → Int32) (hg : grOK gr k) : f_X8_best when said many gr (nI how) = some (LST (meet said k0 &&& when) (vC (fun i => said (9 + i)) (fun i => said (18 + i)) k gr how)) := by
  unfold f_X8_best
  rcases in_lit (nI how) 1 (by decide) with ⟨_, e⟩ | ⟨hn, _⟩
  · have e' : f_X8_in (nI how).toInt64 (0 : Int64) (1 : Int64) = some 1 := e
    rw [e', bd_s, if_neg z10, thereNow_eq (by omega) said many hm0, bd_s, lt_y, mbest33_eq hk hk0 hh when said many hm0 hm gr hg, vM_LST hk _ _ _ _ hg]
  · exact absurd ⟨how, by omega, rfl⟩ hn
theorem vC_congr {w t w' t' : Nat → Int64} {gr gr' : Nat → Int32} {k how : Nat} (hw : ∀ i, i < k → w i = w' i) (ht : ∀ i, i < k → t i = t' i) (hg : ∀ r, r < k → gr r = gr' r) (a : Int64) : LST a (vC w t k gr how) = LST a (vC w' t' k gr' how) := by
  have e : vC w t k gr how = vC w' t' k gr' how := by
    funext wd
    unfold vC
    rw [rnk_congr (q := fun r => bl (brk w' t' r) wd) hg (fun r hr => by rw [brk_congr hw ht r hr]), smB_congr (q := fun r => bl (brk w' t' r) wd) (d := cgN gr') (fun r hr => by rw [brk_congr hw ht r hr]) (fun r hr => by unfold cgN cgI; rw [hg r hr])]
  rw [e]
theorem best_both {th gd : Int64} {az : Int32} {ak : Nat → Int64} {q wz : Int32} {wk : Nat → Int64} {tz : Int32} {tq : Nat → Int64} {gr : Nat → Int32} {fz : Int32} {fk : Nat → Int64} {gz : Int32} {gk : Nat → Int64} {ez : Int32} {es : Nat → Int32} {el : Nat → Int64} {dk : Nat → Int32} {mq : Int32} {said : Nat → Int64} {many mgr md : Nat → Int32} (h : RelI th gd az ak q wz wk tz tq gr fz fk gz gk ez es el dk mq said many mgr md) (when : Int64) {how : Nat} (hh : how < 2) : ∃ o, f_X2_least th wz wk tz tq gr when (nI how) = some o ∧ f_X8_best when said many mgr (nI how) = some o := by
  obtain ⟨k0, k1, k3, k4, rfl, rfl, rfl, rfl, rfl, ⟨hI, h2, hth, hgd, hq, hmq, hgr, hmgr, hez, hel⟩, hd, hmd⟩ := h
  have hIc := hI
  obtain ⟨e1, e2, e3⟩ := ir_th hI
  obtain ⟨⟨b0, b1, b3, b4⟩, ⟨f0, f1, f3, f4⟩, ha, hw, ht, hf, hg⟩ := hI
  rw [← hth] at e1 e2
  rw [← hgd] at e3
  rw [least_eq b1 hh th when wk tq gr (grOK_of hgr), mbest_eq b1 (by omega) hh when said many f0 f1 mgr (grOK_of hmgr), e1, vC_congr (gr' := mgr) hw ht (fun r hr => by rw [hgr r hr, hmgr r hr])]
  exact ⟨_, rfl, rfl⟩
theorem s_best {th gd : Int64} {az : Int32} {ak : Nat → Int64} {q wz : Int32} {wk : Nat → Int64} {tz : Int32} {tq : Nat → Int64} {gr : Nat → Int32} {fz : Int32} {fk : Nat → Int64} {gz : Int32} {gk : Nat → Int64} {ez : Int32} {es : Nat → Int32} {el : Nat → Int64} {dk : Nat → Int32} {mq : Int32} {said : Nat → Int64} {many mgr md : Nat → Int32} (h : RelI th gd az ak q wz wk tz tq gr fz fk gz gk ez es el dk mq said many mgr md) (when : Int64) (x : Int32) : ∃ o, f_X7_best when th wz wk tz tq gr x = some o ∧ f_X8_best when said many mgr x = some o := by
  unfold f_X7_best
  by_cases c0 : x = 0
  · subst c0
    obtain ⟨o, a, b⟩ := best_both h when (how := 0) (by decide)
    rw [if_pos rfl]
    unfold jn_X7_best_9
    rw [show (0 : Int32) = nI 0 from rfl, a, bd_s]
    exact ⟨o, rfl, b⟩
  rw [if_neg c0]
  by_cases c1 : x = 1
  · subst c1
    obtain ⟨o, a, b⟩ := best_both h when (how := 1) (by decide)
    rw [if_pos rfl]
    unfold jn_X7_best_9
    rw [show (1 : Int32) = nI 1 from rfl, a, bd_s]
    exact ⟨o, rfl, b⟩
  rw [if_neg c1]
  refine ⟨0, rfl, ?_⟩
  unfold f_X8_best
  rcases in_lit x 1 (by decide) with ⟨⟨r, hr, e⟩, _⟩ | ⟨_, e⟩
  · rcases (show r = 0 ∨ r = 1 by omega) with rfl | rfl
    · exact absurd e c0
    · exact absurd e c1
  · rw [show f_X8_in x.toInt64 (0 : Int64) (1 : Int64) = some 0 from e, bd_s, if_pos rfl]
theorem s_so {th gd : Int64} {az : Int32} {ak : Nat → Int64} {q wz : Int32} {wk : Nat → Int64} {tz : Int32} {tq : Nat → Int64} {gr : Nat → Int32} {fz : Int32} {fk : Nat → Int64} {gz : Int32} {gk : Nat → Int64} {ez : Int32} {es : Nat → Int32} {el : Nat → Int64} {dk : Nat → Int32} {mq : Int32} {said : Nat → Int64} {many mgr md : Nat → Int32} (h : RelI th gd az ak q wz wk tz tq gr fz fk gz gk ez es el dk mq said many mgr md) (when then_ : Int64) (trq trs trs2 : Int32) (trw trt : Nat → Int64) (trg : Nat → Int32) (x : Int32) : ∃ (o : Int32) (a1 a2 : Int32) (a3 : Nat → Int64) (a4 : Int32) (a5 : Nat → Int64) (a6 : Nat → Int32) (mq' : Int32) (said' : Nat → Int64) (mgr' : Nat → Int32), f_X7_so when then_ th wz wk tz tq gr trq (nI 9) trs trw (nI 9) trs2 trt trg x = some (o, a1, a2, a3, a4, a5, a6) ∧ f_X8_so when then_ mq said many mgr x = some (o, mq', said', mgr') ∧ RelI th gd az ak q wz wk tz tq gr fz fk gz gk ez es el dk mq' said' many mgr' md := by
  have hR := h
  have hB : ∀ how : Nat, how < 2 → ∃ o, f_X2_least th wz wk tz tq gr when (nI how) = some o ∧ f_X8_best when said many mgr (nI how) = some o := fun how hh => best_both h when hh
  obtain ⟨k0, k1, k3, k4, rfl, rfl, rfl, rfl, rfl, ⟨hI, h2, hth, hgd, hq, hmq, hgr, hmgr, hez, hel⟩, hd, hmd⟩ := h
  have hIc := hI
  obtain ⟨e1, e2, e3⟩ := ir_th hI
  obtain ⟨⟨b0, b1, b3, b4⟩, ⟨f0, f1, f3, f4⟩, ha, hw, ht, hf, hg⟩ := hI
  rw [← hth] at e1 e2
  rw [← hgd] at e3
  have tr : ∀ y : Int64, bd (f_X7_allIn y then_) (fun o3 => bd (f_X7_truth o3) (fun o4 => some (o4, trq, trs, trw, trs2, trt, trg))) = some ((if (y &&& (then_ ^^^ (-1))) = 0 then 1 else 0), trq, trs, trw, trs2, trt, trg) := fun y => by
    rw [allIn_eq, bd_s, truth_eq, bd_s]
  have tm : ∀ y : Int64, jn_X8_so_54 when then_ many x mq said mgr y = some ((if (y &&& (then_ ^^^ (-1))) = 0 then 1 else 0), mq, said, mgr) := fun y => by
    unfold jn_X8_so_54
    by_cases z : (y &&& (then_ ^^^ (-1))) = 0
    · rw [if_pos z, if_pos z]
    · rw [if_neg z, if_neg z]
  unfold f_X7_so f_X8_so
  rcases in_lit x 3 (by decide) with ⟨⟨r, hr, rfl⟩, e⟩ | ⟨hn, e⟩
  · rw [show f_X8_in (nI r).toInt64 (0 : Int64) (3 : Int64) = some 1 from e, bd_s, if_neg z10]
    rcases (show r = 0 ∨ r = 1 ∨ r = 2 ∨ r = 3 by omega) with rfl | rfl | rfl | rfl
    · obtain ⟨o, a, b⟩ := hB 0 (by decide)
      rw [if_pos (show nI 0 = (0 : Int32) from rfl), a, bd_s, tr, if_neg (show ¬ nI 0 = (2 : Int32) by decide), if_neg (show ¬ nI 0 = (3 : Int32) by decide), b, bd_s, tm]
      exact ⟨_, _, _, _, _, _, _, _, _, _, rfl, rfl, hR⟩
    · obtain ⟨o, a, b⟩ := hB 1 (by decide)
      rw [if_neg (by decide), if_pos (show nI 1 = (1 : Int32) from rfl), a, bd_s, tr, if_neg (show ¬ nI 1 = (2 : Int32) by decide), if_neg (show ¬ nI 1 = (3 : Int32) by decide), b, bd_s, tm]
      exact ⟨_, _, _, _, _, _, _, _, _, _, rfl, rfl, hR⟩
    · obtain ⟨c1, c2, c3, c4, c5, c6, ec⟩ := isEver_eq b1 when then_ th wk tq trq trs trs2 trw trt trg
      obtain ⟨mgr', em, hm'⟩ := mever_eq b1 b0 when then_ mq said many mgr f0 f1
      have eQ : QU (meet said k0) (vp_updL (fun i => said (9 + i)) k1 when) (vp_updL (fun i => said (18 + i)) k1 (then_ ^^^ (-1))) (k1 + 1) = QU th (vp_updL wk k1 when) (vp_updL tq k1 (then_ ^^^ (-1))) (k1 + 1) := by
        rw [e1]
        refine QU_congr (fun i hi => ?_) (fun i hi => ?_) th
        · by_cases z : i = k1
          · subst z; rw [updL_at, updL_at]
          · rw [updL_ne _ z, updL_ne _ z, hw i (by omega)]
        · by_cases z : i = k1
          · subst z; rw [updL_at, updL_at]
          · rw [updL_ne _ z, updL_ne _ z, ht i (by omega)]
      have eQ2 : QU (meet said k0) (fun i => said (9 + i)) (fun i => said (18 + i)) k1 = QU th wk tq k1 := by rw [e1]; exact (QU_congr hw ht _).symm
      have eG2 : GR (meet said k0) (fun i => said (9 + i)) (fun i => said (18 + i)) k1 = GR th wk tq k1 := by rw [e1]; exact (GR_congr hw ht _).symm
      rw [eQ, eQ2] at em
      rw [eG2] at hm'
      have ec' : f_X7_isEver when then_ th (nI k1) wk (nI k1) tq trq (nI 9) trs trw (nI 9) trs2 trt trg = some (if QU th (vp_updL wk k1 when) (vp_updL tq k1 (then_ ^^^ (-1))) (k1 + 1) = 0 then 0 else 1, c1, c2, c3, c4, c5, c6) := ec
      rw [if_neg (by decide), if_neg (by decide), if_pos (show nI 2 = (2 : Int32) from rfl), ec', bd_s, if_pos (show nI 2 = (2 : Int32) from rfl), em, bd_s]
      have hN : RelI th gd (nI k0) ak q (nI k1) wk (nI k1) tq gr (nI k3) fk (nI k4) gk ez es el dk (if QU th wk tq k1 = 0 then 0 else 1) (vp_updL (vp_updL said (9 + k1) when) (18 + k1) (then_ ^^^ (-1))) many mgr' md := by
        refine ⟨k0, k1, k3, k4, rfl, rfl, rfl, rfl, rfl, ⟨⟨⟨b0, b1, b3, b4⟩, ⟨f0, f1, f3, f4⟩, fun i hi => ?_, fun i hi => ?_, fun i hi => ?_, fun i hi => ?_, fun i hi => ?_⟩, h2, hth, hgd, hq, hq.symm, hgr, hm', hez, hel⟩, hd, hmd⟩
        · rw [updL_ne _ (by omega), updL_ne _ (by omega)]; exact ha i hi
        · rw [updL_ne _ (by omega), updL_ne _ (by omega)]; exact hw i hi
        · rw [updL_ne _ (by omega), updL_ne _ (by omega)]; exact ht i hi
        · rw [updL_ne _ (by omega), updL_ne _ (by omega)]; exact hf i hi
        · rw [updL_ne _ (by omega), updL_ne _ (by omega)]; exact hg i hi
      by_cases z : QU th (vp_updL wk k1 when) (vp_updL tq k1 (then_ ^^^ (-1))) (k1 + 1) = 0
      · rw [if_pos z, if_pos rfl]
        exact ⟨0, _, _, _, _, _, _, _, _, _, rfl, rfl, hN⟩
      · rw [if_neg z, if_neg z10]
        exact ⟨1, _, _, _, _, _, _, _, _, _, rfl, rfl, hN⟩
    · rw [if_neg (by decide), if_neg (by decide), if_neg (by decide), if_pos (show nI 3 = (3 : Int32) from rfl), show f_X2_worldsThere th = some th from rfl, bd_s, tr, if_neg (show ¬ nI 3 = (2 : Int32) by decide), if_pos (show nI 3 = (3 : Int32) from rfl), e2, bd_s, tm]
      exact ⟨_, _, _, _, _, _, _, _, _, _, rfl, rfl, hR⟩
  · have nx : ∀ r : Nat, r ≤ 3 → ¬ x = nI r := fun r hr z => hn ⟨r, hr, z⟩
    rw [if_neg (show ¬ x = (0 : Int32) from nx 0 (by decide)), if_neg (show ¬ x = (1 : Int32) from nx 1 (by decide)), if_neg (show ¬ x = (2 : Int32) from nx 2 (by decide)), if_neg (show ¬ x = (3 : Int32) from nx 3 (by decide)), show f_X8_in x.toInt64 (0 : Int64) (3 : Int64) = some 0 from e, bd_s, if_pos rfl]
    exact ⟨_, _, _, _, _, _, _, _, _, _, rfl, rfl, hR⟩
theorem findEnd_eq {th gd : Int64} {az : Int32} {ak : Nat → Int64} {q wz : Int32} {wk : Nat → Int64} {tz : Int32} {tq : Nat → Int64} {gr : Nat → Int32} {fz : Int32} {fk : Nat → Int64} {gz : Int32} {gk : Nat → Int64} {ez : Int32} {es : Nat → Int32} {el : Nat → Int64} {dk : Nat → Int32} {mq : Int32} {said : Nat → Int64} {many mgr md : Nat → Int32} (h : RelI th gd az ak q wz wk tz tq gr fz fk gz gk ez es el dk mq said many mgr md) (x : Int32) : ∃ (k1 : Nat) (L : List Nat), k1 ≤ 8 ∧ L.length ≤ 256 ∧ (∀ j, j < L.length → L.getD j 0 < 2 ^ k1) ∧ ez = nI L.length ∧ (∀ j, j < L.length → es j = nI (L.getD j 0) ∧ f_X8_leftBy said many (nI (L.getD j 0)) = some (el j)) ∧ f_X8_findEnd said many x = some (fE x 0 L) := by
  obtain ⟨k0, k1, k3, k4, rfl, rfl, rfl, rfl, rfl, ⟨hI, h2, hth, hgd, hq, hmq, hgr, hmgr, hez, hel⟩, hd, hmd⟩ := h
  have hIc := hI
  obtain ⟨e1, e2, e3⟩ := ir_th hI
  obtain ⟨⟨b0, b1, b3, b4⟩, ⟨f0, f1, f3, f4⟩, ha, hw, ht, hf, hg⟩ := hI
  rw [← hth] at e1 e2
  rw [← hgd] at e3
  refine ⟨k1, EL k1 wk tq gd, b1, EL_len b1 _ _ _, fun j hj => EL_getD hj, hez, fun j hj => ⟨(hel j hj).1, ?_⟩, ?_⟩
  · rw [(hel j hj).2]
    exact (LB_eq b1 f1 hw ht (EL_getD hj) e3).2
  · unfold f_X8_findEnd
    have h8 := pow8 b1
    exact fnd4 b1 said many f1 (EN k1 wk tq gd) (fun s hs => isEnd_eq b1 f1 hw ht hs e3) x (2 ^ k1) 0 0 fu (by omega) (by rw [fu_eq]; omega)
theorem s_ends {th gd : Int64} {az : Int32} {ak : Nat → Int64} {q wz : Int32} {wk : Nat → Int64} {tz : Int32} {tq : Nat → Int64} {gr : Nat → Int32} {fz : Int32} {fk : Nat → Int64} {gz : Int32} {gk : Nat → Int64} {ez : Int32} {es : Nat → Int32} {el : Nat → Int64} {dk : Nat → Int32} {mq : Int32} {said : Nat → Int64} {many mgr md : Nat → Int32} (h : RelI th gd az ak q wz wk tz tq gr fz fk gz gk ez es el dk mq said many mgr md) (x : Int32) : ∃ o, f_X7_ends ez es x = some o ∧ f_X8_ends said many x = some o := by
  obtain ⟨k1, L, b1, hL, hLt, hez, hel, hF⟩ := findEnd_eq h x
  subst hez
  unfold f_X7_ends f_X8_ends
  by_cases c : x = -1
  · subst c
    rw [if_pos rfl, if_pos (by decide), hF, bd_s, fE_neg L 0 (by omega), Nat.zero_add]
    exact ⟨_, rfl, rfl⟩
  rw [if_neg c]
  by_cases h0 : x < (0 : Int32)
  · have hno : ¬ ∃ r, r < L.length ∧ x = nI r := fun ⟨r, hr, e⟩ => by rw [e] at h0; exact lnn (by omega) h0
    rw [show f_X1_has (nI L.length) x = f_X5_has (nI L.length) x from rfl, has5_n (by omega) hno, bd_s, if_pos rfl, if_neg (show ¬ (-1 : Int32) ≤ x from fun z => c (by
      rw [Int32.le_iff_toInt_le] at z
      rw [Int32.lt_iff_toInt_lt] at h0
      have z' : (-1 : Int) ≤ x.toInt := z
      have h0' : x.toInt < 0 := h0
      exact Int32.toInt_inj.mp (show x.toInt = -1 by omega)))]
    exact ⟨_, rfl, rfl⟩
  · obtain ⟨j, hj, rfl⟩ := nI_of h0
    rw [if_pos (show (-1 : Int32) ≤ nI j by rw [Int32.le_iff_toInt_le, nI_toInt hj]; show (-1 : Int) ≤ (j : Int); omega), hF, bd_s]
    have eF := fE_at L 0 j (by omega) (by omega)
    rw [Nat.zero_add] at eF
    rw [eF]
    by_cases hl : j < L.length
    · rw [show f_X1_has (nI L.length) (nI j) = f_X5_has (nI L.length) (nI j) from rfl, has5_y (by omega) hl, bd_s, if_neg z10, if_pos hl]
      unfold f_X1_setAt
      rw [if_neg (lnn (by omega)), if_neg (by rw [nle (by omega) (by omega)]; omega), if_neg (by rw [i256, nle (by decide) (by omega)]; omega), gdi (by omega) (by decide), clp (by omega), (hel j hl).1, bd_s]
      exact ⟨_, rfl, rfl⟩
    · rw [show f_X1_has (nI L.length) (nI j) = f_X5_has (nI L.length) (nI j) from rfl, has5_n (by omega) (fun ⟨r, hr, e⟩ => by rw [neq hj (by omega)] at e; omega), bd_s, if_pos rfl, if_neg hl]
      exact ⟨_, rfl, rfl⟩
theorem s_leaves {th gd : Int64} {az : Int32} {ak : Nat → Int64} {q wz : Int32} {wk : Nat → Int64} {tz : Int32} {tq : Nat → Int64} {gr : Nat → Int32} {fz : Int32} {fk : Nat → Int64} {gz : Int32} {gk : Nat → Int64} {ez : Int32} {es : Nat → Int32} {el : Nat → Int64} {dk : Nat → Int32} {mq : Int32} {said : Nat → Int64} {many mgr md : Nat → Int32} (h : RelI th gd az ak q wz wk tz tq gr fz fk gz gk ez es el dk mq said many mgr md) (x : Int32) : ∃ o, f_X7_leaves ez el x = some o ∧ f_X8_leaves said many x = some o := by
  obtain ⟨k1, L, b1, hL, hLt, hez, hel, hF⟩ := findEnd_eq h x
  subst hez
  have h8 := pow8 b1
  unfold f_X7_leaves f_X8_leaves
  by_cases h0 : x < (0 : Int32)
  · rw [if_neg (show ¬ (0 : Int32) ≤ x from fun z => by rw [Int32.le_iff_toInt_le] at z; rw [Int32.lt_iff_toInt_lt] at h0; omega)]
    unfold jn_X8_leaves_13 f_X1_leftAt
    rw [if_pos h0, if_neg (by decide), bd_s]
    exact ⟨_, rfl, rfl⟩
  · obtain ⟨j, hj, rfl⟩ := nI_of h0
    rw [if_pos (lnn' hj), hF, bd_s]
    have eF := fE_at L 0 j (by omega) (by omega)
    rw [Nat.zero_add] at eF
    rw [eF]
    unfold jn_X8_leaves_13
    by_cases hl : j < L.length
    · have hlt := hLt j hl
      rw [if_pos hl, leftAt_eq hL hl, bd_s, if_pos (lnn' (by omega)), (hel j hl).2, bd_s]
      exact ⟨_, rfl, rfl⟩
    · rw [if_neg hl, if_neg (by decide)]
      unfold f_X1_leftAt
      rw [if_neg (lnn hj), if_pos (by rw [nle (by omega) hj]; omega), bd_s]
      exact ⟨_, rfl, rfl⟩
theorem s_held {th gd : Int64} {az : Int32} {ak : Nat → Int64} {q wz : Int32} {wk : Nat → Int64} {tz : Int32} {tq : Nat → Int64} {gr : Nat → Int32} {fz : Int32} {fk : Nat → Int64} {gz : Int32} {gk : Nat → Int64} {ez : Int32} {es : Nat → Int32} {el : Nat → Int64} {dk : Nat → Int32} {mq : Int32} {said : Nat → Int64} {many mgr md : Nat → Int32} (h : RelI th gd az ak q wz wk tz tq gr fz fk gz gk ez es el dk mq said many mgr md) (then_ : Int64) : ∃ o, f_X7_held then_ ez el = some o ∧ f_X8_held then_ said many = some o := by
  obtain ⟨k0, k1, k3, k4, rfl, rfl, rfl, rfl, rfl, ⟨hI, h2, hth, hgd, hq, hmq, hgr, hmgr, hez, hel⟩, hd, hmd⟩ := h
  have hIc := hI
  obtain ⟨e1, e2, e3⟩ := ir_th hI
  obtain ⟨⟨b0, b1, b3, b4⟩, ⟨f0, f1, f3, f4⟩, ha, hw, ht, hf, hg⟩ := hI
  rw [← hth] at e1 e2
  rw [← hgd] at e3
  have h8 := pow8 b1
  have hL := EL_len b1 wk tq gd
  subst hez
  unfold f_X7_held f_X8_held f_X1_holding
  have c := holding5 (EL k1 wk tq gd) hL then_ el (LB k1 wk tq gd) (fun j hj => (hel j hj).2) (EL k1 wk tq gd).length 0 0 fu (by omega) (by rw [fu_eq]; omega)
  have m := held4 b1 then_ said many f1 (EN k1 wk tq gd) (LB k1 wk tq gd) (fun s hs => isEnd_eq b1 f1 hw ht hs e3) (fun s hs => (LB_eq b1 f1 hw ht hs e3).2) (2 ^ k1) 0 0 fu (by omega) (by rw [fu_eq]; omega)
  rw [show (0 : Int32) = nI 0 from rfl, c, bd_s, m]
  exact ⟨_, rfl, rfl⟩
theorem gC_some {x : Int32} {K : Nat → Option Int32} (h : ∀ m, ∃ o, K m = some o) : ∀ (L : List Nat) (m : Nat), ∃ o, gC x m L K = some o
  | [], m => h m
  | a :: L, m => by
    show ∃ o, (if nI m = x then some (nI a) else gC x (m + 1) L K) = some o
    by_cases e : nI m = x
    · rw [if_pos e]; exact ⟨_, rfl⟩
    · rw [if_neg e]; exact gC_some h L (m + 1)
theorem why_some {k : Nat} (hk : k ≤ 6) (th gr : Int64) (gk : Nat → Int64) (x : Int32) : ∃ o, f_X7_why th gr (nI k) gk x = some o := by
  unfold f_X7_why
  by_cases hx : (-1 : Int32) ≤ x
  · rw [if_pos hx]
    have e := why11 hk th gr gk x 7 0 0 fu (by decide) (by decide)
    obtain ⟨o, ho⟩ := gC_some (x := x) (K := fun m' => if x = -1 then some (nI m') else some (-1)) (fun m => by
      by_cases z : x = -1
      · exact ⟨_, if_pos z⟩
      · exact ⟨_, if_neg z⟩) (flt (fun z => enL (fun s => decide (pc6 s = z) && (decide (s < 2 ^ k) && wyB gr gk k th (nI s))) 64 0) 7 0) 0
    exact ⟨o, e.trans ho⟩
  · rw [if_neg hx]; exact ⟨_, rfl⟩
theorem s_why {th gd : Int64} {az : Int32} {ak : Nat → Int64} {q wz : Int32} {wk : Nat → Int64} {tz : Int32} {tq : Nat → Int64} {gr : Nat → Int32} {fz : Int32} {fk : Nat → Int64} {gz : Int32} {gk : Nat → Int64} {ez : Int32} {es : Nat → Int32} {el : Nat → Int64} {dk : Nat → Int32} {mq : Int32} {said : Nat → Int64} {many mgr md : Nat → Int32} (h : RelI th gd az ak q wz wk tz tq gr fz fk gz gk ez es el dk mq said many mgr md) (then_ : Int64) (x : Int32) : ∃ o, f_X7_why then_ gd gz gk x = some o ∧ f_X8_why then_ said many x = some o := by
  obtain ⟨k0, k1, k3, k4, rfl, rfl, rfl, rfl, rfl, ⟨hI, h2, hth, hgd, hq, hmq, hgr, hmgr, hez, hel⟩, hd, hmd⟩ := h
  have hIc := hI
  obtain ⟨e1, e2, e3⟩ := ir_th hI
  obtain ⟨⟨b0, b1, b3, b4⟩, ⟨f0, f1, f3, f4⟩, ha, hw, ht, hf, hg⟩ := hI
  rw [← hth] at e1 e2
  rw [← hgd] at e3
  obtain ⟨o, e⟩ := why_some b4 then_ gd gk x
  refine ⟨o, e, ?_⟩
  rw [← e]
  exact (why_same b4 then_ gd gk said many f4 e3 hg x).symm
theorem s_doubt {th gd : Int64} {az : Int32} {ak : Nat → Int64} {q wz : Int32} {wk : Nat → Int64} {tz : Int32} {tq : Nat → Int64} {gr : Nat → Int32} {fz : Int32} {fk : Nat → Int64} {gz : Int32} {gk : Nat → Int64} {ez : Int32} {es : Nat → Int32} {el : Nat → Int64} {dk : Nat → Int32} {mq : Int32} {said : Nat → Int64} {many mgr md : Nat → Int32} (h : RelI th gd az ak q wz wk tz tq gr fz fk gz gk ez es el dk mq said many mgr md) (x : Int32) : ∃ o, f_X7_doubt dk x = some o ∧ f_X8_doubt md x = some o := by
  obtain ⟨k0, k1, k3, k4, rfl, rfl, rfl, rfl, rfl, ⟨hI, h2, hth, hgd, hq, hmq, hgr, hmgr, hez, hel⟩, hd, hmd⟩ := h
  have hIc := hI
  obtain ⟨e1, e2, e3⟩ := ir_th hI
  obtain ⟨⟨b0, b1, b3, b4⟩, ⟨f0, f1, f3, f4⟩, ha, hw, ht, hf, hg⟩ := hI
  rw [← hth] at e1 e2
  rw [← hgd] at e3
  unfold f_X7_doubt f_X8_doubt
  by_cases c : ∃ w, w < 64 ∧ x = nI w
  · obtain ⟨w, hw', rfl⟩ := c
    rw [isWorld_yes hw', bd_s, if_neg z10, mWorld_yes hw', bd_s, if_neg z10, gdi hw' (by decide), clp (by omega), hmd w hw']
    unfold f_X0_at
    rw [if_neg (lnn (by omega)), if_neg (by rw [i64, nle (by decide) (by omega)]; omega), gdi hw' (by decide), clp (by omega), bd_s]
    exact ⟨_, rfl, rfl⟩
  · rw [isWorld_no c, bd_s, if_pos rfl, mWorld_no c, bd_s, if_pos rfl]
    exact ⟨_, rfl, rfl⟩
theorem s_learn {th gd : Int64} {az : Int32} {ak : Nat → Int64} {q wz : Int32} {wk : Nat → Int64} {tz : Int32} {tq : Nat → Int64} {gr : Nat → Int32} {fz : Int32} {fk : Nat → Int64} {gz : Int32} {gk : Nat → Int64} {ez : Int32} {es : Nat → Int32} {el : Nat → Int64} {dk : Nat → Int32} {mq : Int32} {said : Nat → Int64} {many mgr md : Nat → Int32} (h : RelI th gd az ak q wz wk tz tq gr fz fk gz gk ez es el dk mq said many mgr md) (then_ : Int64) (x : Int32) : ∃ (o : Int32) (dk' md' : Nat → Int32), f_X7_learn then_ th dk x = some (o, dk') ∧ f_X8_learn then_ md x = some (o, md') ∧ RelI th gd az ak q wz wk tz tq gr fz fk gz gk ez es el dk' mq said many mgr md' := by
  obtain ⟨k0, k1, k3, k4, h1, h2, h3, h4, h5, hC, hd, hmd⟩ := h
  obtain ⟨o, dk', md', a, b, c, d⟩ := learn_same (then_ := then_) hd hmd x
  exact ⟨o, dk', md', a, b, k0, k1, k3, k4, h1, h2, h3, h4, h5, hC, c, d⟩
theorem bel_some {th then_ : Int64} {dk : Nat → Int32} (hd : dOK th dk) : ∃ o, f_X7_believed then_ th dk = some o := by
  unfold f_X7_believed
  have hn := dOK_n hd
  have c1 := dleast_eq dk (fun w => (dk w).toNatClampNeg) (th &&& then_) (fun w hw hb => hn w hw (bl_andl hb))
  have c2 := dleast_eq dk (fun w => (dk w).toNatClampNeg) (th &&& (then_ ^^^ (-1))) (fun w hw hb => hn w hw (bl_andl hb))
  rw [show f_X2_worldsThere th = some th from rfl, bd_s, lt_y, bd_s, lt_y]
  by_cases z : (th &&& (then_ ^^^ (-1))) = 0
  · rw [if_pos z]; exact ⟨_, rfl⟩
  · rw [if_neg z]
    by_cases z2 : (th &&& then_) = 0
    · rw [if_pos z2]; exact ⟨_, rfl⟩
    · rw [if_neg z2, c1, c2, bd_s, bd_s]; exact ⟨_, rfl⟩
theorem s_believed {th gd : Int64} {az : Int32} {ak : Nat → Int64} {q wz : Int32} {wk : Nat → Int64} {tz : Int32} {tq : Nat → Int64} {gr : Nat → Int32} {fz : Int32} {fk : Nat → Int64} {gz : Int32} {gk : Nat → Int64} {ez : Int32} {es : Nat → Int32} {el : Nat → Int64} {dk : Nat → Int32} {mq : Int32} {said : Nat → Int64} {many mgr md : Nat → Int32} (h : RelI th gd az ak q wz wk tz tq gr fz fk gz gk ez es el dk mq said many mgr md) (then_ : Int64) : ∃ o, f_X7_believed then_ th dk = some o ∧ f_X8_believed then_ md = some o := by
  obtain ⟨k0, k1, k3, k4, h1, h2, h3, h4, h5, hC, hd, hmd⟩ := h
  obtain ⟨o, e⟩ := bel_some (then_ := then_) hd
  exact ⟨o, e, (believed_same hd hmd).symm.trans e⟩
theorem s_forget {th gd : Int64} {az : Int32} {ak : Nat → Int64} {q wz : Int32} {wk : Nat → Int64} {tz : Int32} {tq : Nat → Int64} {gr : Nat → Int32} {fz : Int32} {fk : Nat → Int64} {gz : Int32} {gk : Nat → Int64} {ez : Int32} {es : Nat → Int32} {el : Nat → Int64} {dk : Nat → Int32} {mq : Int32} {said : Nat → Int64} {many mgr md : Nat → Int32} (h : RelI th gd az ak q wz wk tz tq gr fz fk gz gk ez es el dk mq said many mgr md) : ∃ (o : Int32) (dk' md' : Nat → Int32), f_X7_forget th wz wk tz tq gr dk = some (o, dk') ∧ f_X8_forget said many mgr md = some (o, md') ∧ RelI th gd az ak q wz wk tz tq gr fz fk gz gk ez es el dk' mq said many mgr md' := by
  obtain ⟨k0, k1, k3, k4, rfl, rfl, rfl, rfl, rfl, ⟨hI, h2, hth, hgd, hq, hmq, hgr, hmgr, hez, hel⟩, hd, hmd⟩ := h
  have hIc := hI
  obtain ⟨e1, e2, e3⟩ := ir_th hI
  obtain ⟨⟨b0, b1, b3, b4⟩, ⟨f0, f1, f3, f4⟩, ha, hw, ht, hf, hg⟩ := hI
  rw [← hth] at e1 e2
  rw [← hgd] at e3
  unfold f_X7_forget f_X8_forget
  rw [restart_eq (by omega), bd_s, dfree_eq, bd_s, forgets_eq (by omega) (by omega) said many f0 f1 mgr md (grOK_of hmgr), bd_s, plain_eq, bd_s, e1]
  have key : ∀ w, w < 64 → (if w < 64 then WG th (fun i => said (9 + i)) (fun i => said (18 + i)) k1 mgr w else md w) = (if w < 64 then WG th wk tq k1 gr w else dk w) := fun w hw' => by
    rw [if_pos hw', if_pos hw']
    exact (WG_congr hw ht (fun r hr => by rw [hgr r hr, hmgr r hr]) _ _).symm
  refine ⟨_, _, (fun j => if j < 64 then WG th (fun i => said (9 + i)) (fun i => said (18 + i)) k1 mgr j else md j), rfl, ?_, k0, k1, k3, k4, rfl, rfl, rfl, rfl, rfl, ⟨hIc, h2, hth, hgd, hq, hmq, hgr, hmgr, hez, hel⟩, ?_, key⟩
  · rw [fre_congr key]
  · intro w hw'
    have := WG_ok (th := th) (w := wk) (t := tq) (grOK_of hgr) w hw'
    show (bl _ w = true → ∃ d, d ≤ 99 ∧ (if w < 64 then _ else _) = nI d) ∧ (_ → (if w < 64 then _ else _) = _)
    rw [if_pos hw']
    exact this
theorem saying_c {k r : Nat} (hk : k ≤ 9) (hr : r < k) (as_ th : Int64) (wk : Nat → Int64) : f_X7_weighSaying as_ th (nI k) wk (nI r) = some (nI (cnt64 (th &&& wk r)), as_ + 1) := by
  unfold f_X7_weighSaying
  rw [lt_y, show f_X2_worldsThere th = some th from rfl, bd_s, get_eq hk hr, bd_s, bitCountL_eq, bd_s]
theorem z_ad (x : Int32) : (0 : Int32) + x = x := Int32.zero_add x
theorem saying_m {r : Nat} (hr : r < 9) (as_ th : Int64) (said : Nat → Int64) (many : Nat → Int32) (hT : f_X8_thereNow said many = some th) : f_X8_saying as_ said many (nI r) = some (nI (cnt64 (th &&& said (9 + r))), as_ + 1) := by
  unfold f_X8_saying f_X8_adds
  rw [lt_y, bd_s, hT, bd_s, ad9, gdi (by omega) (by decide), clp (by omega), sizeOf_eq, bd_s, z_ad]
  rfl
theorem s_weight {th gd : Int64} {az : Int32} {ak : Nat → Int64} {q wz : Int32} {wk : Nat → Int64} {tz : Int32} {tq : Nat → Int64} {gr : Nat → Int32} {fz : Int32} {fk : Nat → Int64} {gz : Int32} {gk : Nat → Int64} {ez : Int32} {es : Nat → Int32} {el : Nat → Int64} {dk : Nat → Int32} {mq : Int32} {said : Nat → Int64} {many mgr md : Nat → Int32} (h : RelI th gd az ak q wz wk tz tq gr fz fk gz gk ez es el dk mq said many mgr md) (as_ : Int64) (x y : Int32) : ∃ (o : Int32) (a : Int64), f_X7_weight as_ th wz wk tz tq gr x y = some (o, a) ∧ f_X8_weight as_ said many mgr x y = some (o, a) := by
  obtain ⟨k0, k1, k3, k4, rfl, rfl, rfl, rfl, rfl, ⟨hI, h2, hth, hgd, hq, hmq, hgr, hmgr, hez, hel⟩, hd, hmd⟩ := h
  have hIc := hI
  obtain ⟨e1, e2, e3⟩ := ir_th hI
  obtain ⟨⟨b0, b1, b3, b4⟩, ⟨f0, f1, f3, f4⟩, ha, hw, ht, hf, hg⟩ := hI
  rw [← hth] at e1 e2
  rw [← hgd] at e3
  unfold f_X7_weight f_X8_weight
  rcases in_lit x 3 (by decide) with ⟨⟨v, hv, rfl⟩, e⟩ | ⟨hn, e⟩
  · rw [show f_X8_in (nI v).toInt64 (0 : Int64) (3 : Int64) = some 1 from e, bd_s, if_neg z10]
    by_cases c : ∃ r, r < k1 ∧ y = nI r
    · obtain ⟨r, hr, rfl⟩ := c
      rw [has4_y (by omega) hr, bd_s, if_neg z10, isRule_y (by omega) hr f1, bd_s, if_neg z10]
      have sc : ∀ a : Int64, f_X7_weighSaying a th (nI k1) wk (nI r) = some (nI (cnt64 (th &&& wk r)), a + 1) := fun a => saying_c (by omega) hr a th wk
      have sm : ∀ a : Int64, f_X8_saying a said many (nI r) = some (nI (cnt64 (th &&& wk r)), a + 1) := fun a => by rw [saying_m (by omega) a th said many e2, hw r hr]
      have rc : ∀ a : Int64, f_X7_weighRuled a th (nI k1) wk gr (nI r) = some (nI (cnt64 (th &&& wk r)) + cgI gr r, a + 10 + 1) := fun a => by
        unfold f_X7_weighRuled
        rw [lt_y, sc, bd_s, counted_eq gr (by omega), bd_s]
      have rm : ∀ a : Int64, f_X8_ruled a said many mgr (nI r) = some (nI (cnt64 (th &&& wk r)) + cgI gr r, a + 10 + 1) := fun a => by
        unfold f_X8_ruled f_X8_adds
        rw [lt_y, bd_s, sm, bd_s, mcounted_eq mgr (by omega), bd_s, z_ad, show cgI mgr r = cgI gr r from by unfold cgI; rw [hgr r hr, hmgr r hr]]
        rfl
      rcases (show v = 0 ∨ v = 1 ∨ v = 2 ∨ v = 3 by omega) with rfl | rfl | rfl | rfl
      · rw [if_pos (show nI 0 = (0 : Int32) from rfl), if_pos (show nI 0 = (0 : Int32) from rfl), sc, sm, bd_s]
        exact ⟨_, _, rfl, rfl⟩
      · rw [if_neg (show ¬ nI 1 = (0 : Int32) by decide), if_neg (show ¬ nI 1 = (0 : Int32) by decide), if_pos (show nI 1 = (1 : Int32) from rfl), if_pos (show nI 1 = (1 : Int32) from rfl), rc, rm, bd_s]
        exact ⟨_, _, rfl, rfl⟩
      · rw [if_neg (by decide), if_neg (by decide), if_pos (show nI 2 = (2 : Int32) from rfl), if_neg (by decide), if_neg (by decide), if_pos (show nI 2 = (2 : Int32) from rfl)]
        unfold f_X7_weighGuessed f_X8_adds
        rw [lt_y, lt_y, sc, bd_s, bd_s, bd_s, sm, bd_s, z_ad]
        exact ⟨_, _, rfl, rfl⟩
      · rw [if_neg (by decide), if_neg (by decide), if_neg (by decide), if_pos (show nI 3 = (3 : Int32) from rfl), if_neg (by decide), if_neg (by decide), if_neg (by decide)]
        unfold f_X7_weighStrong f_X8_adds
        rw [lt_y, lt_y, rc, bd_s, show f_X2_worldsThere th = some th from rfl, bd_s, breaking_eq (by omega) hr, bd_s, bitCountL_eq, bd_s, bd_s, bd_s, rm, bd_s, e2, bd_s, mbroken_eq (by omega), bd_s, sizeOf_eq, bd_s, z_ad, brk_congr hw ht r hr]
        exact ⟨_, _, rfl, rfl⟩
    · rw [has4_n (by omega) c, bd_s, if_pos rfl, isRule_n (by omega) c f1, bd_s, if_pos rfl]
      exact ⟨_, _, rfl, rfl⟩
  · have nx : ∀ r : Nat, r ≤ 3 → ¬ x = nI r := fun r hr z => hn ⟨r, hr, z⟩
    rw [show f_X8_in x.toInt64 (0 : Int64) (3 : Int64) = some 0 from e, bd_s, if_pos rfl]
    refine ⟨-1000, as_, ?_, rfl⟩
    by_cases c : ∃ r, r < k1 ∧ y = nI r
    · obtain ⟨r, hr, rfl⟩ := c
      rw [has4_y (by omega) hr, bd_s, if_neg z10, if_neg (show ¬ x = (0 : Int32) from nx 0 (by decide)), if_neg (show ¬ x = (1 : Int32) from nx 1 (by decide)), if_neg (show ¬ x = (2 : Int32) from nx 2 (by decide)), if_neg (show ¬ x = (3 : Int32) from nx 3 (by decide))]
    · rw [has4_n (by omega) c, bd_s, if_pos rfl]
theorem s_count {th gd : Int64} {az : Int32} {ak : Nat → Int64} {q wz : Int32} {wk : Nat → Int64} {tz : Int32} {tq : Nat → Int64} {gr : Nat → Int32} {fz : Int32} {fk : Nat → Int64} {gz : Int32} {gk : Nat → Int64} {ez : Int32} {es : Nat → Int32} {el : Nat → Int64} {dk : Nat → Int32} {mq : Int32} {said : Nat → Int64} {many mgr md : Nat → Int32} (h : RelI th gd az ak q wz wk tz tq gr fz fk gz gk ez es el dk mq said many mgr md) (zz : Int32) (x : Int32) : ∃ o, f_X7_count zz th az q wz fz gz x = some o ∧ f_X8_count zz mq said many x = some o := by
  obtain ⟨k0, k1, k3, k4, rfl, rfl, rfl, rfl, rfl, ⟨hI, h2, hth, hgd, hq, hmq, hgr, hmgr, hez, hel⟩, hd, hmd⟩ := h
  have hIc := hI
  obtain ⟨e1, e2, e3⟩ := ir_th hI
  obtain ⟨⟨b0, b1, b3, b4⟩, ⟨f0, f1, f3, f4⟩, ha, hw, ht, hf, hg⟩ := hI
  rw [← hth] at e1 e2
  rw [← hgd] at e3
  unfold f_X7_count f_X8_count
  by_cases c0 : x = 0
  · rw [if_pos c0, if_pos c0, gd_y (by decide)]
    exact ⟨_, rfl, by rw [← f0]; rfl⟩
  rw [if_neg c0, if_neg c0]
  by_cases c1 : x = 1
  · rw [if_pos c1, if_pos c1, gd_y (by decide)]
    exact ⟨_, rfl, by rw [← f1]; rfl⟩
  rw [if_neg c1, if_neg c1]
  by_cases c2 : x = 2
  · rw [if_pos c2, if_pos c2, gd_y (by decide)]
    exact ⟨_, rfl, by rw [← f3]; rfl⟩
  rw [if_neg c2, if_neg c2]
  by_cases c3 : x = 3
  · rw [if_pos c3, if_pos c3, gd_y (by decide)]
    exact ⟨_, rfl, by rw [← f4]; rfl⟩
  rw [if_neg c3, if_neg c3]
  by_cases c4 : x = 4
  · rw [if_pos c4, if_pos c4, hmq, hq]
    by_cases z : QU th wk tq k1 = 0
    · rw [if_pos z]; exact ⟨0, rfl, rfl⟩
    · rw [if_neg z]; exact ⟨1, rfl, rfl⟩
  rw [if_neg c4, if_neg c4]
  by_cases c5 : x = 5
  · rw [if_pos c5, if_pos c5]; exact ⟨_, rfl, rfl⟩
  rw [if_neg c5, if_neg c5]
  by_cases c6 : x = 6
  · rw [if_pos c6, if_pos c6, show f_X2_worldsThere th = some th from rfl, bd_s, bitCountL_eq, bd_s, e2, bd_s, sizeOf_eq, bd_s]; exact ⟨_, rfl, rfl⟩
  rw [if_neg c6, if_neg c6]
  exact ⟨_, rfl, rfl⟩
theorem wrl {s k : Nat} (hs : s < 5) (hk : k ≤ 9) {f said : Nat → Int64} {many : Nat → Int32} (hm : many s = nI k) (hf : ∀ i, i < k → f i = said (9 * s + i)) (when then_ : Int64) (y : Int32) : ∃ o, f_X5_get (nI k) f y = some o ∧ jn_X8_worlds_31 when then_ said many (nI s) y = some o := by
  unfold jn_X8_worlds_31
  rcases in_lit (nI s) 4 (by decide) with ⟨_, e⟩ | ⟨hn, _⟩
  · rw [show f_X8_in (nI s).toInt64 (0 : Int64) (4 : Int64) = some 1 from e, bd_s, if_neg z10, gdi hs (by decide), clp (by omega), hm]
    by_cases c : ∃ r, r < k ∧ y = nI r
    · obtain ⟨r, hr, rfl⟩ := c
      rw [get_eq hk hr, in_y hk hr, bd_s, if_neg z10, show (9 : Int32) * nI s + nI r = nI (9 * s + r) from by rw [show (9 : Int32) = nI 9 from rfl, show nI 9 * nI s = nI (9 * s) from (Int32.ofNat_mul 9 s).symm, nI_add], gdi (by omega) (by decide), clp (by omega), hf r hr]
      exact ⟨_, rfl, rfl⟩
    · rw [get_no hk c, in_n hk c, bd_s, if_pos rfl]
      exact ⟨_, rfl, rfl⟩
  · exact absurd ⟨s, by omega, rfl⟩ hn
theorem s_worlds {th gd : Int64} {az : Int32} {ak : Nat → Int64} {q wz : Int32} {wk : Nat → Int64} {tz : Int32} {tq : Nat → Int64} {gr : Nat → Int32} {fz : Int32} {fk : Nat → Int64} {gz : Int32} {gk : Nat → Int64} {ez : Int32} {es : Nat → Int32} {el : Nat → Int64} {dk : Nat → Int32} {mq : Int32} {said : Nat → Int64} {many mgr md : Nat → Int32} (h : RelI th gd az ak q wz wk tz tq gr fz fk gz gk ez es el dk mq said many mgr md) (when then_ : Int64) (x y : Int32) : ∃ o, f_X7_worlds when then_ az ak wz wk tz tq fz fk gz gk x y = some o ∧ f_X8_worlds when then_ said many x y = some o := by
  obtain ⟨k0, k1, k3, k4, rfl, rfl, rfl, rfl, rfl, ⟨hI, h2, hth, hgd, hq, hmq, hgr, hmgr, hez, hel⟩, hd, hmd⟩ := h
  have hIc := hI
  obtain ⟨e1, e2, e3⟩ := ir_th hI
  obtain ⟨⟨b0, b1, b3, b4⟩, ⟨f0, f1, f3, f4⟩, ha, hw, ht, hf, hg⟩ := hI
  rw [← hth] at e1 e2
  rw [← hgd] at e3
  unfold f_X7_worlds f_X8_worlds
  by_cases c0 : x = 0
  · subst c0
    obtain ⟨o, a, b⟩ := wrl (s := 0) (k := k0) (by decide) (by omega) f0 (f := ak) (fun i hi => by rw [ha i hi]; congr 1; omega) when then_ y
    rw [if_pos rfl, if_neg (by decide), a, bd_s]
    exact ⟨o, rfl, b⟩
  rw [if_neg c0]
  by_cases c1 : x = 1
  · subst c1
    obtain ⟨o, a, b⟩ := wrl (s := 1) (k := k1) (by decide) (by omega) f1 (f := wk) (fun i hi => hw i hi) when then_ y
    rw [if_pos rfl, if_neg (by decide), a, bd_s]
    exact ⟨o, rfl, b⟩
  rw [if_neg c1]
  by_cases c2 : x = 2
  · subst c2
    obtain ⟨o, a, b⟩ := wrl (s := 2) (k := k1) (by decide) (by omega) h2 (f := tq) (fun i hi => ht i hi) when then_ y
    rw [if_pos rfl, if_neg (by decide), a, bd_s]
    exact ⟨o, rfl, b⟩
  rw [if_neg c2]
  by_cases c3 : x = 3
  · subst c3
    obtain ⟨o, a, b⟩ := wrl (s := 3) (k := k3) (by decide) (by omega) f3 (f := fk) (fun i hi => hf i hi) when then_ y
    rw [if_pos rfl, if_neg (by decide), a, bd_s]
    exact ⟨o, rfl, b⟩
  rw [if_neg c3]
  by_cases c4 : x = 4
  · subst c4
    obtain ⟨o, a, b⟩ := wrl (s := 4) (k := k4) (by decide) (by omega) f4 (f := gk) (fun i hi => hg i hi) when then_ y
    rw [if_pos rfl, if_neg (by decide), a, bd_s]
    exact ⟨o, rfl, b⟩
  rw [if_neg c4]
  have no4 : jn_X8_worlds_31 when then_ said many x y = some 0 := by
    unfold jn_X8_worlds_31
    rcases in_lit x 4 (by decide) with ⟨⟨r, hr, rfl⟩, _⟩ | ⟨_, e⟩
    · rcases (show r = 0 ∨ r = 1 ∨ r = 2 ∨ r = 3 ∨ r = 4 by omega) with rfl | rfl | rfl | rfl | rfl
      · exact absurd rfl c0
      · exact absurd rfl c1
      · exact absurd rfl c2
      · exact absurd rfl c3
      · exact absurd rfl c4
    · rw [show f_X8_in x.toInt64 (0 : Int64) (4 : Int64) = some 0 from e, bd_s, if_pos rfl]
  by_cases c5 : x = 5
  · rw [if_pos c5, if_pos c5]
    rcases in_lit y 1 (by decide) with ⟨⟨r, hr, rfl⟩, e⟩ | ⟨hn, e⟩
    · rw [show f_X8_in (nI r).toInt64 (0 : Int64) (1 : Int64) = some 1 from e, bd_s, if_neg z10]
      rcases (show r = 0 ∨ r = 1 by omega) with rfl | rfl
      · rw [if_pos (show nI 0 = (0 : Int32) from rfl), if_pos (show nI 0 = (0 : Int32) from rfl)]; exact ⟨_, rfl, rfl⟩
      · rw [if_neg (by decide), if_pos (show nI 1 = (1 : Int32) from rfl), if_neg (by decide)]; exact ⟨_, rfl, rfl⟩
    · rw [show f_X8_in y.toInt64 (0 : Int64) (1 : Int64) = some 0 from e, bd_s, if_pos rfl, no4, if_neg (show ¬ y = (0 : Int32) from fun z => hn ⟨0, by decide, z⟩), if_neg (show ¬ y = (1 : Int32) from fun z => hn ⟨1, by decide, z⟩)]
      exact ⟨_, rfl, rfl⟩
  · rw [if_neg c5, if_neg c5, no4]
    exact ⟨_, rfl, rfl⟩
