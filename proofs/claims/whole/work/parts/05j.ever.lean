-- ===== one rule more =====
theorem add_eq {M i : Nat} (hM : M ≤ 9) (hi : i < M) (f : Nat → Int64) (x : Int64) : f_X5_add (nI M) (nI i) f x = some (nI (i + 1), vp_updL f i x) := by
  unfold f_X5_add
  rw [if_neg (by rw [nle (by omega) (by omega)]; omega), if_neg (by rw [i9, nle (by decide) (by omega)]; omega), gdi (by omega) (by decide), lt_y, nI_s, clp (by omega)]
theorem add4_eq {M i : Nat} (hM : M ≤ 9) (hi : i < M) (f g : Nat → Int64) (x y : Int64) : f_X4_add (nI M) (nI i) f (nI M) (nI i) g x y = some (nI (i + 1), vp_updL f i x, nI (i + 1), vp_updL g i y) := by
  unfold f_X4_add
  rw [add_eq hM hi, bd_s, add_eq hM hi, bd_s]
theorem copy_eq {k : Nat} (hk : k ≤ 8) (s1 s2 : Int32) (f g w t : Nat → Int64) : ∃ f' g' : Nat → Int64, f_X4_copy 9 s1 f 9 s2 g (nI k) w (nI k) t = some (nI k, f', nI k, g') ∧ ∀ j, j < k → f' j = w j ∧ g' j = t j := by
  unfold f_X4_copy
  show ∃ f' g' : Nat → Int64, lp_X4_copy_6 9 9 (nI k) w (nI k) t fu 0 f 0 g 0 = some (nI k, f', nI k, g') ∧ _
  have e := lp_fo (fun n (a : Int32 × (Nat → Int64) × Int32 × (Nat → Int64)) i => lp_X4_copy_6 9 9 (nI k) w (nI k) t n a.1 a.2.1 a.2.2.1 a.2.2.2 i) k
    (fun i a => (nI (i + 1), vp_updL a.2.1 i (w i), nI (i + 1), vp_updL a.2.2.2 i (t i))) (fun a => some a) (fun i a => a.1 = nI i ∧ a.2.2.1 = nI i ∧ ∀ j, j < i → a.2.1 j = w j ∧ a.2.2.2 j = t j)
    (fun n a hI => ?_) (fun n a i hi hI => ?_) k 0 (0, f, 0, g) fu (by omega) (by rw [fu_eq]; omega) ⟨rfl, rfl, fun j hj => absurd hj (Nat.not_lt_zero j)⟩
  · obtain ⟨e1, h1, h2, h3⟩ := e
    refine ⟨_, _, e1.trans ?_, h3⟩
    rw [← h1]
    congr 1
    refine Prod.ext rfl (Prod.ext rfl (Prod.ext ?_ rfl))
    show _ = _
    rw [h2, h1]
  · show lp_X4_copy_6 _ _ _ _ _ _ (n + 1) _ _ _ _ _ = _
    rw [lp_X4_copy_6, size4_eq, bd_s, if_pos (by rw [nle (by omega) (by omega)]; omega)]
  · obtain ⟨h1, h2, h3⟩ := hI
    show lp_X4_copy_6 _ _ _ _ _ _ (n + 1) _ _ _ _ _ = _ ∧ _
    rw [lp_X4_copy_6, size4_eq, bd_s, if_neg (by rw [nle (by omega) (by omega)]; omega), get_eq (by omega) hi, bd_s, get_eq (by omega) hi, bd_s, h1, h2, i9, add4_eq (by decide) (by omega), bd_s, lt_y, nI_s]
    refine ⟨rfl, rfl, rfl, fun j hj => ?_⟩
    show vp_updL a.2.1 i (w i) j = _ ∧ vp_updL a.2.2.2 i (t i) j = _
    by_cases hji : j = i
    · subst hji; rw [pk_uLs, pk_uLs]; exact ⟨rfl, rfl⟩
    · rw [pk_uLn hji, pk_uLn hji]; exact h3 j (by omega)
theorem isEver_eq {k : Nat} (hk : k ≤ 8) (when then_ th : Int64) (w t : Nat → Int64) (tq s1 s2 : Int32) (f g : Nat → Int64) (tg : Nat → Int32) : ∃ (q : Int32) (ws : Int32) (wk : Nat → Int64) (ts : Int32) (tk : Nat → Int64) (gr : Nat → Int32), f_X7_isEver when then_ th (nI k) w (nI k) t tq 9 s1 f 9 s2 g tg = some (if QU th (vp_updL w k when) (vp_updL t k (then_ ^^^ (-1))) (k + 1) = 0 then 0 else 1, q, ws, wk, ts, tk, gr) := by
  unfold f_X7_isEver
  obtain ⟨f', g', e, hfg⟩ := copy_eq hk s1 s2 f g w t
  rw [e, bd_s]
  show ∃ (q : Int32) (ws : Int32) (wk : Nat → Int64) (ts : Int32) (tk : Nat → Int64) (gr : Nat → Int32), bd (f_X4_add 9 (nI k) f' 9 (nI k) g' when (then_ ^^^ (-1))) _ = _
  rw [i9, add4_eq (by decide) (by omega), bd_s]
  show ∃ (q : Int32) (ws : Int32) (wk : Nat → Int64) (ts : Int32) (tk : Nat → Int64) (gr : Nat → Int32), bd (f_X4_sort tq (nI (k + 1)) (vp_updL f' k when) (nI (k + 1)) (vp_updL g' k (then_ ^^^ (-1))) tg th) _ = _
  rw [sort_eq (by omega), bd_s, (run_grades (by omega) tg).1]
  have hq : QU th (vp_updL f' k when) (vp_updL g' k (then_ ^^^ (-1))) (k + 1) = QU th (vp_updL w k when) (vp_updL t k (then_ ^^^ (-1))) (k + 1) := QU_congr (fun i hi => by
    by_cases h : i = k
    · subst h; rw [pk_uLs, pk_uLs]
    · rw [pk_uLn h, pk_uLn h]; exact (hfg i (by omega)).1) (fun i hi => by
    by_cases h : i = k
    · subst h; rw [pk_uLs, pk_uLs]
    · rw [pk_uLn h, pk_uLn h]; exact (hfg i (by omega)).2) th
  rw [hq]
  unfold f_X4_quarrel
  rw [gd_y zb_ite, bd_s, gd_y zb_ite]
  exact ⟨_, _, _, _, _, _, rfl⟩
theorem mever_eq {k k0 : Nat} (hk : k ≤ 8) (hk0 : k0 ≤ 4) (when then_ : Int64) (q : Int32) (said : Nat → Int64) (many gr : Nat → Int32) (hm0 : many 0 = nI k0) (hm : many 1 = nI k) :
    ∃ gr' : Nat → Int32, f_X8_ever when then_ q said many gr = some (if QU (meet said k0) (vp_updL (fun i => said (9 + i)) k when) (vp_updL (fun i => said (18 + i)) k (then_ ^^^ (-1))) (k + 1) = 0 then 0 else 1, if QU (meet said k0) (fun i => said (9 + i)) (fun i => said (18 + i)) k = 0 then 0 else 1, vp_updL (vp_updL said (9 + k) when) (18 + k) (then_ ^^^ (-1)), gr') ∧ ∀ r, r < k → gr' r = GR (meet said k0) (fun i => said (9 + i)) (fun i => said (18 + i)) k r := by
  have hme : meet (vp_updL (vp_updL said (9 + k) when) (18 + k) (then_ ^^^ (-1))) k0 = meet said k0 := meet_congr (fun i hi => by rw [pk_uLn (by omega), pk_uLn (by omega)])
  have hw : ∀ i, i < k → vp_updL (vp_updL said (9 + k) when) (18 + k) (then_ ^^^ (-1)) (9 + i) = said (9 + i) := fun i hi => by rw [pk_uLn (by omega), pk_uLn (by omega)]
  have ht : ∀ i, i < k → vp_updL (vp_updL said (9 + k) when) (18 + k) (then_ ^^^ (-1)) (18 + i) = said (18 + i) := fun i hi => by rw [pk_uLn (by omega), pk_uLn (by omega)]
  have hw2 : ∀ i, i < k + 1 → vp_updL (vp_updL said (9 + k) when) (18 + k) (then_ ^^^ (-1)) (9 + i) = vp_updL (fun i => said (9 + i)) k when i := fun i hi => by
    rw [pk_uLn (by omega)]
    by_cases h : i = k
    · subst h; rw [pk_uLs, pk_uLs]
    · rw [pk_uLn (by omega), pk_uLn h]
  have ht2 : ∀ i, i < k + 1 → vp_updL (vp_updL said (9 + k) when) (18 + k) (then_ ^^^ (-1)) (18 + i) = vp_updL (fun i => said (18 + i)) k (then_ ^^^ (-1)) i := fun i hi => by
    by_cases h : i = k
    · subst h; rw [pk_uLs, pk_uLs]
    · rw [pk_uLn (by omega), pk_uLn (by omega), pk_uLn h]
  obtain ⟨g1, e1, -⟩ := mgrades_eq (n := k + 1) (k0 := k0) (by omega) (by omega) (vp_updL (vp_updL said (9 + k) when) (18 + k) (then_ ^^^ (-1))) many hm0 gr
  obtain ⟨g2, e2, h2⟩ := mrates_eq (n := k) (k0 := k0) (by omega) (by omega) q (vp_updL (vp_updL said (9 + k) when) (18 + k) (then_ ^^^ (-1))) many hm0 hm g1
  rw [hme, QU_congr hw2 ht2] at e1
  rw [hme, QU_congr hw ht] at e2
  refine ⟨g2, ?_, fun r hr => ?_⟩
  · unfold f_X8_ever
    rw [gd1, m1c, hm, lt_y, ad9, ad18, gdi (by omega) (by decide), gdi (by omega) (by decide), clp (by omega), clp (by omega), nI_s, e1, bd_s, e2, bd_s, gd_y zb_ite]
  · rw [h2 r hr, hme, GR_congr hw ht]
