-- ===== ends =====
theorem bt_nI {n i : Nat} (hi : i < 32) : bt (nI n) i = n.testBit i := by
  show (BitVec.ofNat 32 n).getLsbD i = _
  rw [BitVec.getLsbD_ofNat]; simp [hi]
theorem bt_hi {n k i : Nat} (hn : n < 2 ^ k) (hi : k ≤ i) : bt (nI n) i = false := by
  rcases Nat.lt_or_ge i 32 with h | h
  · rw [bt_nI h]
    exact Nat.testBit_lt_two_pow (Nat.lt_of_lt_of_le hn (Nat.pow_le_pow_right (by decide) hi))
  · exact b_big h
theorem pow_one : ∀ k, k < 9 → (1 : Int32) <<< (nI k &&& 31) = nI (2 ^ k) := by decide +kernel
theorem ushI_nI {i k : Nat} (hi : i < 65536) (hk : k < 32) : ushI (nI i) (nI k) = nI (i >>> k) := nx_ush hi hk
theorem ush_z {i k : Nat} (hi : i < 65536) (hk : k < 32) : (ushI (nI i) (nI k) = (0 : Int32)) ↔ i < 2 ^ k := by
  rw [ushI_nI hi hk, i0, neq (by rw [Nat.shiftRight_eq_div_pow]; exact Nat.lt_of_le_of_lt (Nat.div_le_self _ _) (by omega)) (by decide), Nat.shiftRight_eq_div_pow]
  exact Nat.div_eq_zero_iff_lt (Nat.two_pow_pos k)
theorem crd_rm {x : Int32} {r : Nat} (hr : r < 9) (h : bt x r = true) : crd (x &&& (one r ^^^ (-1))) + 1 = crd x := by
  unfold crd
  have e := fb_ct_upd (fun k => bt x k) false (i := r) (n := 9) hr
  rw [if_pos h, if_neg (by decide)] at e
  rw [← fb_ct_cong (p := fun k => if k = r then false else bt x k) (q := fun k => bt (x &&& (one r ^^^ (-1))) k) (fun k hk => by
    rw [b_and, b_not (by omega), bt_one (by omega)]
    by_cases hkr : k = r
    · simp [hkr]
    · simp [hkr])]
  omega
def swp (w t : Nat → Int64) (r : Nat) (x : Int64 × Int32) : Int64 × Int32 := if bt x.2 r = true ∧ (x.1 &&& (w r ^^^ (-1))) = 0 then (x.1 &&& t r, x.2 &&& (one r ^^^ (-1))) else x
def swM (set : Int32) (w t : Nat → Int64) (r : Nat) (x : Int64 × Int32 × Int32) : Int64 × Int32 × Int32 := if bt set r = true ∧ bt x.2.1 r = false ∧ (x.1 &&& (w r ^^^ (-1))) = 0 then (x.1 &&& t r, x.2.1 ||| one r, 1) else x
theorem tk28 {k : Nat} (hk : k ≤ 8) (w t : Nat → Int64) (a1 : Int32) (a2 : Int64) (K : Int64 → Int32 → Int32 → Option Int64) (rd bef : Int32) (x : Int64 × Int32) : lp_X1_takenOn_28 (nI k) w (nI k) t a1 a2 K rd bef fu x.1 x.2 0 = (if (fo (swp w t) k 0 x).2 = bef then some 0 else K (fo (swp w t) k 0 x).1 (fo (swp w t) k 0 x).2 (rd + 1)) := by
  refine lp_fo0 (fun n (a : Int64 × Int32) i => lp_X1_takenOn_28 (nI k) w (nI k) t a1 a2 K rd bef n a.1 a.2 i) k (swp w t) (fun y => if y.2 = bef then some 0 else K y.1 y.2 (rd + 1)) (by rw [fu_eq]; omega) (fun n a => ?_) (fun n a i hi => ?_) x
  · show lp_X1_takenOn_28 _ _ _ _ _ _ _ _ _ (n + 1) _ _ _ = _
    rw [lp_X1_takenOn_28, size4_eq, bd_s, if_pos (by rw [nle (by omega) (by omega)]; omega)]
    unfold jn_X1_takenOn_95
    rw [lt_y]
  · show lp_X1_takenOn_28 _ _ _ _ _ _ _ _ _ (n + 1) _ _ _ = _
    rw [lp_X1_takenOn_28, size4_eq, bd_s, if_neg (by rw [nle (by omega) (by omega)]; omega), inSet_eq _ (by omega), bd_s]
    unfold swp
    by_cases hb : bt a.2 i = true
    · rw [if_pos hb, if_neg z10, get_eq (by omega) hi, bd_s, allIn_eq, bd_s]
      by_cases hz : (a.1 &&& (w i ^^^ (-1))) = 0
      · rw [if_pos hz, if_neg z10, get_eq (by omega) hi, bd_s, lt_y, lt_y, lt_y, nI_s, if_pos ⟨hb, hz⟩]
        rfl
      · rw [if_neg hz, if_pos rfl, lt_y, nI_s, if_neg (fun h => hz h.2)]
    · rw [if_neg hb, if_pos rfl, lt_y, nI_s, if_neg (fun h => hb h.1)]
theorem lb22 {k : Nat} (hk : k ≤ 8) (said : Nat → Int64) (many : Nat → Int32) (hm : many 1 = nI k) (set : Int32) (K : Int64 → Int32 → Int32 → Option Int64) (x : Int64 × Int32 × Int32) : lp_X8_leftBy_22 said many set K fu x.1 x.2.1 x.2.2 0 = K (fo (swM set (fun i => said (9 + i)) (fun i => said (18 + i))) k 0 x).1 (fo (swM set (fun i => said (9 + i)) (fun i => said (18 + i))) k 0 x).2.1 (fo (swM set (fun i => said (9 + i)) (fun i => said (18 + i))) k 0 x).2.2 := by
  refine lp_fo0 (fun n (a : Int64 × Int32 × Int32) i => lp_X8_leftBy_22 said many set K n a.1 a.2.1 a.2.2 i) k (swM set (fun i => said (9 + i)) (fun i => said (18 + i))) (fun y => K y.1 y.2.1 y.2.2) (by rw [fu_eq]; omega) (fun n a => ?_) (fun n a i hi => ?_) x
  · show lp_X8_leftBy_22 _ _ _ _ (n + 1) _ _ _ _ = _
    rw [lp_X8_leftBy_22, gd1, m1c, hm, if_pos (by rw [nle (by omega) (by omega)]; omega)]
  · show lp_X8_leftBy_22 _ _ _ _ (n + 1) _ _ _ _ = _
    rw [lp_X8_leftBy_22, gd1, m1c, hm, if_neg (by rw [nle (by omega) (by omega)]; omega)]
    unfold swM
    by_cases hb : bt set i = true
    · rw [if_pos ((sr1 set (by omega)).mpr hb)]
      by_cases hc : bt a.2.1 i = false
      · rw [if_pos ((sr0 a.2.1 (by omega)).mpr hc), ad9, gdi (by omega) (by decide), clp (by omega)]
        by_cases hz : (a.1 &&& (said (9 + i) ^^^ (-1))) = 0
        · rw [if_pos hz, lt_y, ad18, gdi (by omega) (by decide), clp (by omega), lt_y, lt_y, nI_s, if_pos ⟨hb, hc, hz⟩]
          rfl
        · rw [if_neg hz, lt_y, nI_s, if_neg (fun h => hz h.2.2)]
      · rw [if_neg (fun z => hc ((sr0 a.2.1 (by omega)).mp z)), lt_y, nI_s, if_neg (fun h => hc h.2.1)]
    · rw [if_neg (fun z => hb ((sr1 set (by omega)).mp z)), lt_y, nI_s, if_neg (fun h => hb h.1)]
theorem sw_rel {k : Nat} (hk : k ≤ 8) {w t w' t' : Nat → Int64} (hw : ∀ i, i < k → w i = w' i) (ht : ∀ i, i < k → t i = t' i) {set : Int32} (left : Int64) (wait taken : Int32)
    (h1 : ∀ i, bt wait i = (bt set i && !bt taken i)) (h2 : ∀ i, bt taken i = true → bt set i = true) :
    (fo (swp w t) k 0 (left, wait)).1 = (fo (swM set w' t') k 0 (left, taken, 0)).1 ∧ (∀ i, bt (fo (swp w t) k 0 (left, wait)).2 i = (bt set i && !bt (fo (swM set w' t') k 0 (left, taken, 0)).2.1 i)) ∧ (∀ i, bt (fo (swM set w' t') k 0 (left, taken, 0)).2.1 i = true → bt set i = true) ∧
    (((fo (swM set w' t') k 0 (left, taken, 0)).2.2 = 0 ∧ (fo (swp w t) k 0 (left, wait)) = (left, wait) ∧ (fo (swM set w' t') k 0 (left, taken, 0)).2.1 = taken) ∨ ((fo (swM set w' t') k 0 (left, taken, 0)).2.2 = 1 ∧ crd (fo (swp w t) k 0 (left, wait)).2 < crd wait)) := by
  refine fo_rel (swp w t) (swM set w' t') (fun _ x y => x.1 = y.1 ∧ (∀ i, bt x.2 i = (bt set i && !bt y.2.1 i)) ∧ (∀ i, bt y.2.1 i = true → bt set i = true) ∧ ((y.2.2 = 0 ∧ x = (left, wait) ∧ y.2.1 = taken) ∨ (y.2.2 = 1 ∧ crd x.2 < crd wait))) k 0 (left, wait) (left, taken, 0) ⟨rfl, h1, h2, Or.inl ⟨rfl, rfl, rfl⟩⟩ (fun j x y _ hj hI => ?_)
  have hj : j < k := by omega
  obtain ⟨x1, x2⟩ := x
  obtain ⟨y1, y2, y3⟩ := y
  obtain ⟨g1, g2, g3, g4⟩ := hI
  have g1 : x1 = y1 := g1
  subst g1
  have g2 : ∀ i, bt x2 i = (bt set i && !bt y2 i) := g2
  have g3 : ∀ i, bt y2 i = true → bt set i = true := g3
  have g4 : (y3 = 0 ∧ (x1, x2) = (left, wait) ∧ y2 = taken) ∨ (y3 = 1 ∧ crd x2 < crd wait) := g4
  unfold swp swM
  by_cases hc : bt x2 j = true ∧ (x1 &&& (w j ^^^ (-1))) = 0
  · have hb : bt set j = true ∧ bt y2 j = false := by
      have := hc.1
      rw [g2 j, Bool.and_eq_true, Bool.not_eq_true'] at this
      exact this
    rw [if_pos (show bt (x1, x2).2 j = true ∧ ((x1, x2).1 &&& (w j ^^^ (-1))) = 0 from hc), if_pos (show bt set j = true ∧ bt (x1, y2, y3).2.1 j = false ∧ ((x1, y2, y3).1 &&& (w' j ^^^ (-1))) = 0 from ⟨hb.1, hb.2, by rw [← hw j hj]; exact hc.2⟩)]
    refine ⟨by show x1 &&& t j = x1 &&& t' j; rw [ht j hj], fun i => ?_, fun i hi => ?_, Or.inr ⟨rfl, ?_⟩⟩
    · show bt (x2 &&& (one j ^^^ (-1))) i = (bt set i && !bt (y2 ||| one j) i)
      rcases Nat.lt_or_ge i 32 with h | h
      · rw [b_and, b_not h, b_or, bt_one (by omega), g2 i]
        by_cases e : i = j
        · simp [e]
        · simp [e]
      · rw [b_big h, b_big h]; rfl
    · have hi : bt (y2 ||| one j) i = true := hi
      rw [b_or, bt_one (by omega), Bool.or_eq_true] at hi
      rcases hi with hi | hi
      · exact g3 i hi
      · have : i = j := of_decide_eq_true hi
        subst this; exact hb.1
    · have e := crd_rm (x := x2) (r := j) (by omega) hc.1
      show crd (x2 &&& (one j ^^^ (-1))) < crd wait
      rcases g4 with ⟨-, g5, -⟩ | ⟨-, g5⟩
      · have : x2 = wait := (Prod.mk.inj g5).2
        rw [← this]; omega
      · omega
  · rw [if_neg (show ¬ (bt (x1, x2).2 j = true ∧ ((x1, x2).1 &&& (w j ^^^ (-1))) = 0) from hc), if_neg (show ¬ (bt set j = true ∧ bt (x1, y2, y3).2.1 j = false ∧ ((x1, y2, y3).1 &&& (w' j ^^^ (-1))) = 0) from fun h => hc ⟨by rw [g2 j, h.1, h.2.1]; rfl, by rw [hw j hj]; exact h.2.2⟩)]
    exact ⟨rfl, g2, g3, g4⟩
theorem tk_sim {k : Nat} (hk : k ≤ 8) {w t : Nat → Int64} {said : Nat → Int64} {many : Nat → Int32} (hm : many 1 = nI k) (hw : ∀ i, i < k → w i = said (9 + i)) (ht : ∀ i, i < k → t i = said (18 + i)) {set : Int32} (hs : ∀ i, k ≤ i → bt set i = false) (a2 : Int64) :
    ∀ (c g n m : Nat) (left : Int64) (wait taken : Int32), g + c = 8 → c < n → c + 1 < m → (∀ i, bt wait i = (bt set i && !bt taken i)) → (∀ i, bt taken i = true → bt set i = true) → crd wait ≤ c →
      ∃ v : Int64, lp_X1_takenOn_9 (nI k) w (nI k) t set a2 n left wait (nI g) = some v ∧ lp_X8_leftBy_11 said many set m left taken 1 = some v := by
  have w0 : ∀ {wait taken : Int32}, (∀ i, bt wait i = (bt set i && !bt taken i)) → (∀ i, bt taken i = true → bt set i = true) → (wait = 0 ↔ taken = set) := by
    intro wait taken h1 h2
    constructor
    · intro h
      apply b_ext
      intro i _
      have := h1 i
      rw [h, b_0] at this
      cases ht : bt taken i
      · cases hs : bt set i
        · rfl
        · rw [ht, hs] at this; cases this
      · exact (h2 i ht).symm
    · intro h
      apply b_ext
      intro i _
      rw [h1 i, h, b_0]
      cases bt set i <;> rfl
  -- nothing waits: one idle sweep of the reference
  have idle : ∀ (m : Nat) (left : Int64) (wait taken : Int32), 1 < m → (∀ i, bt wait i = (bt set i && !bt taken i)) → (∀ i, bt taken i = true → bt set i = true) → wait = 0 → lp_X8_leftBy_11 said many set m left taken 1 = some left := by
    intro m left wait taken hm2 h1 h2 h0
    obtain ⟨m, rfl⟩ : ∃ q, m = q + 2 := ⟨m - 2, by omega⟩
    obtain ⟨r1, r2, r3, r4⟩ := sw_rel hk hw ht left wait taken h1 h2
    rw [lp_X8_leftBy_11, if_neg z10]
    refine (lb22 hk said many hm set _ (left, taken, 0)).trans ?_
    rcases r4 with ⟨f1, f2, f3⟩ | ⟨f1, f2⟩
    · rw [f1, f3, ← r1, f2]
      show lp_X8_leftBy_11 said many set (m + 1) left taken 0 = _
      rw [lp_X8_leftBy_11, if_pos rfl]
      unfold jn_X8_leftBy_108
      rw [if_pos ((w0 h1 h2).mp h0)]
    · rw [h0] at f2
      exact absurd f2 (by have : crd (0 : Int32) = 0 := by decide
                          omega)
  intro c
  induction c with
  | zero =>
    intro g n m left wait taken h hn hm2 h1 h2 hc
    obtain ⟨n, rfl⟩ : ∃ q, n = q + 1 := ⟨n - 1, by omega⟩
    have h0 : wait = 0 := by
      rcases Nat.eq_zero_or_pos (crd wait) with hz | hz
      · apply b_ext
        intro i _
        rw [b_0]
        rcases Nat.lt_or_ge i 9 with q | q
        · exact (fb_ct_zero.mp hz) i q
        · rw [h1 i, hs i (by omega)]; rfl
      · omega
    refine ⟨left, ?_, idle m left wait taken (by omega) h1 h2 h0⟩
    have : g = 8 := by omega
    subst this
    rw [lp_X1_takenOn_9, if_pos (by rw [i8, nle (by decide) (by decide)]; omega)]
  | succ c ih =>
    intro g n m left wait taken h hn hm2 h1 h2 hc
    obtain ⟨n, rfl⟩ : ∃ q, n = q + 1 := ⟨n - 1, by omega⟩
    rw [lp_X1_takenOn_9, if_neg (by rw [i8, nle (by decide) (by omega)]; omega)]
    by_cases h0 : wait = 0
    · rw [if_pos h0]
      exact ⟨left, rfl, idle m left wait taken (by omega) h1 h2 h0⟩
    · rw [if_neg h0]
      obtain ⟨m, rfl⟩ : ∃ q, m = q + 1 := ⟨m - 1, by omega⟩
      have e1 := tk28 hk w t set a2 (fun v4 v6 v7 => lp_X1_takenOn_9 (nI k) w (nI k) t set a2 n v4 v6 v7) (nI g) wait (left, wait)
      have e2 := lb22 hk said many hm set (fun v2 v4 v5 => lp_X8_leftBy_11 said many set m v2 v4 v5) (left, taken, 0)
      obtain ⟨r1, r2, r3, r4⟩ := sw_rel hk hw ht left wait taken h1 h2
      rw [lp_X8_leftBy_11, if_neg z10]
      rcases r4 with ⟨f1, f2, f3⟩ | ⟨f1, f2⟩
      · refine ⟨0, e1.trans ?_, e2.trans ?_⟩
        · rw [f2, if_pos rfl]
        · rw [f1, f3]
          show lp_X8_leftBy_11 said many set m _ taken 0 = _
          obtain ⟨m, rfl⟩ : ∃ q, m = q + 1 := ⟨m - 1, by omega⟩
          rw [lp_X8_leftBy_11, if_pos rfl]
          unfold jn_X8_leftBy_108
          rw [if_neg (fun z => h0 ((w0 h1 h2).mpr z))]
      · obtain ⟨v, g1, g2⟩ := ih (g + 1) n m (fo (swp w t) k 0 (left, wait)).1 (fo (swp w t) k 0 (left, wait)).2 (fo (swM set (fun i => said (9 + i)) (fun i => said (18 + i))) k 0 (left, taken, 0)).2.1 (by omega) (by omega) (by omega) r2 r3 (by omega)
        refine ⟨v, e1.trans ?_, e2.trans ?_⟩
        · rw [if_neg (fun z => by rw [z] at f2; omega), nI_s]
          exact g1
        · rw [f1, ← r1]
          exact g2
theorem takenOn_eq {k : Nat} (hk : k ≤ 8) {w t : Nat → Int64} {said : Nat → Int64} {many : Nat → Int32} (hm : many 1 = nI k) (hw : ∀ i, i < k → w i = said (9 + i)) (ht : ∀ i, i < k → t i = said (18 + i)) {s : Nat} (hs : s < 2 ^ k) {gd_ : Int64} (hg : f_X8_groundNow said many = some gd_) :
    ∃ v : Int64, f_X1_takenOn (nI k) w (nI k) t (nI s) gd_ = some v ∧ f_X8_leftBy said many (nI s) = some v := by
  unfold f_X1_takenOn f_X8_leftBy
  rw [hg, bd_s]
  have hc : crd (nI s) ≤ 8 := by
    unfold crd
    rw [fb_ct_succ, show bt (nI s) 8 = false from bt_hi hs (by omega)]
    have := fb_ct_le (fun r => bt (nI s) r) 8
    simp only [Bool.false_eq_true, if_false]
    omega
  exact tk_sim hk hm hw ht (fun i hi => bt_hi hs hi) gd_ 8 0 fu fu gd_ (nI s) 0 (by decide) (by decide) (by decide) (fun i => by rw [b_0]; cases bt (nI s) i <;> rfl) (fun i h => by rw [b_0] at h; cases h) hc
