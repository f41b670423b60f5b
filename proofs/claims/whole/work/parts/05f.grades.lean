-- ===== grades =====
def calm (th : Int64) (w t : Nat → Int64) (k : Nat) (set : Int32) : Int64 := fo (fun r c => if bt set r = true then c &&& (brk w t r ^^^ (-1)) else c) k 0 th
def brn (th : Int64) (w t : Nat → Int64) (k : Nat) (set : Int32) : Int32 := setOf (fun r => bt set r && !decide ((calm th w t k set &&& w r) &&& t r = 0)) k
def stp (gr : Nat → Int32) (set g : Int32) : Nat → Int32 := fun j => if j < 9 ∧ bt set j = true then g else gr j
def mask (k : Nat) : Int32 := ((1 : Int32) <<< (nI k &&& 31)) - 1
def rnd (th : Int64) (w t : Nat → Int64) (k : Nat) (g : Nat) (s : Int32 × (Nat → Int32)) : Int32 × (Nat → Int32) := (s.1 &&& (brn th w t k s.1 ^^^ (-1)), stp s.2 (brn th w t k s.1) (nI g))
def run (th : Int64) (w t : Nat → Int64) (k : Nat) (gr : Nat → Int32) : Int32 × (Nat → Int32) := fo (rnd th w t k) 9 0 (mask k, gr)
theorem bt_mask : ∀ k, k < 10 → ∀ i, i < 32 → bt (mask k) i = decide (i < k) := by decide +kernel
theorem bt_mask' {k : Nat} (hk : k < 10) (i : Nat) : bt (mask k) i = decide (i < k) := by
  rcases Nat.lt_or_ge i 32 with h | h
  · exact bt_mask k hk i h
  · rw [b_big h, decide_eq_false (by omega)]
theorem b_not {x : Int32} {i : Nat} (h : i < 32) : bt (x ^^^ (-1)) i = !bt x i := by
  rw [b_xor, b_m1 i h]; cases bt x i <;> rfl
theorem inSet_z {x : Int32} {r : Nat} (hr : r < 32) : ∃ o : Int32, f_X7_inSet x (nI r) = some o ∧ ((o = 0) ↔ ¬ bt x r = true) := by
  refine ⟨_, inSet_eq x hr, ?_⟩
  by_cases h : bt x r = true
  · rw [if_pos h]; simp [h]
  · rw [if_neg h]; simp [h]
theorem borne51_eq {k : Nat} (hk : k ≤ 9) (w t : Nat → Int64) (set : Int32) (th c : Int64) : lp_X4_borneBy_51 (nI k) w (nI k) t set th c fu 0 0 = some (setOf (fun r => bt set r && !decide ((c &&& w r) &&& t r = 0)) k) := by
  unfold setOf
  refine lp_fo0 (fun n a i => lp_X4_borneBy_51 (nI k) w (nI k) t set th c n a i) k _ some (by rw [fu_eq]; omega) (fun n a => ?_) (fun n a i hi => ?_) 0
  · show lp_X4_borneBy_51 _ _ _ _ _ _ _ (n + 1) _ _ = _
    rw [lp_X4_borneBy_51, size4_eq, bd_s, if_pos (by rw [nle (by omega) (by omega)]; omega)]
  · show lp_X4_borneBy_51 _ _ _ _ _ _ _ (n + 1) _ _ = _
    rw [lp_X4_borneBy_51, size4_eq, bd_s, if_neg (by rw [nle (by omega) (by omega)]; omega), inSet_eq _ (by omega), bd_s]
    by_cases hb : bt set i = true
    · rw [if_pos hb, if_neg z10, get_eq hk hi, bd_s, get_eq hk hi, bd_s]
      by_cases hz : ((c &&& w i) &&& t i) = 0
      · rw [if_pos hz, lt_y, nI_s, if_neg (by simp [hz])]
      · rw [if_neg hz, lt_y, lt_y, nI_s, if_pos (by simp [hb, hz])]; rfl
    · rw [if_neg hb, if_pos rfl, lt_y, nI_s, if_neg (by simp [hb])]
theorem borneBy_eq {k : Nat} (hk : k ≤ 9) (w t : Nat → Int64) (set : Int32) (th : Int64) : f_X4_borneBy (nI k) w (nI k) t set th = some (brn th w t k set) := by
  unfold f_X4_borneBy brn calm
  rw [← borne51_eq hk w t set th]
  refine lp_fo0 (fun n a i => lp_X4_borneBy_6 (nI k) w (nI k) t set th n a i) k (fun r c => if bt set r = true then c &&& (brk w t r ^^^ (-1)) else c) (fun c => lp_X4_borneBy_51 (nI k) w (nI k) t set th c fu 0 0) (by rw [fu_eq]; omega) (fun n a => ?_) (fun n a i hi => ?_) th
  · show lp_X4_borneBy_6 _ _ _ _ _ _ (n + 1) _ _ = _
    rw [lp_X4_borneBy_6, size4_eq, bd_s, if_pos (by rw [nle (by omega) (by omega)]; omega)]
  · show lp_X4_borneBy_6 _ _ _ _ _ _ (n + 1) _ _ = _
    rw [lp_X4_borneBy_6, size4_eq, bd_s, if_neg (by rw [nle (by omega) (by omega)]; omega), inSet_eq _ (by omega), bd_s]
    by_cases hb : bt set i = true
    · rw [if_pos hb, if_neg z10, breaking_eq hk hi, bd_s, lt_y, lt_y, nI_s, if_pos hb]
    · rw [if_neg hb, if_pos rfl, lt_y, nI_s, if_neg hb]
theorem stp_fo (gr : Nat → Int32) (set g : Int32) : ∀ c, fo (fun r (gr : Nat → Int32) => if bt set r = true then upd gr r g else gr) c 0 gr = fun j => if j < c ∧ bt set j = true then g else gr j
  | 0 => by
    show gr = _
    funext j; rw [if_neg (fun h => absurd h.1 (Nat.not_lt_zero j))]
  | c + 1 => by
    rw [fo_last, stp_fo gr set g c, Nat.zero_add]
    funext j
    by_cases hb : bt set c = true
    · rw [if_pos hb]
      by_cases e : j = c
      · subst e; rw [pk_us, if_pos ⟨by omega, hb⟩]
      · rw [pk_un e]
        by_cases h2 : j < c ∧ bt set j = true
        · rw [if_pos h2, if_pos ⟨by omega, h2.2⟩]
        · rw [if_neg h2, if_neg (fun h => h2 ⟨by omega, h.2⟩)]
    · rw [if_neg hb]
      by_cases h2 : j < c ∧ bt set j = true
      · rw [if_pos h2, if_pos ⟨by omega, h2.2⟩]
      · rw [if_neg h2, if_neg (fun h => by
          by_cases e : j = c
          · subst e; exact hb h.2
          · exact h2 ⟨by omega, h.2⟩)]
theorem stamp_eq (gr : Nat → Int32) (set g : Int32) : f_X4_stamp gr set g = some (stp gr set g) := by
  unfold f_X4_stamp stp
  rw [← stp_fo gr set g 9]
  refine lp_fo0 (fun n a i => lp_X4_stamp_2 set g n a i) 9 (fun r (gr : Nat → Int32) => if bt set r = true then upd gr r g else gr) some (by decide) (fun n a => ?_) (fun n a i hi => ?_) gr
  · show lp_X4_stamp_2 _ _ (n + 1) _ _ = _
    rw [lp_X4_stamp_2, if_pos (by rw [i9, nle (by decide) (by decide)]; omega)]
  · show lp_X4_stamp_2 _ _ (n + 1) _ _ = _
    rw [lp_X4_stamp_2, if_neg (by rw [i9, nle (by decide) (by omega)]; omega), inSet_eq _ (by omega), bd_s]
    by_cases hb : bt set i = true
    · rw [if_pos hb, if_neg z10, gdi (by omega) (by decide), lt_y, nI_s, clp (by omega), if_pos hb]
    · rw [if_neg hb, if_pos rfl, lt_y, nI_s, if_neg hb]
theorem brn_sub {th : Int64} {w t : Nat → Int64} {k : Nat} (hk : k ≤ 9) {set : Int32} {i : Nat} (h : bt (brn th w t k set) i = true) : i < k ∧ bt set i = true := by
  unfold brn at h
  rw [bt_setOf _ (by omega)] at h
  simp only [Bool.and_eq_true, decide_eq_true_eq] at h
  exact ⟨h.1, h.2.1⟩
theorem brn_0 {th : Int64} {w t : Nat → Int64} {k : Nat} (hk : k ≤ 9) : brn th w t k 0 = 0 := by
  apply b_ext
  intro i _
  rw [b_0]
  cases h : bt (brn th w t k 0) i
  · rfl
  · have := (brn_sub hk h).2
    rw [b_0] at this; cases this
theorem and_not0 (x : Int32) : x &&& ((0 : Int32) ^^^ (-1)) = x := by
  apply b_ext; intro i hi; rw [b_and, b_not hi, b_0]; cases bt x i <;> rfl
theorem stp_0 (gr : Nat → Int32) (g : Int32) : stp gr 0 g = gr := by
  funext j; unfold stp; rw [if_neg (fun h => by rw [b_0] at h; cases h.2)]
theorem rnd_fix {th : Int64} {w t : Nat → Int64} {k : Nat} {l : Int32} (h : brn th w t k l = 0) (g : Nat) (gr : Nat → Int32) : rnd th w t k g (l, gr) = (l, gr) := by
  unfold rnd
  show (l &&& (brn th w t k l ^^^ (-1)), stp gr (brn th w t k l) (nI g)) = _
  rw [h, and_not0, stp_0]
theorem fo_fix {th : Int64} {w t : Nat → Int64} {k : Nat} {l : Int32} (h : brn th w t k l = 0) (gr : Nat → Int32) : ∀ c g, fo (rnd th w t k) c g (l, gr) = (l, gr)
  | 0, _ => rfl
  | c + 1, g => by
    show fo (rnd th w t k) c (g + 1) (rnd th w t k g (l, gr)) = _
    rw [rnd_fix h, fo_fix h gr c (g + 1)]
theorem sortlp {k : Nat} (hk : k ≤ 9) (w t : Nat → Int64) (th : Int64) (q : Int32) : ∀ (c g n : Nat) (l : Int32) (gr : Nat → Int32), g + c = 9 → c < n → lp_X4_sort_12 (nI k) w (nI k) t th q n gr l (nI g) = (let s := fo (rnd th w t k) c g (l, gr); some (if s.1 = 0 then 0 else 1, stp s.2 s.1 (-9)))
  | 0, g, n, l, gr, h, hn => by
    obtain ⟨n, rfl⟩ : ∃ m, n = m + 1 := ⟨n - 1, by omega⟩
    have : g = 9 := by omega
    subst this
    rw [lp_X4_sort_12, if_pos (by rw [i9, nle (by decide) (by decide)]; omega)]
    unfold jn_X4_sort_55
    rw [stamp_eq, bd_s]
    show _ = some (if l = 0 then 0 else 1, stp gr l (-9))
    by_cases h0 : l = 0
    · rw [if_pos h0, if_pos h0]
    · rw [if_neg h0, if_neg h0]
  | c + 1, g, n, l, gr, h, hn => by
    obtain ⟨n, rfl⟩ : ∃ m, n = m + 1 := ⟨n - 1, by omega⟩
    rw [lp_X4_sort_12, if_neg (by rw [i9, nle (by decide) (by omega)]; omega)]
    by_cases h0 : l = 0
    · subst h0
      rw [if_pos rfl, fo_fix (brn_0 hk)]
      unfold jn_X4_sort_55
      rw [stamp_eq, bd_s, if_pos rfl]
      rfl
    · rw [if_neg h0, borneBy_eq hk, bd_s, stamp_eq, bd_s, lt_y, lt_y, nI_s]
      exact sortlp hk w t th q c (g + 1) n _ _ (by omega) (by omega)
theorem sort_eq {k : Nat} (hk : k ≤ 9) (w t : Nat → Int64) (th : Int64) (q : Int32) (gr : Nat → Int32) : f_X4_sort q (nI k) w (nI k) t gr th = some (if (run th w t k gr).1 = 0 then 0 else 1, stp (run th w t k gr).2 (run th w t k gr).1 (-9)) := by
  unfold f_X4_sort
  rw [size4_eq, bd_s, lt_y]
  exact sortlp hk w t th q 9 0 fu (mask k) gr (by decide) (by decide)
-- what the rules' grades are
def GR (th : Int64) (w t : Nat → Int64) (k : Nat) : Nat → Int32 := (run th w t k (fun _ => -9)).2
def QU (th : Int64) (w t : Nat → Int64) (k : Nat) : Int32 := (run th w t k (fun _ => -9)).1
theorem run_agree {th : Int64} {w t : Nat → Int64} {k : Nat} (a b : Nat → Int32) (h : ∀ r, r < k → a r = b r) : (run th w t k a).1 = (run th w t k b).1 ∧ ∀ r, r < k → (run th w t k a).2 r = (run th w t k b).2 r := by
  unfold run
  refine fo_rel (rnd th w t k) (rnd th w t k) (fun _ x y => x.1 = y.1 ∧ ∀ r, r < k → x.2 r = y.2 r) 9 0 (mask k, a) (mask k, b) ⟨rfl, h⟩ (fun j x y _ _ hI => ?_)
  unfold rnd
  refine ⟨by rw [hI.1], fun r hr => ?_⟩
  show stp x.2 _ _ r = stp y.2 _ _ r
  unfold stp
  rw [hI.1, hI.2 r hr]
theorem run_grades {th : Int64} {w t : Nat → Int64} {k : Nat} (hk : k ≤ 9) (gr : Nat → Int32) : (run th w t k gr).1 = QU th w t k ∧ ∀ r, r < k → stp (run th w t k gr).2 (run th w t k gr).1 (-9) r = GR th w t k r := by
  have key := fo_rel (rnd th w t k) (rnd th w t k) (fun _ x y => x.1 = y.1 ∧ (∀ r, r < k → bt x.1 r = false → x.2 r = y.2 r) ∧ ∀ r, r < k → bt x.1 r = true → y.2 r = -9) 9 0 (mask k, gr) (mask k, fun _ => -9) ⟨rfl, fun r hr h => by rw [bt_mask' (by omega)] at h; simp at h; omega, fun r _ _ => rfl⟩ (fun j x y _ _ hI => ?_)
  · unfold QU GR run
    refine ⟨key.1, fun r hr => ?_⟩
    unfold stp
    cases hb : bt (fo (rnd th w t k) 9 0 (mask k, gr)).1 r
    · rw [if_neg (fun h => by cases h.2)]
      exact key.2.1 r hr hb
    · rw [if_pos ⟨by omega, rfl⟩]
      exact (key.2.2 r hr hb).symm
  · obtain ⟨h1, h2, h3⟩ := hI
    unfold rnd
    refine ⟨by rw [h1], fun r hr hb => ?_, fun r hr hb => ?_⟩
    · have hb : bt (x.1 &&& (brn th w t k x.1 ^^^ (-1))) r = false := hb
      show stp x.2 _ _ r = stp y.2 _ _ r
      unfold stp
      rw [← h1]
      rw [b_and, b_not (by omega)] at hb
      cases hc : bt (brn th w t k x.1) r
      · rw [if_neg (fun h => by cases h.2), if_neg (fun h => by cases h.2)]
        rw [hc] at hb
        exact h2 r hr (by cases hd : bt x.1 r; rfl; rw [hd] at hb; cases hb)
      · rw [if_pos ⟨by omega, rfl⟩, if_pos ⟨by omega, rfl⟩]
    · have hb : bt (x.1 &&& (brn th w t k x.1 ^^^ (-1))) r = true := hb
      show stp y.2 _ _ r = -9
      unfold stp
      rw [← h1]
      rw [b_and, b_not (by omega)] at hb
      simp only [Bool.and_eq_true, Bool.not_eq_true'] at hb
      rw [if_neg (fun h => by rw [hb.2] at h; cases h.2)]
      exact h3 r hr hb.1
theorem GR_rng {th : Int64} {w t : Nat → Int64} {k : Nat} (r : Nat) : GR th w t k r = -9 ∨ ∃ g, g < 9 ∧ GR th w t k r = nI g := by
  unfold GR run
  have := fo_ind (rnd th w t k) (fun i x => ∀ r, x.2 r = -9 ∨ ∃ g, g < i ∧ x.2 r = nI g) 9 0 (mask k, fun _ => -9) (fun _ => Or.inl rfl) (fun j x _ _ hI r => ?_)
  · exact this r
  · unfold rnd
    show stp x.2 _ _ r = -9 ∨ ∃ g, g < j + 1 ∧ stp x.2 _ _ r = nI g
    unfold stp
    by_cases hc : r < 9 ∧ bt (brn th w t k x.1) r = true
    · rw [if_pos hc]; exact Or.inr ⟨j, by omega, rfl⟩
    · rw [if_neg hc]
      rcases hI r with h | ⟨g, hg, h⟩
      · exact Or.inl h
      · exact Or.inr ⟨g, by omega, h⟩
theorem calm_congr {w t w' t' : Nat → Int64} {k : Nat} (hw : ∀ i, i < k → w i = w' i) (ht : ∀ i, i < k → t i = t' i) (th : Int64) (set : Int32) : calm th w t k set = calm th w' t' k set := by
  unfold calm
  exact fo_congr k 0 _ (fun j b _ hj => by rw [brk_congr hw ht j (by omega)])
theorem brn_congr {w t w' t' : Nat → Int64} {k : Nat} (hw : ∀ i, i < k → w i = w' i) (ht : ∀ i, i < k → t i = t' i) (th : Int64) (set : Int32) : brn th w t k set = brn th w' t' k set := by
  unfold brn
  exact setOf_congr (fun r hr => by rw [calm_congr hw ht, hw r hr, ht r hr])
theorem run_congr {w t w' t' : Nat → Int64} {k : Nat} (hw : ∀ i, i < k → w i = w' i) (ht : ∀ i, i < k → t i = t' i) (th : Int64) (gr : Nat → Int32) : run th w t k gr = run th w' t' k gr := by
  unfold run
  exact fo_congr 9 0 _ (fun j b _ _ => by unfold rnd; rw [brn_congr hw ht])
theorem GR_congr {w t w' t' : Nat → Int64} {k : Nat} (hw : ∀ i, i < k → w i = w' i) (ht : ∀ i, i < k → t i = t' i) (th : Int64) : GR th w t k = GR th w' t' k := by unfold GR; rw [run_congr hw ht]
theorem QU_congr {w t w' t' : Nat → Int64} {k : Nat} (hw : ∀ i, i < k → w i = w' i) (ht : ∀ i, i < k → t i = t' i) (th : Int64) : QU th w t k = QU th w' t' k := by unfold QU; rw [run_congr hw ht]
