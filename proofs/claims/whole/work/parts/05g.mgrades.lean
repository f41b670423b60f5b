-- ===== grades, the reference's side =====
theorem fo_upd (p : Nat → Bool) (gr : Nat → Int32) (g : Int32) : ∀ c, fo (fun r (gr : Nat → Int32) => if p r = true then upd gr r g else gr) c 0 gr = fun j => if j < c ∧ p j = true then g else gr j
  | 0 => by
    show gr = _
    funext j; rw [if_neg (fun h => absurd h.1 (Nat.not_lt_zero j))]
  | c + 1 => by
    rw [fo_last, fo_upd p gr g c, Nat.zero_add]
    funext j
    by_cases hb : p c = true
    · rw [if_pos hb]
      by_cases e : j = c
      · subst e; rw [pk_us, if_pos ⟨by omega, hb⟩]
      · rw [pk_un e]
        by_cases h2 : j < c ∧ p j = true
        · rw [if_pos h2, if_pos ⟨by omega, h2.2⟩]
        · rw [if_neg h2, if_neg (fun h => h2 ⟨by omega, h.2⟩)]
    · rw [if_neg hb]
      by_cases h2 : j < c ∧ p j = true
      · rw [if_pos h2, if_pos ⟨by omega, h2.2⟩]
      · rw [if_neg h2, if_neg (fun h => by
          by_cases e : j = c
          · subst e; exact hb h.2
          · exact h2 ⟨by omega, h.2⟩)]
theorem fo_pair {α β : Type} (f : Nat → α → α) (g : Nat → β → β) : ∀ (c i : Nat) (a : α) (b : β), fo (fun r (x : α × β) => (f r x.1, g r x.2)) c i (a, b) = (fo f c i a, fo g c i b)
  | 0, _, _, _ => rfl
  | c + 1, i, a, b => fo_pair f g c (i + 1) (f i a) (g i b)
theorem m99 {n : Nat} (hn : n ≤ 9) (said : Nat → Int64) (many : Nat → Int32) (K : (Nat → Int32) → Int32 → Int32 → Int32 → Option (Int32 × (Nat → Int32))) (l g : Int32) (c : Int64) (gr : Nat → Int32) (p : Nat → Bool) (hp : ∀ r, p r = (bt l r && !decide ((c &&& said (9 + r)) &&& said (18 + r) = 0))) (B : Int32)
    (hB : B = setOf p n) : lp_X8_grades_99 said many (nI n) K l g c fu gr 0 0 = K (stp gr B g) (l &&& (B ^^^ (-1))) (g + 1) B := by
  have ep := fo_pair (fun r (x : Nat → Int32) => if p r = true then upd x r g else x) (fun r (x : Int32) => if p r = true then x ||| one r else x) n 0 gr 0
  have e := lp_fo0 (fun m (a : (Nat → Int32) × Int32) i => lp_X8_grades_99 said many (nI n) K l g c m a.1 a.2 i) n
    (fun r x => (if p r = true then upd x.1 r g else x.1, if p r = true then x.2 ||| one r else x.2))
    (fun a => K a.1 (l &&& (a.2 ^^^ (-1))) (g + 1) a.2) (by rw [fu_eq]; omega) (fun m a => ?_) (fun m a i hi => ?_) (gr, 0)
  · refine e.trans ?_
    rw [ep, fo_upd]
    have e2 : (fun j => if j < n ∧ p j = true then g else gr j) = stp gr B g := by
      funext j
      unfold stp
      rw [hB, bt_setOf _ (by omega)]
      by_cases h1 : j < n
      · have h9 : j < 9 := by omega
        simp [h1, h9]
      · simp [h1]
    have e3 : fo (fun r (x : Int32) => if p r = true then x ||| one r else x) n 0 0 = B := by rw [hB]; rfl
    rw [e2, e3]
  · show lp_X8_grades_99 _ _ _ _ _ _ _ (m + 1) _ _ _ = _
    rw [lp_X8_grades_99, if_pos (by rw [nle (by omega) (by omega)]; omega), lt_y, lt_y]
  · show lp_X8_grades_99 _ _ _ _ _ _ _ (m + 1) _ _ _ = _
    rw [lp_X8_grades_99, if_neg (by rw [nle (by omega) (by omega)]; omega)]
    by_cases hb : bt l i = true
    · rw [if_pos ((sr1 l (by omega)).mpr hb), ad9, ad18, gdi (by omega) (by decide), gdi (by omega) (by decide), clp (by omega), clp (by omega)]
      by_cases hz : ((c &&& said (9 + i)) &&& said (18 + i)) = 0
      · have hf : p i = false := by rw [hp, hb, hz]; simp
        rw [if_pos hz, lt_y, nI_s]
        simp only [hf, Bool.false_eq_true, if_false]
      · have ht : p i = true := by rw [hp, hb]; simp [hz]
        rw [if_neg hz, lt_y, gdi (by omega) (by decide), lt_y, nI_s, clp (by omega)]
        simp only [ht, if_true]
        rfl
    · rw [if_neg (fun z => hb ((sr1 l (by omega)).mp z)), lt_y, nI_s]
      have hf : bt l i = false := by cases h : bt l i; rfl; exact absurd h hb
      have hf2 : p i = false := by rw [hp, hf]; rfl
      simp only [hf2, Bool.false_eq_true, if_false]
theorem andm1 (x : Int64) : x &&& (-1) = x := by
  apply bl_ext; intro i hi; rw [bl_and, bl_m1 hi, Bool.and_true]
theorem m50 {n : Nat} (hn : n ≤ 9) (said : Nat → Int64) (many : Nat → Int32) (K : (Nat → Int32) → Int32 → Int32 → Int32 → Option (Int32 × (Nat → Int32))) (l g : Int32) (th : Int64) (gr : Nat → Int32) :
    lp_X8_grades_50 said many (nI n) K gr l g fu th 0 = K (stp gr (brn th (fun i => said (9 + i)) (fun i => said (18 + i)) n l) g) (l &&& (brn th (fun i => said (9 + i)) (fun i => said (18 + i)) n l ^^^ (-1))) (g + 1) (brn th (fun i => said (9 + i)) (fun i => said (18 + i)) n l) := by
  rw [← m99 hn said many K l g (calm th (fun i => said (9 + i)) (fun i => said (18 + i)) n l) gr _ (fun _ => rfl) (brn th (fun i => said (9 + i)) (fun i => said (18 + i)) n l) rfl]
  unfold calm
  refine lp_fo0 (fun m a i => lp_X8_grades_50 said many (nI n) K gr l g m a i) n _ (fun c => lp_X8_grades_99 said many (nI n) K l g c fu gr 0 0) (by rw [fu_eq]; omega) (fun m a => ?_) (fun m a i hi => ?_) th
  · show lp_X8_grades_50 _ _ _ _ _ _ _ (m + 1) _ _ = _
    rw [lp_X8_grades_50, if_pos (by rw [nle (by omega) (by omega)]; omega)]
  · show lp_X8_grades_50 _ _ _ _ _ _ _ (m + 1) _ _ = _
    rw [lp_X8_grades_50, if_neg (by rw [nle (by omega) (by omega)]; omega)]
    by_cases hb : bt l i = true
    · rw [if_pos ((sr1 l (by omega)).mpr hb), mbroken_eq (by omega), bd_s, lt_y, lt_y, nI_s, if_pos hb]
    · rw [if_neg (fun z => hb ((sr1 l (by omega)).mp z)), lt_y, lt_y, nI_s, if_neg hb, andm1]
def crd (l : Int32) : Nat := fb_ct (fun r => bt l r) 9
theorem crd_pos {n : Nat} (hn : n ≤ 9) {l : Int32} (hl : ∀ i, n ≤ i → bt l i = false) (h : ¬ l = 0) : 0 < crd l := by
  unfold crd
  rw [fb_ct_pos]
  rcases Nat.eq_zero_or_pos (crd l) with h0 | h0
  · exfalso
    apply h
    apply b_ext
    intro i _
    rw [b_0]
    rcases Nat.lt_or_ge i n with hi | hi
    · exact (fb_ct_zero.mp h0) i (by omega)
    · exact hl i hi
  · exact fb_ct_pos.mp h0
theorem crd_less {th : Int64} {w t : Nat → Int64} {n : Nat} (hn : n ≤ 9) {l : Int32} (h : ¬ brn th w t n l = 0) : crd (l &&& (brn th w t n l ^^^ (-1))) < crd l := by
  have hb := crd_pos hn (l := brn th w t n l) (fun i hi => by
    cases hc : bt (brn th w t n l) i
    · rfl
    · exact absurd (brn_sub hn hc).1 (by omega)) h
  have e : crd l = crd (l &&& (brn th w t n l ^^^ (-1))) + crd (brn th w t n l) := by
    unfold crd
    rw [← fb_ct_or]
    · refine fb_ct_cong (fun i hi => ?_)
      rw [b_and, b_not (by omega)]
      cases hc : bt (brn th w t n l) i
      · simp
      · rw [(brn_sub hn hc).2]; rfl
    · intro i hi hh
      rw [b_and, b_not (by omega), hh.2] at hh
      simp at hh
  omega
theorem m32 {n k0 : Nat} (hn : n ≤ 9) (hk0 : k0 ≤ 9) (said : Nat → Int64) (many : Nat → Int32) (hm : many 0 = nI k0) : ∀ (c g m : Nat) (l : Int32) (gr : Nat → Int32) (b : Int32), g + c = 9 → c < m → (∀ i, n ≤ i → bt l i = false) → (¬ b = 0 → crd l ≤ c) → (b = 0 → brn (meet said k0) (fun i => said (9 + i)) (fun i => said (18 + i)) n l = 0) →
    lp_X8_grades_32 said many (nI n) m gr l (nI g) b = (let s := fo (rnd (meet said k0) (fun i => said (9 + i)) (fun i => said (18 + i)) n) c g (l, gr); some (if s.1 = 0 then 0 else 1, s.2)) := by
  intro c
  induction c with
  | zero =>
    intro g m l gr b h hm2 hl h1 h2
    obtain ⟨m, rfl⟩ : ∃ q, m = q + 1 := ⟨m - 1, by omega⟩
    rw [lp_X8_grades_32]
    unfold jn_X8_grades_180
    show _ = some (if l = 0 then 0 else 1, gr)
    by_cases h0 : l = 0
    · rw [if_pos h0, if_pos h0, if_pos h0]
    · rw [if_neg h0]
      by_cases hb : b = 0
      · rw [if_pos hb, if_neg h0, if_neg h0]
      · exact absurd (crd_pos hn hl h0) (by have := h1 hb; omega)
  | succ c ih =>
    intro g m l gr b h hm2 hl h1 h2
    obtain ⟨m, rfl⟩ : ∃ q, m = q + 1 := ⟨m - 1, by omega⟩
    rw [lp_X8_grades_32]
    by_cases h0 : l = 0
    · rw [if_pos h0]
      unfold jn_X8_grades_180
      subst h0
      rw [fo_fix (brn_0 hn), if_pos rfl]
      rfl
    · rw [if_neg h0]
      by_cases hb : b = 0
      · rw [if_pos hb, fo_fix (h2 hb)]
        unfold jn_X8_grades_180
        rw [if_neg h0]
        show _ = some (if l = 0 then 0 else 1, gr)
        rw [if_neg h0]
      · rw [if_neg hb, thereNow_eq hk0 said many hm, bd_s, m50 hn, nI_s]
        refine ih (g + 1) m _ _ _ (by omega) (by omega) (fun i hi => ?_) (fun hB => ?_) (fun hB => ?_)
        · rw [b_and, hl i hi, Bool.false_and]
        · have := crd_less hn hB
          have := h1 hb
          omega
        · rw [hB, and_not0]; exact hB
theorem fo_set9 (gr : Nat → Int32) (n : Nat) : fo (fun r (x : Nat → Int32) => upd x r (-9)) n 0 gr = fun j => if j < n then -9 else gr j := by
  have := fo_upd (fun _ => true) gr (-9) n
  simp only [if_true, and_true] at this
  exact this
theorem mgrades_eq {n k0 : Nat} (hn : n ≤ 9) (hk0 : k0 ≤ 9) (said : Nat → Int64) (many : Nat → Int32) (hm : many 0 = nI k0) (gr : Nat → Int32) : ∃ gr' : Nat → Int32, f_X8_grades said many gr (nI n) = some (if QU (meet said k0) (fun i => said (9 + i)) (fun i => said (18 + i)) n = 0 then 0 else 1, gr') ∧ ∀ r, r < n → gr' r = GR (meet said k0) (fun i => said (9 + i)) (fun i => said (18 + i)) n r := by
  unfold f_X8_grades
  rw [lt_y]
  have e := lp_fo0 (fun m a i => lp_X8_grades_8 said many (nI n) (mask n) m a i) n (fun r x => upd x r (-9)) (fun a => lp_X8_grades_32 said many (nI n) fu a (mask n) 0 (mask n)) (by rw [fu_eq]; omega) (fun m a => ?_) (fun m a i hi => ?_) gr
  · have hc : crd (mask n) ≤ 9 := fb_ct_le _ 9
    have e2 := m32 hn hk0 said many hm 9 0 fu (mask n) (fo (fun r x => upd x r (-9)) n 0 gr) (mask n) (by decide) (by decide) (fun i hi => by rw [bt_mask' (by omega)]; simp; omega) (fun _ => hc) (fun h0 => by rw [h0]; exact brn_0 hn)
    have ag := run_agree (th := meet said k0) (w := fun i => said (9 + i)) (t := fun i => said (18 + i)) (k := n) (fo (fun r (x : Nat → Int32) => upd x r (-9)) n 0 gr) (fun _ => -9) (fun r hr => by rw [fo_set9]; show (if r < n then (-9 : Int32) else gr r) = -9; rw [if_pos hr])
    refine ⟨(run (meet said k0) (fun i => said (9 + i)) (fun i => said (18 + i)) n (fo (fun r x => upd x r (-9)) n 0 gr)).2, ?_, ag.2⟩
    refine (e.trans e2).trans ?_
    show some (if (run (meet said k0) (fun i => said (9 + i)) (fun i => said (18 + i)) n (fo (fun r x => upd x r (-9)) n 0 gr)).1 = 0 then 0 else 1, _) = _
    rw [ag.1]
    rfl
  · show lp_X8_grades_8 _ _ _ _ (m + 1) _ _ = _
    rw [lp_X8_grades_8, if_pos (by rw [nle (by omega) (by omega)]; omega)]
  · show lp_X8_grades_8 _ _ _ _ (m + 1) _ _ = _
    rw [lp_X8_grades_8, if_neg (by rw [nle (by omega) (by omega)]; omega), gdi (by omega) (by decide), lt_y, nI_s, clp (by omega)]
theorem zb_ite {c : Prop} [Decidable c] : zb (if c then 0 else 1) = true := by
  by_cases h : c
  · rw [if_pos h]; exact zb_0
  · rw [if_neg h]; exact zb_1
theorem mrates_eq {n k0 : Nat} (hn : n ≤ 9) (hk0 : k0 ≤ 9) (q : Int32) (said : Nat → Int64) (many : Nat → Int32) (hm : many 0 = nI k0) (hm1 : many 1 = nI n) (gr : Nat → Int32) : ∃ gr' : Nat → Int32, f_X8_rates q said many gr = some (if QU (meet said k0) (fun i => said (9 + i)) (fun i => said (18 + i)) n = 0 then 0 else 1, gr') ∧ ∀ r, r < n → gr' r = GR (meet said k0) (fun i => said (9 + i)) (fun i => said (18 + i)) n r := by
  obtain ⟨gr', h1, h2⟩ := mgrades_eq hn hk0 said many hm gr
  refine ⟨gr', ?_, h2⟩
  unfold f_X8_rates
  rw [gd1, m1c, hm1, h1, bd_s, gd_y zb_ite]
