-- ===== tokens, class side =====
def TXc (tx : Nat → Nat) (N : Nat) (bs : Nat → Int32) : Prop := ∀ i, i < N → bs i &&& (255 : Int32) = nI (tx i)
theorem at_yes {tx : Nat → Nat} {N i : Nat} {bs : Nat → Int32} (hN : N ≤ 400) (hb : TXc tx N bs) (hi : i < N) : f_X6_at (nI N) bs (nI i) = some (nI (tx i)) := by
  unfold f_X6_at
  rw [if_neg (lnn (by omega)), if_neg (by rw [nle (by omega) (by omega)]; omega), if_neg (by rw [i400, nle (by decide) (by omega)]; omega), gdi (by omega) (by decide), clp (by omega), hb i hi]
theorem at_no {N i : Nat} {bs : Nat → Int32} (hN : N ≤ 400) (h2 : i < 2 ^ 31) (hi : N ≤ i) : f_X6_at (nI N) bs (nI i) = some (-1) := by
  unfold f_X6_at
  rw [if_neg (lnn h2), if_pos (by rw [nle (by omega) h2]; exact hi)]
theorem wordLen_eq {tx : Nat → Nat} {N p : Nat} {bs : Nat → Int32} (hN : N ≤ 400) (hb : TXc tx N bs) (hx : ∀ i, i < N → tx i < 256) (hp : p < N) (hs : sml (tx p) = true) : ∃ l, f_X3_wordLength (nI N) bs (nI p) = some (nI l) ∧ wrun tx N p l := by
  unfold f_X3_wordLength
  have step : ∀ (c i n : Nat), p + i + c = N → c < n → (∀ t, t < i → sml (tx (p + t)) = true) → ∃ l, lp_X3_wordLength_4 (nI N) bs (nI p) n (nI i) (nI i) = some (nI l) ∧ i ≤ l ∧ p + l ≤ N ∧ (∀ t, t < l → sml (tx (p + t)) = true) ∧ (p + l < N → sml (tx (p + l)) = false) := by
    intro c
    induction c with
    | zero =>
      intro i n hi hn ha
      obtain ⟨n, rfl⟩ : ∃ q, n = q + 1 := ⟨n - 1, by omega⟩
      refine ⟨i, ?_, Nat.le_refl _, by omega, ha, fun h => by omega⟩
      rw [lp_X3_wordLength_4]
      by_cases h4 : 400 ≤ i
      · rw [if_pos (by rw [i400, nle (by decide) (by omega)]; exact h4)]
      · rw [if_neg (by rw [i400, nle (by decide) (by omega)]; exact h4), nI_add, at_no hN (by omega) (by omega), bd_s, show f_X3_isSmall (-1) = some 0 from rfl, bd_s, if_pos rfl]
    | succ c ih =>
      intro i n hi hn ha
      obtain ⟨n, rfl⟩ : ∃ q, n = q + 1 := ⟨n - 1, by omega⟩
      rw [lp_X3_wordLength_4, if_neg (by rw [i400, nle (by decide) (by omega)]; omega), nI_add, at_yes hN hb (by omega), bd_s, csml_eq _ (hx _ (by omega)), bd_s]
      by_cases hm : sml (tx (p + i)) = true
      · rw [if_pos hm, if_neg z10, lt_y, lt_y, nI_s]
        obtain ⟨l, e, h1, h2⟩ := ih (i + 1) n (by omega) (by omega) (fun t ht => by
          by_cases e : t = i
          · subst e; exact hm
          · exact ha t (by omega))
        exact ⟨l, e, by omega, h2⟩
      · have hf : sml (tx (p + i)) = false := by cases hh : sml (tx (p + i)); rfl; exact absurd hh hm
        rw [if_neg hm, if_pos rfl]
        exact ⟨i, rfl, Nat.le_refl _, by omega, ha, fun _ => hf⟩
  obtain ⟨l, e, h1, h2, h3, h4⟩ := step (N - p) 0 fu (by omega) (by rw [fu_eq]; omega) (fun t ht => absurd ht (Nat.not_lt_zero t))
  refine ⟨l, e, ?_, h2, h3, h4⟩
  by_cases h0 : l = 0
  · subst h0
    have := h4 (by omega)
    rw [Nat.add_zero, hs] at this; cases this
  · omega
def bN (a t : Nat) : Nat := (([[97, 108, 119, 97, 121, 115], [105, 102], [116, 104, 101, 110], [102, 97, 99, 116], [109, 97, 121]] : List (List Nat)).getD a []).getD t 0
theorem len_eq : ∀ a, a < 5 → f_J0_length_8abf5 a = some (nI (lenS.getD a 0)) := by decide +kernel
theorem len_b : ∀ a, a < 5 → lenS.getD a 0 ≤ 6 := by decide +kernel
theorem ch_eq : ∀ a, a < 5 → ∀ t, t < lenS.getD a 0 → f_J0_charAt_5068e a (nI t) = some (nI (bN a t)) := by decide +kernel
theorem bN_b : ∀ a, a < 5 → ∀ t, t < lenS.getD a 0 → bN a t < 256 := by decide +kernel
theorem spells_eq {tx : Nat → Nat} {N p l : Nat} {bs : Nat → Int32} (hN : N ≤ 400) (hb : TXc tx N bs) (hx : ∀ i, i < N → tx i < 256) (hl : p + l ≤ N) {a : Nat} (ha : a < 5) : f_X3_spells (nI N) bs (nI p) (nI l) a = some (if l = lenS.getD a 0 ∧ alF (fun t => decide (tx (p + t) = bN a t)) l 0 = true then 1 else 0) := by
  unfold f_X3_spells
  have hL := len_b a ha
  rw [len_eq a ha, bd_s]
  by_cases h : l = lenS.getD a 0
  · rw [if_pos (by rw [h])]
    have step : ∀ (c i n : Nat), i + c = l → c < n → lp_X3_spells_13 (nI N) bs (nI p) (nI l) a n (nI i) = some (if alF (fun t => decide (tx (p + t) = bN a t)) c i = true then 1 else 0) := by
      intro c
      induction c with
      | zero =>
        intro i n hi hn
        obtain ⟨n, rfl⟩ : ∃ q, n = q + 1 := ⟨n - 1, by omega⟩
        rw [lp_X3_spells_13, len_eq a ha, bd_s, if_pos (by rw [nle (by omega) (by omega)]; omega)]
        rfl
      | succ c ih =>
        intro i n hi hn
        obtain ⟨n, rfl⟩ : ∃ q, n = q + 1 := ⟨n - 1, by omega⟩
        have h1 := hx (p + i) (by omega)
        have h2 := bN_b a ha i (by omega)
        rw [lp_X3_spells_13, len_eq a ha, bd_s, if_neg (by rw [nle (by omega) (by omega)]; omega), nI_add, at_yes hN hb (by omega), bd_s, ch_eq a ha i (by omega), bd_s]
        show _ = some (if (decide (tx (p + i) = bN a i) && alF _ c (i + 1)) = true then 1 else 0)
        by_cases e : tx (p + i) = bN a i
        · rw [if_pos (by rw [e]), lt_y, nI_s, decide_eq_true e, Bool.true_and]
          exact ih (i + 1) n (by omega) (by omega)
        · rw [if_neg (by rw [neq (by omega) (by omega)]; exact e), decide_eq_false e]; rfl
    refine (step l 0 fu (by omega) (by rw [fu_eq]; omega)).trans ?_
    by_cases hh : alF (fun t => decide (tx (p + t) = bN a t)) l 0 = true
    · rw [if_pos hh, if_pos ⟨h, hh⟩]
    · rw [if_neg hh, if_neg (fun z => hh z.2)]
  · rw [if_neg (by rw [neq (by omega) (by omega)]; exact h), if_neg (fun z => h z.1)]
theorem wv_1 (tx : Nat → Nat) (p : Nat) : wv tx p 1 = tx p - 96 := by show 32 * 0 + (tx (p + 0) - 96) = _; rw [Nat.add_zero]; omega
theorem wv_2 (tx : Nat → Nat) (p : Nat) : wv tx p 2 = 32 * (tx p - 96) + (tx (p + 1) - 96) := by rw [wv_s, wv_1]
theorem wv_3 (tx : Nat → Nat) (p : Nat) : wv tx p 3 = 32 * (32 * (tx p - 96) + (tx (p + 1) - 96)) + (tx (p + 2) - 96) := by rw [wv_s, wv_2]
theorem wv_4 (tx : Nat → Nat) (p : Nat) : wv tx p 4 = 32 * (32 * (32 * (tx p - 96) + (tx (p + 1) - 96)) + (tx (p + 2) - 96)) + (tx (p + 3) - 96) := by rw [wv_s, wv_3]
theorem wv_5 (tx : Nat → Nat) (p : Nat) : wv tx p 5 = 32 * (32 * (32 * (32 * (tx p - 96) + (tx (p + 1) - 96)) + (tx (p + 2) - 96)) + (tx (p + 3) - 96)) + (tx (p + 4) - 96) := by rw [wv_s, wv_4]
theorem wv_6 (tx : Nat → Nat) (p : Nat) : wv tx p 6 = 32 * (32 * (32 * (32 * (32 * (tx p - 96) + (tx (p + 1) - 96)) + (tx (p + 2) - 96)) + (tx (p + 3) - 96)) + (tx (p + 4) - 96)) + (tx (p + 5) - 96) := by rw [wv_s, wv_5]
def spl (tx : Nat → Nat) (p l a : Nat) : Prop := l = lenS.getD a 0 ∧ alF (fun t => decide (tx (p + t) = bN a t)) l 0 = true
/-- the word by what it spells -/
theorem wcd_sp {tx : Nat → Nat} {N p l : Nat} (hw : wrun tx N p l) (h1 : ¬ l = 1) : (spl tx p l 0 → wcd tx p l = 2) ∧ (spl tx p l 1 → wcd tx p l = 3) ∧ (spl tx p l 2 → wcd tx p l = 4) ∧ (spl tx p l 3 → wcd tx p l = 5) ∧ (spl tx p l 4 → wcd tx p l = 6) ∧ (¬ spl tx p l 0 → ¬ spl tx p l 1 → ¬ spl tx p l 2 → ¬ spl tx p l 3 → ¬ spl tx p l 4 → wcd tx p l = 1) := by
  obtain ⟨h0, _, h2, _⟩ := hw
  by_cases h7 : 7 ≤ l
  · have e : wcd tx p l = 1 := by unfold wcd; rw [if_pos h7]
    refine ⟨fun h => ?_, fun h => ?_, fun h => ?_, fun h => ?_, fun h => ?_, fun _ _ _ _ _ => e⟩
    · have : l = 6 := h.1; omega
    · have : l = 2 := h.1; omega
    · have : l = 4 := h.1; omega
    · have : l = 4 := h.1; omega
    · have : l = 3 := h.1; omega
  · have g : ∀ i, i < l → 97 ≤ tx (p + i) ∧ tx (p + i) ≤ 122 := fun i hi => sml_b (h2 i hi)
    have g0 := g 0 h0
    rw [Nat.add_zero] at g0
    have g1 := g 1 (by omega)
    have hl : l = 2 ∨ l = 3 ∨ l = 4 ∨ l = 5 ∨ l = 6 := by omega
    rcases hl with rfl | rfl | rfl | rfl | rfl
    · have k1 : spl tx p 2 1 ↔ tx p = 105 ∧ tx (p + 1) = 102 := by
        simp [spl, alF, lenS, bN]
      have n0 : ¬ spl tx p 2 0 := fun h => absurd h.1 (by decide)
      have n2 : ¬ spl tx p 2 2 := fun h => absurd h.1 (by decide)
      have n3 : ¬ spl tx p 2 3 := fun h => absurd h.1 (by decide)
      have n4 : ¬ spl tx p 2 4 := fun h => absurd h.1 (by decide)
      refine ⟨fun h => absurd h n0, fun h => ?_, fun h => absurd h n2, fun h => absurd h n3, fun h => absurd h n4, fun _ h _ _ _ => ?_⟩
      · rw [k1] at h; unfold wcd; rw [wv_2]; (repeat' split) <;> omega
      · rw [k1] at h; unfold wcd; rw [wv_2]; (repeat' split) <;> omega
    · have g2 := g 2 (by omega)
      have k4 : spl tx p 3 4 ↔ tx p = 109 ∧ tx (p + 1) = 97 ∧ tx (p + 2) = 121 := by
        simp [spl, alF, lenS, bN]
      have n0 : ¬ spl tx p 3 0 := fun h => absurd h.1 (by decide)
      have n1 : ¬ spl tx p 3 1 := fun h => absurd h.1 (by decide)
      have n2 : ¬ spl tx p 3 2 := fun h => absurd h.1 (by decide)
      have n3 : ¬ spl tx p 3 3 := fun h => absurd h.1 (by decide)
      refine ⟨fun h => absurd h n0, fun h => absurd h n1, fun h => absurd h n2, fun h => absurd h n3, fun h => ?_, fun _ _ _ _ h => ?_⟩
      · rw [k4] at h; unfold wcd; rw [wv_3]; (repeat' split) <;> omega
      · rw [k4] at h; unfold wcd; rw [wv_3]; (repeat' split) <;> omega
    · have g2 := g 2 (by omega)
      have g3 := g 3 (by omega)
      have k2 : spl tx p 4 2 ↔ tx p = 116 ∧ tx (p + 1) = 104 ∧ tx (p + 2) = 101 ∧ tx (p + 3) = 110 := by
        simp [spl, alF, lenS, bN]
      have k3 : spl tx p 4 3 ↔ tx p = 102 ∧ tx (p + 1) = 97 ∧ tx (p + 2) = 99 ∧ tx (p + 3) = 116 := by
        simp [spl, alF, lenS, bN]
      have n0 : ¬ spl tx p 4 0 := fun h => absurd h.1 (by decide)
      have n1 : ¬ spl tx p 4 1 := fun h => absurd h.1 (by decide)
      have n4 : ¬ spl tx p 4 4 := fun h => absurd h.1 (by decide)
      refine ⟨fun h => absurd h n0, fun h => absurd h n1, fun h => ?_, fun h => ?_, fun h => absurd h n4, fun _ _ h h' _ => ?_⟩
      · rw [k2] at h; unfold wcd; rw [wv_4]; (repeat' split) <;> omega
      · rw [k3] at h; unfold wcd; rw [wv_4]; (repeat' split) <;> omega
      · rw [k2] at h; rw [k3] at h'; unfold wcd; rw [wv_4]; (repeat' split) <;> omega
    · have g2 := g 2 (by omega)
      have g3 := g 3 (by omega)
      have g4 := g 4 (by omega)
      refine ⟨fun h => absurd h.1 (by decide), fun h => absurd h.1 (by decide), fun h => absurd h.1 (by decide), fun h => absurd h.1 (by decide), fun h => absurd h.1 (by decide), fun _ _ _ _ _ => ?_⟩
      unfold wcd; rw [wv_5]; (repeat' split) <;> omega
    · have g2 := g 2 (by omega)
      have g3 := g 3 (by omega)
      have g4 := g 4 (by omega)
      have g5 := g 5 (by omega)
      have k0 : spl tx p 6 0 ↔ tx p = 97 ∧ tx (p + 1) = 108 ∧ tx (p + 2) = 119 ∧ tx (p + 3) = 97 ∧ tx (p + 4) = 121 ∧ tx (p + 5) = 115 := by
        simp [spl, alF, lenS, bN]
      refine ⟨fun h => ?_, fun h => absurd h.1 (by decide), fun h => absurd h.1 (by decide), fun h => absurd h.1 (by decide), fun h => absurd h.1 (by decide), fun h _ _ _ _ => ?_⟩
      · rw [k0] at h; unfold wcd; rw [wv_6]; (repeat' split) <;> omega
      · rw [k0] at h; unfold wcd; rw [wv_6]; (repeat' split) <;> omega
theorem wordTok_eq {tx : Nat → Nat} {N p l : Nat} {bs : Nat → Int32} (hN : N ≤ 400) (hb : TXc tx N bs) (hx : ∀ i, i < N → tx i < 256) (hw : wrun tx N p l) : f_X3_wordToken (nI N) bs (nI p) (nI l) = some (nI (cC (wcd tx p l))) := by
  have hw' := hw
  obtain ⟨h0, h1, h2, h3⟩ := hw'
  unfold f_X3_wordToken
  by_cases e1 : l = 1
  · subst e1
    have hs := h2 0 (by omega)
    rw [Nat.add_zero] at hs
    have hs' := sml_b hs
    rw [if_pos (show nI 1 = (1 : Int32) from rfl), at_yes hN hb (by omega), bd_s]
    unfold wcd
    rw [wv_1, if_neg (show ¬ 7 ≤ 1 by decide)]
    by_cases h6 : tx p ≤ 102
    · rw [if_neg (show ¬ (102 : Int32) < nI (tx p) by rw [show (102 : Int32) = nI 102 from rfl, nlt (by decide) (by omega)]; omega), if_pos (by omega)]
      have : ∀ c, c < 103 → 97 ≤ c → cC (9 + (c - 96)) = c := by decide +kernel
      rw [this _ (by omega) hs'.1]
    · rw [if_pos (show (102 : Int32) < nI (tx p) by rw [show (102 : Int32) = nI 102 from rfl, nlt (by decide) (by omega)]; omega), if_neg (by omega), if_neg (by omega), if_neg (by omega), if_neg (by omega), if_neg (by omega), if_neg (by omega)]
      rfl
  · obtain ⟨s0, s1, s2, s3, s4, s5⟩ := wcd_sp hw e1
    rw [if_neg (by rw [i1, neq (by omega) (by decide)]; exact e1)]
    have q : ∀ a, a < 5 → f_X3_spells (nI N) bs (nI p) (nI l) a = some (if l = lenS.getD a 0 ∧ alF (fun t => decide (tx (p + t) = bN a t)) l 0 = true then 1 else 0) := fun a ha => spells_eq hN hb hx h1 ha
    have yes : ∀ a, spl tx p l a → (if l = lenS.getD a 0 ∧ alF (fun t => decide (tx (p + t) = bN a t)) l 0 = true then (1 : Int32) else 0) = 1 := fun a h => if_pos h
    have no : ∀ a, ¬ spl tx p l a → (if l = lenS.getD a 0 ∧ alF (fun t => decide (tx (p + t) = bN a t)) l 0 = true then (1 : Int32) else 0) = 0 := fun a h => if_neg h
    rw [q 0 (by decide), bd_s]
    by_cases c0 : spl tx p l 0
    · rw [yes 0 c0, if_neg z10, s0 c0]; rfl
    rw [no 0 c0, if_pos rfl, q 1 (by decide), bd_s]
    by_cases c1 : spl tx p l 1
    · rw [yes 1 c1, if_neg z10, s1 c1]; rfl
    rw [no 1 c1, if_pos rfl, q 2 (by decide), bd_s]
    by_cases c2 : spl tx p l 2
    · rw [yes 2 c2, if_neg z10, s2 c2]; rfl
    rw [no 2 c2, if_pos rfl, q 3 (by decide), bd_s]
    by_cases c3 : spl tx p l 3
    · rw [yes 3 c3, if_neg z10, s3 c3]; rfl
    rw [no 3 c3, if_pos rfl, q 4 (by decide), bd_s]
    by_cases c4 : spl tx p l 4
    · rw [yes 4 c4, if_neg z10, s4 c4]; rfl
    rw [no 4 c4, if_pos rfl, s5 c0 c1 c2 c3 c4]; rfl
/-- the tokens of L from place j on -/
def repT (N : Nat) (tk pl : Nat → Int32) : Nat → List (Nat × Nat) → Prop
  | j, [] => tk j = nI 256 ∧ pl j = nI N
  | j, (c, q) :: L => (0 < c ∧ c < 25) ∧ tk j = nI (cC c) ∧ pl j = nI q ∧ repT N tk pl (j + 1) L
theorem put_eq {j : Nat} (hj : j ≤ 400) (tk pl : Nat → Int32) (c q : Int32) : f_X3_put (nI j) tk pl c q = some (nI (j + 1), upd tk j c, upd pl j q) := by
  unfold f_X3_put
  rw [if_neg (by rw [i401, nle (by decide) (by omega)]; omega), if_neg (by rw [i401, nle (by decide) (by omega)]; omega), gdi (by omega) (by decide), gdi (by omega) (by decide), lt_y, nI_s, clp (by omega)]
theorem upd_at (f : Nat → Int32) (j : Nat) (v : Int32) : upd f j v j = v := if_pos rfl
theorem upd_ne (f : Nat → Int32) {j i : Nat} (h : ¬ i = j) (v : Int32) : upd f j v i = f i := if_neg h
theorem start_lp {tx : Nat → Nat} {N : Nat} {bs : Nat → Int32} (hN : N ≤ 400) (hb : TXc tx N bs) (hx : ∀ i, i < N → tx i < 256) (nx tk0 : Int32) : ∀ (c p i j n : Nat) (tk pl : Nat → Int32), N - p ≤ c → p ≤ N → i ≤ p → j ≤ p → c < n →
    ∃ (f : Nat) (L : List (Nat × Nat)) (tk' pl' : Nat → Int32), LX tx N f p L ∧ j + L.length ≤ N ∧ lp_X3_start_9 (nI N) bs nx tk0 n (nI j) tk pl (nI p) (nI i) = some (nI (j + L.length + 1), 0, tk' 0, tk', pl') ∧ repT N tk' pl' j L ∧ ∀ q, q < j → tk' q = tk q ∧ pl' q = pl q := by
  have fin : ∀ (j : Nat) (tk pl : Nat → Int32), j ≤ 400 → jn_X3_start_103 (nI N) bs (nI j) nx tk0 tk pl = some (nI (j + 1), 0, upd tk j (nI 256) 0, upd tk j (nI 256), upd pl j (nI N)) := by
    intro j tk pl hj
    unfold jn_X3_start_103
    rw [show f_X6_size (nI N) = some (nI N) from rfl, bd_s, put_eq hj, bd_s]
    unfold f_X3_take
    rw [show (-1 : Int32) + 1 = nI 0 from rfl, lt_y, if_neg (lnn (by decide)), if_neg (by show ¬ nI (j + 1) ≤ nI 0; rw [nle (by omega) (by decide)]; omega), if_neg (by decide), gd_y (by decide), lt_y, bd_s]
    rfl
  intro c
  induction c with
  | zero =>
    intro p i j n tk pl hc hp hi hj hn
    obtain ⟨n, rfl⟩ : ∃ q, n = q + 1 := ⟨n - 1, by omega⟩
    obtain rfl : p = N := by omega
    refine ⟨0, [], upd tk j (nI 256), upd pl j (nI p), ⟨rfl, rfl⟩, by simpa using hj, ?_, ⟨upd_at _ _ _, upd_at _ _ _⟩, fun q hq => ⟨upd_ne _ (by omega) _, upd_ne _ (by omega) _⟩⟩
    rw [lp_X3_start_9]
    by_cases h4 : 400 ≤ i
    · rw [if_pos (by rw [i400, nle (by decide) (by omega)]; exact h4)]; exact fin j tk pl (by omega)
    · rw [if_neg (by rw [i400, nle (by decide) (by omega)]; exact h4), show f_X6_size (nI p) = some (nI p) from rfl, bd_s, if_pos (by rw [nle (by omega) (by omega)]; exact Nat.le_refl _)]; exact fin j tk pl (by omega)
  | succ c ih =>
    intro p i j n tk pl hc hp hi hj hn
    obtain ⟨n, rfl⟩ : ∃ q, n = q + 1 := ⟨n - 1, by omega⟩
    by_cases hpN : p = N
    · subst hpN
      refine ⟨0, [], upd tk j (nI 256), upd pl j (nI p), ⟨rfl, rfl⟩, by simpa using hj, ?_, ⟨upd_at _ _ _, upd_at _ _ _⟩, fun q hq => ⟨upd_ne _ (by omega) _, upd_ne _ (by omega) _⟩⟩
      rw [lp_X3_start_9]
      by_cases h4 : 400 ≤ i
      · rw [if_pos (by rw [i400, nle (by decide) (by omega)]; exact h4)]; exact fin j tk pl (by omega)
      · rw [if_neg (by rw [i400, nle (by decide) (by omega)]; exact h4), show f_X6_size (nI p) = some (nI p) from rfl, bd_s, if_pos (by rw [nle (by omega) (by omega)]; exact Nat.le_refl _)]; exact fin j tk pl (by omega)
    · have hpl : p < N := by omega
      have one_tok : ∀ (l code : Nat) (f : Nat) (L : List (Nat × Nat)) (tk' pl' : Nat → Int32), 0 < l → p + l ≤ N → (0 < code ∧ code < 25) → LX tx N f (p + l) L → j + 1 + L.length ≤ N → repT N tk' pl' (j + 1) L → (∀ q, q < j + 1 → tk' q = upd tk j (nI (cC code)) q ∧ pl' q = upd pl j (nI p) q) → repT N tk' pl' j ((code, p) :: L) ∧ (∀ q, q < j → tk' q = tk q ∧ pl' q = pl q) ∧ j + ((code, p) :: L).length ≤ N ∧ nI (j + 1 + L.length + 1) = nI (j + ((code, p) :: L).length + 1) := by
        intro l code f L tk' pl' hl hpl' hcode hLX hlen hrep hq
        refine ⟨⟨hcode, ?_, ?_, hrep⟩, fun q h => ?_, ?_, ?_⟩
        · rw [(hq j (by omega)).1, upd_at]
        · rw [(hq j (by omega)).2, upd_at]
        · rw [(hq q (by omega)).1, (hq q (by omega)).2, upd_ne _ (by omega), upd_ne _ (by omega)]; exact ⟨rfl, rfl⟩
        · simp only [List.length_cons]; omega
        · congr 1; simp only [List.length_cons]; omega
      rw [lp_X3_start_9, if_neg (by rw [i400, nle (by decide) (by omega)]; omega), show f_X6_size (nI N) = some (nI N) from rfl, bd_s, if_neg (by rw [nle (by omega) (by omega)]; omega), at_yes hN hb hpl, bd_s, csml_eq _ (hx p hpl), bd_s]
      by_cases hs : sml (tx p) = true
      · obtain ⟨l, el, hw⟩ := wordLen_eq hN hb hx hpl hs
        have hl0 := hw.1
        have hl1 := hw.2.1
        rw [if_pos hs, if_neg z10, el, bd_s, wordTok_eq hN hb hx hw, bd_s, put_eq (by omega), bd_s, nI_add, lt_y, nI_s, lt_y]
        obtain ⟨f, L, tk', pl', hLX, hlen, e, hrep, hq⟩ := ih (p + l) (i + 1) (j + 1) n (upd tk j (nI (cC (wcd tx p l)))) (upd pl j (nI p)) (by omega) (by omega) (by omega) (by omega) (by omega)
        obtain ⟨r1, r2, r3, r4⟩ := one_tok l (wcd tx p l) f L tk' pl' hl0 hl1 (wcd_rng tx p l) hLX hlen hrep hq
        exact ⟨f + 1, (wcd tx p l, p) :: L, tk', pl', Or.inr (Or.inr (Or.inl ⟨l, L, hpl, hw, rfl, hLX⟩)), r3, by rw [← r4]; exact e, r1, r2⟩
      · have hf : sml (tx p) = false := by cases hh : sml (tx p); rfl; exact absurd hh hs
        rw [if_neg hs, if_pos rfl]
        by_cases h32 : tx p = 32
        · rw [if_pos (by rw [h32]; rfl), lt_y, lt_y, nI_s, nI_s]
          obtain ⟨f, L, tk', pl', hLX, hlen, e, hrep, hq⟩ := ih (p + 1) (i + 1) j n tk pl (by omega) (by omega) (by omega) (by omega) (by omega)
          exact ⟨f + 1, L, tk', pl', Or.inr (Or.inl ⟨hpl, h32, hLX⟩), hlen, e, hrep, hq⟩
        · rw [if_neg (by rw [show (32 : Int32) = nI 32 from rfl, neq (by have := hx p hpl; omega) (by decide)]; exact h32), csgn_eq _ (hx p hpl), bd_s]
          obtain ⟨f, L, tk', pl', hLX, hlen, e, hrep, hq⟩ := ih (p + 1) (i + 1) (j + 1) n (upd tk j (nI (cC (sgn (tx p))))) (upd pl j (nI p)) (by omega) (by omega) (by omega) (by omega) (by omega)
          obtain ⟨r1, r2, r3, r4⟩ := one_tok 1 (sgn (tx p)) f L tk' pl' (by decide) (by omega) (sgn_rng _) hLX hlen hrep hq
          refine ⟨f + 1, (sgn (tx p), p) :: L, tk', pl', Or.inr (Or.inr (Or.inr ⟨L, hpl, hf, h32, rfl, hLX⟩)), r3, ?_, r1, r2⟩
          rw [← r4]
          unfold jn_X3_start_88
          by_cases hg : sgn (tx p) = 1
          · rw [if_pos hg, if_pos rfl, put_eq (by omega), bd_s, nI_s, lt_y, nI_s, lt_y, show (257 : Int32) = nI (cC (sgn (tx p))) from by rw [hg]; rfl]
            exact e
          · rw [if_neg hg, if_neg z10, put_eq (by omega), bd_s, nI_s, lt_y, nI_s, lt_y]
            rw [csgn_t _ (hx p hpl) hg] at e
            exact e
theorem start_eq {tx : Nat → Nat} {N : Nat} {bs : Nat → Int32} (hN : N ≤ 400) (hb : TXc tx N bs) (hx : ∀ i, i < N → tx i < 256) (sz nx tk0 : Int32) (tk pl : Nat → Int32) :
    ∃ (f : Nat) (L : List (Nat × Nat)) (tk' pl' : Nat → Int32), LX tx N f 0 L ∧ L.length ≤ 400 ∧ f_X3_start sz nx tk0 tk pl (nI N) bs = some (nI (L.length + 1), nI 0, tk' 0, tk', pl') ∧ repT N tk' pl' 0 L := by
  obtain ⟨f, L, tk', pl', h1, h2, h3, h4, _⟩ := start_lp hN hb hx nx tk0 N 0 0 0 fu tk pl (by omega) (by omega) (by omega) (by omega) (by rw [fu_eq]; omega)
  refine ⟨f, L, tk', pl', h1, by omega, ?_, h4⟩
  unfold f_X3_start
  rw [Nat.zero_add] at h3
  exact h3
