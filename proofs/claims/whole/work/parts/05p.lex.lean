-- ===== tokens =====
def sml (c : Nat) : Bool := decide (97 ≤ c ∧ c ≤ 122)
def sgn (c : Nat) : Nat := if c = 33 then 22 else if c = 38 then 21 else if c = 40 then 23 else if c = 41 then 24 else if c = 48 then 17 else if c = 49 then 18 else if c = 59 then 19 else if c = 124 then 20 else 1
def cL : List Nat := [256, 257, 258, 259, 260, 261, 262, 257, 257, 257, 97, 98, 99, 100, 101, 102, 257, 48, 49, 59, 124, 38, 33, 40, 41]
def cC (c : Nat) : Nat := cL.getD c 257
def wrun (tx : Nat → Nat) (N p l : Nat) : Prop := 0 < l ∧ p + l ≤ N ∧ (∀ i, i < l → sml (tx (p + i)) = true) ∧ (p + l < N → sml (tx (p + l)) = false)
def wv (tx : Nat → Nat) (p l : Nat) : Nat := fo (fun k v => 32 * v + (tx (p + k) - 96)) l 0 0
def wcd (tx : Nat → Nat) (p l : Nat) : Nat :=
  if 7 ≤ l then 1 else if 1 ≤ wv tx p l ∧ wv tx p l ≤ 6 then 9 + wv tx p l else if wv tx p l = 46892851 then 2 else if wv tx p l = 294 then 3 else if wv tx p l = 663726 then 4 else if wv tx p l = 197748 then 5 else if wv tx p l = 13369 then 6 else 1
def LX (tx : Nat → Nat) (N : Nat) : Nat → Nat → List (Nat × Nat) → Prop
  | 0, p, L => p = N ∧ L = []
  | f + 1, p, L => (p = N ∧ L = []) ∨ (p < N ∧ tx p = 32 ∧ LX tx N f (p + 1) L) ∨ (∃ l L', p < N ∧ wrun tx N p l ∧ L = (wcd tx p l, p) :: L' ∧ LX tx N f (p + l) L') ∨ (∃ L', p < N ∧ sml (tx p) = false ∧ ¬ tx p = 32 ∧ L = (sgn (tx p), p) :: L' ∧ LX tx N f (p + 1) L')
theorem LX_le {tx : Nat → Nat} {N : Nat} : ∀ {f p : Nat} {L : List (Nat × Nat)}, LX tx N f p L → p ≤ N
  | 0, p, L, h => by have := h.1; omega
  | f + 1, p, L, h => by
    rcases h with h | h | ⟨l, L', h, _⟩ | ⟨L', h, _⟩
    · omega
    · omega
    · omega
    · omega
def Cur (tx : Nat → Nat) (N : Nat) (a k s : Int32) : List (Nat × Nat) → Prop
  | [] => a = nI N ∧ k = nI 0 ∧ s = nI N
  | (c, q) :: L => (0 < c ∧ c < 25) ∧ k = nI c ∧ s = nI q ∧ ∃ f p, a = nI p ∧ LX tx N f p L
theorem sgn_rng : ∀ c, 0 < sgn c ∧ sgn c < 25 := by
  intro c
  unfold sgn
  (repeat' split) <;> omega
theorem wcd_rng (tx : Nat → Nat) (p l : Nat) : 0 < wcd tx p l ∧ wcd tx p l < 25 := by
  unfold wcd
  (repeat' split) <;> omega
theorem mlet_eq : ∀ c, c < 256 → f_X8_isLetter (nI c) = some (if sml c = true then 1 else 0) := by decide +kernel
theorem msgn_eq : ∀ c, c < 256 → f_X8_signOf (nI c) = some (nI (sgn c)) := by decide +kernel
theorem csml_eq : ∀ c, c < 256 → f_X3_isSmall (nI c) = some (if sml c = true then 1 else 0) := by decide +kernel
theorem csgn_eq : ∀ c, c < 256 → f_X3_isSign (nI c) = some (if sgn c = 1 then 0 else 1) := by decide +kernel
theorem csgn_t : ∀ c, c < 256 → ¬ sgn c = 1 → cC (sgn c) = c := by decide +kernel
theorem f10 : (if false = true then (1 : Int32) else 0) = 0 := rfl
theorem sml_b {c : Nat} (h : sml c = true) : 97 ≤ c ∧ c ≤ 122 := of_decide_eq_true h
-- words, reference side
theorem lNa (a b : Nat) : lN a + lN b = lN (a + b) := (Int64.ofNat_add a b).symm
theorem lNm (a b : Nat) : lN a * lN b = lN (a * b) := (Int64.ofNat_mul a b).symm
theorem digL {v c : Nat} (hc : 97 ≤ c) (h2 : c ≤ 122) : ((((32 : Int64) * lN v) + (nI c).toInt64) - (97 : Int64)) + (1 : Int64) = lN (32 * v + (c - 96)) := by
  rw [nI_l (by omega), show (32 : Int64) = lN 32 from rfl, lNm, lNa, show 32 * v + c = (32 * v + (c - 97)) + 97 by omega, ← lNa _ 97, show (97 : Int64) = lN 97 from rfl, Int64.add_sub_cancel, show (1 : Int64) = lN 1 from rfl, lNa]
  congr 1
  omega
theorem wv_s (tx : Nat → Nat) (p l : Nat) : wv tx p (l + 1) = 32 * wv tx p l + (tx (p + l) - 96) := by
  unfold wv
  rw [fo_last, Nat.zero_add]
theorem wv_b {tx : Nat → Nat} {p : Nat} : ∀ {l : Nat}, (∀ i, i < l → sml (tx (p + i)) = true) → wv tx p l < 32 ^ l
  | 0, _ => show 0 < 32 ^ 0 by decide
  | l + 1, h => by
    rw [wv_s, Nat.pow_succ]
    have h1 := wv_b (l := l) (fun i hi => h i (by omega))
    have h2 := sml_b (h l (by omega))
    omega
theorem lN_eqI {a b : Nat} (ha : a < 2 ^ 63) (hb : b < 2 ^ 63) : lN a = lN b ↔ a = b := by
  constructor
  · intro h
    have e : (lN a).toInt = (lN b).toInt := by rw [h]
    rw [show (lN a).toInt = a from Int64.toInt_ofNat_of_lt ha, show (lN b).toInt = b from Int64.toInt_ofNat_of_lt hb] at e
    omega
  · intro h; rw [h]
theorem lN_ltI {a b : Nat} (ha : a < 2 ^ 63) (hb : b < 2 ^ 63) : lN a < lN b ↔ a < b := by
  rw [Int64.lt_iff_toInt_lt, show (lN a).toInt = a from Int64.toInt_ofNat_of_lt ha, show (lN b).toInt = b from Int64.toInt_ofNat_of_lt hb]
  omega
theorem jw71 (st : Int32) (tt : Nat → Int32) (a : Int32) {v : Nat} (hv : v < 2 ^ 40) : jn_X8_wordOf_71 st tt a (lN v) = some (nI (if v = 46892851 then 2 else if v = 294 then 3 else if v = 663726 then 4 else if v = 197748 then 5 else if v = 13369 then 6 else 1)) := by
  unfold jn_X8_wordOf_71
  have e : ∀ c : Nat, c < 2 ^ 63 → (lN v = lN c ↔ v = c) := fun c hc => lN_eqI (by omega) hc
  by_cases h1 : v = 46892851
  · rw [if_pos (show lN v = (46892851 : Int64) from (e 46892851 (by decide)).mpr h1), if_pos h1]; rfl
  rw [if_neg (show ¬ lN v = (46892851 : Int64) from fun z => h1 ((e 46892851 (by decide)).mp z)), if_neg h1]
  by_cases h2 : v = 294
  · rw [if_pos (show lN v = (294 : Int64) from (e 294 (by decide)).mpr h2), if_pos h2]; rfl
  rw [if_neg (show ¬ lN v = (294 : Int64) from fun z => h2 ((e 294 (by decide)).mp z)), if_neg h2]
  by_cases h3 : v = 663726
  · rw [if_pos (show lN v = (663726 : Int64) from (e 663726 (by decide)).mpr h3), if_pos h3]; rfl
  rw [if_neg (show ¬ lN v = (663726 : Int64) from fun z => h3 ((e 663726 (by decide)).mp z)), if_neg h3]
  by_cases h4 : v = 197748
  · rw [if_pos (show lN v = (197748 : Int64) from (e 197748 (by decide)).mpr h4), if_pos h4]; rfl
  rw [if_neg (show ¬ lN v = (197748 : Int64) from fun z => h4 ((e 197748 (by decide)).mp z)), if_neg h4]
  by_cases h5 : v = 13369
  · rw [if_pos (show lN v = (13369 : Int64) from (e 13369 (by decide)).mpr h5), if_pos h5]; rfl
  rw [if_neg (show ¬ lN v = (13369 : Int64) from fun z => h5 ((e 13369 (by decide)).mp z)), if_neg h5]; rfl
theorem jw49 (st : Int32) (tt : Nat → Int32) (a : Int32) {v : Nat} (hv : v < 2 ^ 40) : jn_X8_wordOf_49 st tt a (lN v) = some (nI (if 1 ≤ v ∧ v ≤ 6 then 9 + v else if v = 46892851 then 2 else if v = 294 then 3 else if v = 663726 then 4 else if v = 197748 then 5 else if v = 13369 then 6 else 1)) := by
  unfold jn_X8_wordOf_49
  by_cases h1 : v < 1
  · rw [if_pos (show lN v < (1 : Int64) from (lN_ltI (by omega) (by decide)).mpr h1), if_neg (by omega)]
    exact jw71 st tt a hv
  rw [if_neg (show ¬ lN v < (1 : Int64) from fun z => h1 ((lN_ltI (by omega) (by decide)).mp z))]
  by_cases h2 : 6 < v
  · rw [if_pos (show (6 : Int64) < lN v from (lN_ltI (by decide) (by omega)).mpr h2), if_neg (by omega)]
    exact jw71 st tt a hv
  rw [if_neg (show ¬ (6 : Int64) < lN v from fun z => h2 ((lN_ltI (by decide) (by omega)).mp z)), if_pos (by omega)]
  exact (by decide +kernel : ∀ v, v < 7 → ¬ v < 1 → some (((10 : Int32) + (lN v).toInt32) - (1 : Int32)) = some (nI (9 + v))) v (by omega) h1
theorem wordOf_eq {tx : Nat → Nat} {N p l : Nat} (hN : N ≤ 400) (tt : Nat → Int32) (ht : ∀ i, i < N → tt i = nI (tx i)) (hw : wrun tx N p l) : f_X8_wordOf (nI p) tt (nI l) = some (nI (wcd tx p l)) := by
  obtain ⟨h0, h1, h2, h3⟩ := hw
  unfold f_X8_wordOf wcd
  by_cases h7 : 7 ≤ l
  · rw [if_pos h7, fu_eq, lp_X8_wordOf_5, if_neg (by rw [i0, nle (by omega) (by decide)]; omega), if_pos (by rw [i7, nle (by decide) (by omega)]; exact h7)]
    exact jw49 _ _ _ (v := 0) (by decide)
  · rw [if_neg h7]
    have step : ∀ (c i n : Nat), i + c = l → c < n → lp_X8_wordOf_5 (nI p) tt (nI l) n (lN (wv tx p i)) (nI i) = jn_X8_wordOf_49 (nI p) tt (nI l) (lN (wv tx p l)) := by
      intro c
      induction c with
      | zero =>
        intro i n hi hn
        obtain ⟨n, rfl⟩ : ∃ q, n = q + 1 := ⟨n - 1, by omega⟩
        obtain rfl : i = l := by omega
        rw [lp_X8_wordOf_5, if_pos (by rw [nle (by omega) (by omega)]; exact Nat.le_refl _)]
      | succ c ih =>
        intro i n hi hn
        obtain ⟨n, rfl⟩ : ∃ q, n = q + 1 := ⟨n - 1, by omega⟩
        have hb := sml_b (h2 i (by omega))
        rw [lp_X8_wordOf_5, if_neg (by rw [nle (by omega) (by omega)]; omega), if_neg (by rw [i7, nle (by decide) (by omega)]; omega), nI_add, gdi (by omega) (by decide), clp (by omega), ht _ (by omega), lt_y, lt_y, nI_s, digL hb.1 hb.2, ← wv_s]
        exact ih (i + 1) n (by omega) (by omega)
    refine (step l 0 fu (by omega) (by rw [fu_eq]; omega)).trans (jw49 _ _ _ ?_)
    have hb := wv_b (l := l) h2
    have : (32 : Nat) ^ l ≤ 32 ^ 6 := Nat.pow_le_pow_right (by decide) (by omega)
    omega
theorem scan105 {tx : Nat → Nat} {N p l : Nat} (hN : N ≤ 400) (tt : Nat → Int32) (ht : ∀ i, i < N → tt i = nI (tx i)) (hx : ∀ i, i < N → tx i < 256) (hw : wrun tx N p l) (tk : Int32) : ∀ (c i n : Nat), i + c = l → c < n → lp_X8_scans_105 (nI N) tt tk (nI p) n (nI (p + i)) = some (nI (p + l), nI (wcd tx p l), nI p)
  | 0, i, n, h, hn => by
    obtain ⟨n, rfl⟩ : ∃ q, n = q + 1 := ⟨n - 1, by omega⟩
    obtain rfl : i = l := by omega
    have e : jn_X8_scans_144 (nI N) tt (nI (p + i)) tk (nI p) = some (nI (p + i), nI (wcd tx p i), nI p) := by
      unfold jn_X8_scans_144
      rw [nI_sub (by omega), show p + i - p = i by omega, wordOf_eq hN tt ht hw, bd_s]
    obtain ⟨h0, h1, h2, h3⟩ := hw
    rw [lp_X8_scans_105]
    by_cases he : N ≤ p + i
    · rw [if_pos (by rw [nle (by omega) (by omega)]; exact he)]; exact e
    · rw [if_neg (by rw [nle (by omega) (by omega)]; exact he), gdi (by omega) (by decide), clp (by omega), ht _ (by omega), mlet_eq _ (hx _ (by omega)), bd_s, h3 (by omega), if_pos f10]; exact e
  | c + 1, i, n, h, hn => by
    obtain ⟨n, rfl⟩ : ∃ q, n = q + 1 := ⟨n - 1, by omega⟩
    have ih := scan105 hN tt ht hx hw tk c (i + 1) n (by omega) (by omega)
    obtain ⟨h0, h1, h2, h3⟩ := hw
    rw [lp_X8_scans_105, if_neg (by rw [nle (by omega) (by omega)]; omega), gdi (by omega) (by decide), clp (by omega), ht _ (by omega), mlet_eq _ (hx _ (by omega)), bd_s, h2 i (by omega), if_pos rfl, if_neg z10, lt_y, nI_s]
    exact ih
theorem scan0 {tx : Nat → Nat} {N : Nat} (hN : N ≤ 400) (tt : Nat → Int32) (ht : ∀ i, i < N → tt i = nI (tx i)) (hx : ∀ i, i < N → tx i < 256) (tk st : Int32) : ∀ (f p n : Nat) (L : List (Nat × Nat)), LX tx N f p L → N - p < n → ∃ a k s, lp_X8_scans_0 (nI N) tt tk st n (nI p) = some (a, k, s) ∧ Cur tx N a k s L := by
  have fin : ∀ (p n : Nat), p = N → 0 < n → ∃ a k s, lp_X8_scans_0 (nI N) tt tk st n (nI p) = some (a, k, s) ∧ Cur tx N a k s [] := by
    intro p n hp hn
    obtain ⟨n, rfl⟩ : ∃ q, n = q + 1 := ⟨n - 1, by omega⟩
    subst hp
    rw [lp_X8_scans_0, if_pos (by rw [nle (by omega) (by omega)]; exact Nat.le_refl _)]
    unfold jn_X8_scans_38
    rw [if_pos rfl]
    exact ⟨_, _, _, rfl, rfl, rfl, rfl⟩
  intro f
  induction f with
  | zero =>
    intro p n L h hn
    obtain ⟨hp, rfl⟩ := h
    exact fin p n hp (by omega)
  | succ f ih =>
    intro p n L h hn
    rcases h with ⟨hp, rfl⟩ | ⟨hp, h32, h⟩ | ⟨l, L', hp, hw, rfl, h⟩ | ⟨L', hp, hs, h32, rfl, h⟩
    · exact fin p n hp (by omega)
    · obtain ⟨n, rfl⟩ : ∃ q, n = q + 1 := ⟨n - 1, by omega⟩
      rw [lp_X8_scans_0, if_neg (by rw [nle (by omega) (by omega)]; omega), gdi (by omega) (by decide), clp (by omega), ht p hp, h32, if_pos (by decide), lt_y, nI_s]
      exact ih (p + 1) n L h (by omega)
    · obtain ⟨n, rfl⟩ : ∃ q, n = q + 1 := ⟨n - 1, by omega⟩
      have hs := hw.2.2.1 0 hw.1
      rw [Nat.add_zero] at hs
      have hb := sml_b hs
      rw [lp_X8_scans_0, if_neg (by rw [nle (by omega) (by omega)]; omega), gdi (by omega) (by decide), clp (by omega), ht p hp, if_neg (by rw [show (32 : Int32) = nI 32 from rfl, neq (by omega) (by decide)]; omega)]
      unfold jn_X8_scans_38
      rw [if_neg (by rw [neq (by omega) (by omega)]; omega), gdi (by omega) (by decide), clp (by omega), ht p hp, mlet_eq _ (hx p hp), bd_s, hs, if_pos rfl, if_neg z10]
      have e := scan105 hN tt ht hx hw tk l 0 fu (by omega) (by rw [fu_eq]; have := hw.2.1; omega)
      rw [Nat.add_zero] at e
      rw [e]
      exact ⟨_, _, _, rfl, wcd_rng tx p l, rfl, rfl, f, p + l, rfl, h⟩
    · obtain ⟨n, rfl⟩ : ∃ q, n = q + 1 := ⟨n - 1, by omega⟩
      have hb := hx p hp
      rw [lp_X8_scans_0, if_neg (by rw [nle (by omega) (by omega)]; omega), gdi (by omega) (by decide), clp (by omega), ht p hp, if_neg (by rw [show (32 : Int32) = nI 32 from rfl, neq (by omega) (by decide)]; omega)]
      unfold jn_X8_scans_38
      rw [if_neg (by rw [neq (by omega) (by omega)]; omega), gdi (by omega) (by decide), clp (by omega), ht p hp, mlet_eq _ hb, bd_s, hs, if_pos f10, gdi (by omega) (by decide), msgn_eq _ hb, bd_s, lt_y, nI_s]
      exact ⟨_, _, _, rfl, sgn_rng _, rfl, rfl, f, p + 1, rfl, h⟩
/-- the next token -/
theorem scan_next {tx : Nat → Nat} {N : Nat} (hN : N ≤ 400) (tt : Nat → Int32) (ht : ∀ i, i < N → tt i = nI (tx i)) (hx : ∀ i, i < N → tx i < 256) {a k s : Int32} {x : Nat × Nat} {L : List (Nat × Nat)} (h : Cur tx N a k s (x :: L)) : ∃ a' k' s', f_X8_scans (nI N) a k s tt = some (a', k', s') ∧ Cur tx N a' k' s' L := by
  obtain ⟨c, q⟩ := x
  obtain ⟨_, _, _, f, p, rfl, hl⟩ := h
  exact scan0 hN tt ht hx k s f p fu L hl (by rw [fu_eq]; omega)
theorem scan_first {tx : Nat → Nat} {N : Nat} (hN : N ≤ 400) (tt : Nat → Int32) (ht : ∀ i, i < N → tt i = nI (tx i)) (hx : ∀ i, i < N → tx i < 256) {f : Nat} {L : List (Nat × Nat)} (h : LX tx N f 0 L) (k s : Int32) : ∃ a' k' s', f_X8_scans (nI N) 0 k s tt = some (a', k', s') ∧ Cur tx N a' k' s' L :=
  scan0 hN tt ht hx k s f 0 fu L h (by rw [fu_eq]; omega)
