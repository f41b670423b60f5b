-- ===== ends: all of them =====
def alF (p : Nat → Bool) : Nat → Nat → Bool
  | 0, _ => true
  | c + 1, i => p i && alF p c (i + 1)
theorem alF_congr {p q : Nat → Bool} : ∀ (c i : Nat), (∀ j, i ≤ j → j < i + c → p j = q j) → alF p c i = alF q c i
  | 0, _, _ => rfl
  | c + 1, i, h => by
    show (p i && alF p c (i + 1)) = (q i && alF q c (i + 1))
    rw [h i (Nat.le_refl i) (by omega), alF_congr c (i + 1) (fun j h1 h2 => h j (by omega) (by omega))]
def pW (w t : Nat → Int64) (set : Int32) (left : Int64) (r : Nat) : Bool := bt set r || !(decide (left &&& (w r ^^^ (-1)) = 0) && !decide (left &&& t r = 0))
theorem pW3 {w t : Nat → Int64} {set : Int32} {left : Int64} {r : Nat} (h : bt set r = true) : pW w t set left r = true := by unfold pW; rw [h]; rfl
theorem pW1 {w t : Nat → Int64} {set : Int32} {left : Int64} {r : Nat} (h : ¬ (left &&& (w r ^^^ (-1))) = 0) : pW w t set left r = true := by unfold pW; rw [decide_eq_false h]; cases bt set r <;> rfl
theorem pW2 {w t : Nat → Int64} {set : Int32} {left : Int64} {r : Nat} (h : (left &&& t r) = 0) : pW w t set left r = true := by unfold pW; rw [decide_eq_true h]; cases bt set r <;> cases decide (left &&& (w r ^^^ (-1)) = 0) <;> rfl
theorem pW0 {w t : Nat → Int64} {set : Int32} {left : Int64} {r : Nat} (h3 : bt set r = false) (h1 : (left &&& (w r ^^^ (-1))) = 0) (h2 : ¬ (left &&& t r) = 0) : pW w t set left r = false := by unfold pW; rw [h3, decide_eq_true h1, decide_eq_false h2]; rfl
theorem wh3 {k : Nat} (hk : k ≤ 8) (w t : Nat → Int64) (set : Int32) (left : Int64) : ∀ (c i n : Nat), i + c = k → c < n → lp_X1_isWhole_3 (nI k) w (nI k) t set left n (nI i) = some (if alF (pW w t set left) c i = true then 1 else 0)
  | 0, i, n, h, hn => by
    obtain ⟨n, rfl⟩ : ∃ q, n = q + 1 := ⟨n - 1, by omega⟩
    rw [lp_X1_isWhole_3, size4_eq, bd_s, if_pos (by rw [nle (by omega) (by omega)]; omega)]
    rfl
  | c + 1, i, n, h, hn => by
    obtain ⟨n, rfl⟩ : ∃ q, n = q + 1 := ⟨n - 1, by omega⟩
    have ih := wh3 hk w t set left c (i + 1) n (by omega) (by omega)
    rw [lp_X1_isWhole_3, size4_eq, bd_s, if_neg (by rw [nle (by omega) (by omega)]; omega), get_eq (by omega) (by omega), bd_s, allIn_eq, bd_s]
    show _ = some (if (pW w t set left i && alF (pW w t set left) c (i + 1)) = true then 1 else 0)
    unfold jn_X1_isWhole_48 jn_X1_isWhole_49
    by_cases h1 : (left &&& (w i ^^^ (-1))) = 0
    · rw [if_pos h1, if_neg z10, get_eq (by omega) (by omega), bd_s]
      by_cases h2 : (left &&& t i) = 0
      · rw [if_pos h2, if_pos rfl, lt_y, nI_s, pW2 h2, Bool.true_and]
        exact ih
      · rw [if_neg h2, if_neg z10, inSet_eq _ (by omega), bd_s]
        by_cases h3 : bt set i = true
        · rw [if_pos h3, if_neg z10, lt_y, nI_s, pW3 h3, Bool.true_and]
          exact ih
        · rw [if_neg h3, if_pos rfl]
          have h3' : bt set i = false := by cases hh : bt set i; rfl; exact absurd hh h3
          rw [pW0 h3' h1 h2, Bool.false_and]
          rfl
    · rw [if_neg h1, if_pos rfl, if_pos rfl, lt_y, nI_s, pW1 h1, Bool.true_and]
      exact ih
theorem isWhole_eq {k : Nat} (hk : k ≤ 8) (w t : Nat → Int64) (set : Int32) (left : Int64) : f_X1_isWhole (nI k) w (nI k) t set left = some (if alF (pW w t set left) k 0 = true then 1 else 0) := wh3 hk w t set left k 0 fu (by omega) (by rw [fu_eq]; omega)
theorem en22 {k : Nat} (hk : k ≤ 8) (said : Nat → Int64) (many : Nat → Int32) (hm : many 1 = nI k) (set : Int32) (left : Int64) : ∀ (c i n : Nat), i + c = k → c < n → lp_X8_isEnd_22 said many set left n 1 (nI i) = some (if alF (pW (fun i => said (9 + i)) (fun i => said (18 + i)) set left) c i = true then 1 else 0)
  | 0, i, n, h, hn => by
    obtain ⟨n, rfl⟩ : ∃ q, n = q + 1 := ⟨n - 1, by omega⟩
    rw [lp_X8_isEnd_22, gd1, m1c, hm, if_pos (by rw [nle (by omega) (by omega)]; omega), gd_y zb_1]
    rfl
  | c + 1, i, n, h, hn => by
    obtain ⟨n, rfl⟩ : ∃ q, n = q + 1 := ⟨n - 1, by omega⟩
    have ih := en22 hk said many hm set left c (i + 1) n (by omega) (by omega)
    rw [lp_X8_isEnd_22, gd1, m1c, hm, if_neg (by rw [nle (by omega) (by omega)]; omega), if_neg z10]
    show _ = some (if (pW (fun i => said (9 + i)) (fun i => said (18 + i)) set left i && alF (pW (fun i => said (9 + i)) (fun i => said (18 + i)) set left) c (i + 1)) = true then 1 else 0)
    by_cases h3 : bt set i = true
    · rw [if_pos ((sr1 set (by omega)).mpr h3), lt_y, nI_s, pW3 h3, Bool.true_and]
      exact ih
    · have h3' : bt set i = false := by cases hh : bt set i; rfl; exact absurd hh h3
      rw [if_neg (fun z => h3 ((sr1 set (by omega)).mp z)), ad9, gdi (by omega) (by decide), clp (by omega)]
      by_cases h1 : (left &&& (said (9 + i) ^^^ (-1))) = 0
      · rw [if_pos h1, ad18, gdi (by omega) (by decide), clp (by omega)]
        by_cases h2 : (left &&& said (18 + i)) = 0
        · rw [if_pos h2, lt_y, nI_s, pW2 (w := fun i => said (9 + i)) (t := fun i => said (18 + i)) h2, Bool.true_and]
          exact ih
        · rw [if_neg h2, lt_y, nI_s]
          rw [pW0 (w := fun i => said (9 + i)) (t := fun i => said (18 + i)) h3' h1 h2, Bool.false_and]
          obtain ⟨n, rfl⟩ : ∃ q, n = q + 1 := ⟨n - 1, by omega⟩
          rw [lp_X8_isEnd_22, gd1, m1c, hm]
          by_cases h4 : nI k ≤ nI (i + 1)
          · rw [if_pos h4, gd_y zb_0]; rfl
          · rw [if_neg h4, if_pos rfl, gd_y zb_0]; rfl
      · rw [if_neg h1, lt_y, nI_s, pW1 (w := fun i => said (9 + i)) (t := fun i => said (18 + i)) h1, Bool.true_and]
        exact ih
def LB (k : Nat) (w t : Nat → Int64) (g : Int64) (s : Nat) : Int64 := (f_X1_takenOn (nI k) w (nI k) t (nI s) g).getD 0
def EN (k : Nat) (w t : Nat → Int64) (g : Int64) (s : Nat) : Bool := !decide (LB k w t g s = 0) && alF (pW w t (nI s) (LB k w t g s)) k 0
theorem LB_eq {k : Nat} (hk : k ≤ 8) {w t : Nat → Int64} {said : Nat → Int64} {many : Nat → Int32} (hm : many 1 = nI k) (hw : ∀ i, i < k → w i = said (9 + i)) (ht : ∀ i, i < k → t i = said (18 + i)) {s : Nat} (hs : s < 2 ^ k) {g : Int64} (hg : f_X8_groundNow said many = some g) : f_X1_takenOn (nI k) w (nI k) t (nI s) g = some (LB k w t g s) ∧ f_X8_leftBy said many (nI s) = some (LB k w t g s) := by
  obtain ⟨v, h1, h2⟩ := takenOn_eq hk hm hw ht hs hg
  have : LB k w t g s = v := by unfold LB; rw [h1]; rfl
  rw [this]
  exact ⟨h1, h2⟩
theorem isEnd_eq {k : Nat} (hk : k ≤ 8) {w t : Nat → Int64} {said : Nat → Int64} {many : Nat → Int32} (hm : many 1 = nI k) (hw : ∀ i, i < k → w i = said (9 + i)) (ht : ∀ i, i < k → t i = said (18 + i)) {s : Nat} (hs : s < 2 ^ k) {g : Int64} (hg : f_X8_groundNow said many = some g) : f_X8_isEnd said many (nI s) = some (if EN k w t g s = true then 1 else 0) := by
  have h2 := (LB_eq hk hm hw ht hs hg).2
  unfold f_X8_isEnd EN
  rw [h2, bd_s]
  by_cases h0 : LB k w t g s = 0
  · rw [if_pos h0, fu_eq, lp_X8_isEnd_22, gd1, m1c, hm]
    have : (!decide (LB k w t g s = 0) && alF (pW w t (nI s) (LB k w t g s)) k 0) = false := by simp [h0]
    rw [this]
    by_cases h4 : nI k ≤ (0 : Int32)
    · rw [if_pos h4, gd_y zb_0]; rfl
    · rw [if_neg h4, if_pos rfl, gd_y zb_0]; rfl
  · rw [if_neg h0]
    have e := en22 hk said many hm (nI s) (LB k w t g s) k 0 fu (by omega) (by rw [fu_eq]; omega)
    refine e.trans ?_
    rw [alF_congr (q := pW w t (nI s) (LB k w t g s)) k 0 (fun j _ hj => by unfold pW; rw [hw j (by omega), ht j (by omega)])]
    have : (!decide (LB k w t g s = 0) && alF (pW w t (nI s) (LB k w t g s)) k 0) = alF (pW w t (nI s) (LB k w t g s)) k 0 := by simp [h0]
    rw [this]
def enL (p : Nat → Bool) : Nat → Nat → List Nat
  | 0, _ => []
  | c + 1, i => if p i = true then i :: enL p c (i + 1) else enL p c (i + 1)
theorem enL_len (p : Nat → Bool) : ∀ c i, (enL p c i).length ≤ c
  | 0, _ => Nat.le_refl 0
  | c + 1, i => by
    have := enL_len p c (i + 1)
    unfold enL
    by_cases h : p i = true
    · rw [if_pos h, List.length_cons]; omega
    · rw [if_neg h]; omega
theorem enL_lt (p : Nat → Bool) : ∀ c i a, a ∈ enL p c i → a < i + c ∧ p a = true
  | 0, _, _, h => by cases h
  | c + 1, i, a, h => by
    unfold enL at h
    by_cases hp : p i = true
    · rw [if_pos hp] at h
      rcases List.mem_cons.mp h with h | h
      · subst h; exact ⟨by omega, hp⟩
      · have := enL_lt p c (i + 1) a h; exact ⟨by omega, this.2⟩
    · rw [if_neg hp] at h
      have := enL_lt p c (i + 1) a h; exact ⟨by omega, this.2⟩
theorem exit_ush {k i : Nat} (hk : k ≤ 8) (h : i = 2 ^ k) (hlt : i < 256) : ¬ ushI (nI i) (nI k) = (0 : Int32) := by
  rw [ush_z (by omega) (by omega)]; omega
theorem pow8 {k : Nat} (hk : k ≤ 8) : 2 ^ k ≤ 256 := Nat.pow_le_pow_right (by decide) hk
theorem find8 {k : Nat} (hk : k ≤ 8) (w t : Nat → Int64) (g : Int64) (hT : ∀ s, s < 2 ^ k → f_X1_takenOn (nI k) w (nI k) t (nI s) g = some (LB k w t g s)) : ∀ (c i m n : Nat) (sets : Nat → Int32) (lefts : Nat → Int64), i + c = 2 ^ k → c < n → m ≤ i →
    ∃ (sets' : Nat → Int32) (lefts' : Nat → Int64), lp_X1_find_8 (nI k) w (nI k) t g n (nI m) sets lefts (nI i) = some (nI (m + (enL (EN k w t g) c i).length), sets', lefts') ∧ (∀ j, j < m → sets' j = sets j ∧ lefts' j = lefts j) ∧ ∀ j, j < (enL (EN k w t g) c i).length → sets' (m + j) = nI ((enL (EN k w t g) c i).getD j 0) ∧ lefts' (m + j) = LB k w t g ((enL (EN k w t g) c i).getD j 0) := by
  intro c
  induction c with
  | zero =>
    intro i m n sets lefts h hn hmi
    obtain ⟨n, rfl⟩ : ∃ q, n = q + 1 := ⟨n - 1, by omega⟩
    have h8 := pow8 hk
    refine ⟨sets, lefts, ?_, fun j _ => ⟨rfl, rfl⟩, fun j hj => absurd hj (Nat.not_lt_zero j)⟩
    rw [lp_X1_find_8]
    by_cases h1 : (256 : Int32) ≤ nI i
    · rw [if_pos h1]; rfl
    · rw [if_neg h1, size4_eq, bd_s, if_neg (exit_ush hk (by omega) (by rw [i256, nle (by decide) (by omega)] at h1; omega))]; rfl
  | succ c ih =>
    intro i m n sets lefts h hn hmi
    obtain ⟨n, rfl⟩ : ∃ q, n = q + 1 := ⟨n - 1, by omega⟩
    have h8 := pow8 hk
    rw [lp_X1_find_8, if_neg (by rw [i256, nle (by decide) (by omega)]; omega), size4_eq, bd_s, if_pos ((ush_z (by omega) (by omega)).mpr (by omega)), hT i (by omega), bd_s]
    unfold enL
    by_cases h0 : LB k w t g i = 0
    · have hE : ¬ EN k w t g i = true := by unfold EN; simp [h0]
      rw [if_pos h0, lt_y, nI_s, if_neg hE]
      exact ih (i + 1) m n sets lefts (by omega) (by omega) (by omega)
    · rw [if_neg h0, isWhole_eq hk, bd_s]
      by_cases h1 : alF (pW w t (nI i) (LB k w t g i)) k 0 = true
      · have hE : EN k w t g i = true := by unfold EN; simp [h0, h1]
        rw [if_pos h1, if_neg z10, if_pos hE]
        have ea : f_X1_add (nI m) sets lefts (nI i) (LB k w t g i) = some (nI (m + 1), upd sets m (nI i), vp_updL lefts m (LB k w t g i)) := by
          unfold f_X1_add
          rw [if_neg (by rw [i256, nle (by decide) (by omega)]; omega), if_neg (by rw [i256, nle (by decide) (by omega)]; omega), gdi (by omega) (by decide), gdi (by omega) (by decide), lt_y, nI_s, clp (by omega)]
        rw [ea, bd_s, lt_y, nI_s]
        obtain ⟨s', l', e1, e2, e3⟩ := ih (i + 1) (m + 1) n (upd sets m (nI i)) (vp_updL lefts m (LB k w t g i)) (by omega) (by omega) (by omega)
        refine ⟨s', l', ?_, fun j hj => ?_, fun j hj => ?_⟩
        · rw [List.length_cons, show m + ((enL (EN k w t g) c (i + 1)).length + 1) = m + 1 + (enL (EN k w t g) c (i + 1)).length by omega]
          exact e1
        · obtain ⟨a, b⟩ := e2 j (by omega)
          rw [a, b, pk_un (by omega), pk_uLn (by omega)]
          exact ⟨rfl, rfl⟩
        · cases j with
          | zero =>
            obtain ⟨a, b⟩ := e2 m (by omega)
            rw [Nat.add_zero, a, b, pk_us, pk_uLs]
            exact ⟨rfl, rfl⟩
          | succ j =>
            rw [List.length_cons] at hj
            obtain ⟨a, b⟩ := e3 j (by omega)
            rw [show m + (j + 1) = m + 1 + j by omega, a, b]
            exact ⟨rfl, rfl⟩
      · have hE : ¬ EN k w t g i = true := by unfold EN; simp [h1]
        rw [if_neg h1, if_pos rfl, lt_y, nI_s, if_neg hE]
        exact ih (i + 1) m n sets lefts (by omega) (by omega) (by omega)
def EL (k : Nat) (w t : Nat → Int64) (g : Int64) : List Nat := enL (EN k w t g) (2 ^ k) 0
theorem EL_len {k : Nat} (hk : k ≤ 8) (w t : Nat → Int64) (g : Int64) : (EL k w t g).length ≤ 256 := Nat.le_trans (enL_len _ _ _) (pow8 hk)
theorem EL_lt {k : Nat} {w t : Nat → Int64} {g : Int64} {a : Nat} (h : a ∈ EL k w t g) : a < 2 ^ k := by
  have := (enL_lt _ _ _ _ h).1
  omega
theorem EL_getD {k : Nat} {w t : Nat → Int64} {g : Int64} {j : Nat} (h : j < (EL k w t g).length) : (EL k w t g).getD j 0 < 2 ^ k := by
  apply EL_lt (w := w) (t := t) (g := g)
  rw [List.getD_eq_getElem?_getD, List.getElem?_eq_getElem h]
  exact List.getElem_mem h
theorem find_eq {k : Nat} (hk : k ≤ 8) (w t : Nat → Int64) (g : Int64) (hT : ∀ s, s < 2 ^ k → f_X1_takenOn (nI k) w (nI k) t (nI s) g = some (LB k w t g s)) (z : Int32) (sets : Nat → Int32) (lefts : Nat → Int64) :
    ∃ (sets' : Nat → Int32) (lefts' : Nat → Int64), f_X1_find z sets lefts (nI k) w (nI k) t g = some (nI (EL k w t g).length, sets', lefts') ∧ ∀ j, j < (EL k w t g).length → sets' j = nI ((EL k w t g).getD j 0) ∧ lefts' j = LB k w t g ((EL k w t g).getD j 0) := by
  have h8 := pow8 hk
  obtain ⟨s', l', e1, -, e3⟩ := find8 hk w t g hT (2 ^ k) 0 0 fu sets lefts (by omega) (by rw [fu_eq]; omega) (Nat.le_refl 0)
  refine ⟨s', l', ?_, fun j hj => ?_⟩
  · rw [Nat.zero_add] at e1
    exact e1
  · have := e3 j hj
    rw [Nat.zero_add] at this
    exact this
-- the reference's search
def fE (x : Int32) : Nat → List Nat → Int32
  | m, [] => if (0 : Int32) ≤ x then -1 else nI m
  | m, a :: L => if nI m = x then nI a else fE x (m + 1) L
theorem fnd4 {k : Nat} (hk : k ≤ 8) (said : Nat → Int64) (many : Nat → Int32) (hm : many 1 = nI k) (p : Nat → Bool) (hp : ∀ s, s < 2 ^ k → f_X8_isEnd said many (nI s) = some (if p s = true then 1 else 0)) (x : Int32) : ∀ (c i m n : Nat), i + c = 2 ^ k → c < n → lp_X8_findEnd_4 said many x n (nI m) (nI i) = some (fE x m (enL p c i))
  | 0, i, m, n, h, hn => by
    obtain ⟨n, rfl⟩ : ∃ q, n = q + 1 := ⟨n - 1, by omega⟩
    have h8 := pow8 hk
    rw [lp_X8_findEnd_4, gd1, m1c, hm, pow_one k (by omega), if_pos (by rw [nle (by omega) (by omega)]; omega)]
    unfold jn_X8_findEnd_40
    show _ = some (if (0 : Int32) ≤ x then -1 else nI m)
    by_cases h0 : (0 : Int32) ≤ x
    · rw [if_pos h0, if_pos h0]
    · rw [if_neg h0, if_neg h0]
  | c + 1, i, m, n, h, hn => by
    obtain ⟨n, rfl⟩ : ∃ q, n = q + 1 := ⟨n - 1, by omega⟩
    have h8 := pow8 hk
    rw [lp_X8_findEnd_4, gd1, m1c, hm, pow_one k (by omega), if_neg (by rw [nle (by omega) (by omega)]; omega), hp i (by omega), bd_s]
    unfold enL
    by_cases hpi : p i = true
    · rw [if_pos hpi, if_neg z10, if_pos hpi]
      show _ = some (if nI m = x then nI i else fE x (m + 1) (enL p c (i + 1)))
      by_cases hx : nI m = x
      · rw [if_pos hx, if_pos hx]
      · rw [if_neg hx, if_neg hx, lt_y, lt_y, nI_s, nI_s]
        exact fnd4 hk said many hm p hp x c (i + 1) (m + 1) n (by omega) (by omega)
    · rw [if_neg hpi, if_pos rfl, lt_y, nI_s, if_neg hpi]
      exact fnd4 hk said many hm p hp x c (i + 1) m n (by omega) (by omega)
theorem fE_neg : ∀ (L : List Nat) (m : Nat), m + L.length < 2 ^ 30 → fE (-1) m L = nI (m + L.length)
  | [], m, _ => by
    show (if (0 : Int32) ≤ -1 then (-1 : Int32) else nI m) = _
    rw [if_neg (by decide)]; rfl
  | a :: L, m, h => by
    rw [List.length_cons] at h
    show (if nI m = -1 then nI a else fE (-1) (m + 1) L) = _
    rw [if_neg (fun z => by
      have h1 : (nI m).toInt = (-1 : Int32).toInt := by rw [z]
      rw [nI_toInt (by omega)] at h1
      have h2 : (-1 : Int32).toInt = -1 := by decide
      omega), fE_neg L (m + 1) (by omega), List.length_cons]
    congr 1; omega
theorem fE_at : ∀ (L : List Nat) (m j : Nat), m + j < 2 ^ 31 → m + L.length < 2 ^ 31 → fE (nI (m + j)) m L = if j < L.length then nI (L.getD j 0) else -1
  | [], m, j, h, _ => by
    show (if (0 : Int32) ≤ nI (m + j) then (-1 : Int32) else nI m) = _
    rw [if_pos (lnn' h)]; rfl
  | a :: L, m, 0, h, h2 => by
    show (if nI m = nI (m + 0) then nI a else fE (nI (m + 0)) (m + 1) L) = _
    rw [Nat.add_zero, if_pos rfl]; simp
  | a :: L, m, j + 1, h, h2 => by
    rw [List.length_cons] at h2
    show (if nI m = nI (m + (j + 1)) then nI a else fE (nI (m + (j + 1))) (m + 1) L) = _
    rw [if_neg (by rw [neq (by omega) (by omega)]; omega), show m + (j + 1) = m + 1 + j by omega, fE_at L (m + 1) j (by omega) (by omega), List.length_cons]
    by_cases hj : j < L.length
    · rw [if_pos hj, if_pos (by omega)]; rfl
    · rw [if_neg hj, if_neg (by omega)]
-- held
def hN (q : Nat → Bool) : Nat → List Nat → Nat
  | m, [] => m
  | m, a :: L => hN q (if q a = true then m + 1 else m) L
theorem held4 {k : Nat} (hk : k ≤ 8) (th : Int64) (said : Nat → Int64) (many : Nat → Int32) (hm : many 1 = nI k) (p : Nat → Bool) (v : Nat → Int64) (hp : ∀ s, s < 2 ^ k → f_X8_isEnd said many (nI s) = some (if p s = true then 1 else 0)) (hv : ∀ s, s < 2 ^ k → f_X8_leftBy said many (nI s) = some (v s)) : ∀ (c i m n : Nat), i + c = 2 ^ k → c < n → lp_X8_held_4 th said many n (nI m) (nI i) = some (nI (hN (fun s => decide ((v s &&& (th ^^^ (-1))) = 0)) m (enL p c i)))
  | 0, i, m, n, h, hn => by
    obtain ⟨n, rfl⟩ : ∃ q, n = q + 1 := ⟨n - 1, by omega⟩
    have h8 := pow8 hk
    rw [lp_X8_held_4, gd1, m1c, hm, pow_one k (by omega), if_pos (by rw [nle (by omega) (by omega)]; omega)]
    rfl
  | c + 1, i, m, n, h, hn => by
    obtain ⟨n, rfl⟩ : ∃ q, n = q + 1 := ⟨n - 1, by omega⟩
    have h8 := pow8 hk
    have a0 : nI m + 0 = nI m := Int32.add_zero _
    rw [lp_X8_held_4, gd1, m1c, hm, pow_one k (by omega), if_neg (by rw [nle (by omega) (by omega)]; omega), hp i (by omega), bd_s]
    unfold enL
    by_cases hpi : p i = true
    · rw [if_pos hpi, if_neg z10, hv i (by omega), bd_s, if_pos hpi]
      show _ = some (nI (hN _ (if decide ((v i &&& (th ^^^ (-1))) = 0) = true then m + 1 else m) (enL p c (i + 1))))
      by_cases hz : (v i &&& (th ^^^ (-1))) = 0
      · rw [if_pos hz, if_pos (decide_eq_true hz), lt_y, lt_y, nI_s, nI_s]
        exact held4 hk th said many hm p v hp hv c (i + 1) (m + 1) n (by omega) (by omega)
      · rw [if_neg hz, if_neg (by rw [decide_eq_false hz]; decide), lt_y, lt_y, nI_s, a0]
        exact held4 hk th said many hm p v hp hv c (i + 1) m n (by omega) (by omega)
    · rw [if_neg hpi, if_pos rfl, lt_y, lt_y, nI_s, a0, if_neg hpi]
      exact held4 hk th said many hm p v hp hv c (i + 1) m n (by omega) (by omega)
theorem leftAt_eq {z j : Nat} (hz : z ≤ 256) (hj : j < z) (lefts : Nat → Int64) : f_X1_leftAt (nI z) lefts (nI j) = some (lefts j) := by
  unfold f_X1_leftAt
  rw [if_neg (lnn (by omega)), if_neg (by rw [nle (by omega) (by omega)]; omega), if_neg (by rw [i256, nle (by decide) (by omega)]; omega), gdi (by omega) (by decide), clp (by omega)]
theorem holding5 (L : List Nat) (hL : L.length ≤ 256) (th : Int64) (lefts : Nat → Int64) (v : Nat → Int64) (hl : ∀ j, j < L.length → lefts j = v (L.getD j 0)) : ∀ (c i m n : Nat), i + c = L.length → c < n → lp_X1_holding_5 (nI L.length) lefts th n (nI m) (nI i) = some (nI (hN (fun s => decide ((v s &&& (th ^^^ (-1))) = 0)) m (L.drop i)))
  | 0, i, m, n, h, hn => by
    obtain ⟨n, rfl⟩ : ∃ q, n = q + 1 := ⟨n - 1, by omega⟩
    rw [lp_X1_holding_5, if_pos (by rw [nle (by omega) (by omega)]; omega), List.drop_eq_nil_of_le (by omega)]
    rfl
  | c + 1, i, m, n, h, hn => by
    obtain ⟨n, rfl⟩ : ∃ q, n = q + 1 := ⟨n - 1, by omega⟩
    have hi : i < L.length := by omega
    rw [lp_X1_holding_5, if_neg (by rw [nle (by omega) (by omega)]; omega), leftAt_eq hL hi, bd_s, allIn_eq, bd_s, List.drop_eq_getElem_cons hi, hl i hi]
    have eg : L.getD i 0 = L[i] := by rw [List.getD_eq_getElem?_getD, List.getElem?_eq_getElem hi]; rfl
    rw [eg]
    show _ = some (nI (hN _ (if decide ((v L[i] &&& (th ^^^ (-1))) = 0) = true then m + 1 else m) (L.drop (i + 1))))
    by_cases hz : (v L[i] &&& (th ^^^ (-1))) = 0
    · rw [if_pos hz, if_neg z10, if_pos (decide_eq_true hz), lt_y, lt_y, nI_s, nI_s]
      exact holding5 L hL th lefts v hl c (i + 1) (m + 1) n (by omega) (by omega)
    · rw [if_neg hz, if_pos rfl, if_neg (by rw [decide_eq_false hz]; decide), lt_y, nI_s]
      exact holding5 L hL th lefts v hl c (i + 1) m n (by omega) (by omega)
