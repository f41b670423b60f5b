-- ===== my own: folds, loops, bits =====
/-- c steps from i on -/
def fo {α : Type} (f : Nat → α → α) : Nat → Nat → α → α
  | 0, _, a => a
  | c + 1, i, a => fo f c (i + 1) (f i a)
theorem fo_congr {α : Type} {f g : Nat → α → α} : ∀ (c i : Nat) (a : α), (∀ j b, i ≤ j → j < i + c → f j b = g j b) → fo f c i a = fo g c i a
  | 0, _, _, _ => rfl
  | c + 1, i, a, h => by
    show fo f c (i + 1) (f i a) = fo g c (i + 1) (g i a)
    rw [h i a (Nat.le_refl i) (by omega)]
    exact fo_congr c (i + 1) _ (fun j b h1 h2 => h j b (by omega) (by omega))
theorem fo_last {α : Type} (f : Nat → α → α) : ∀ (c i : Nat) (a : α), fo f (c + 1) i a = f (i + c) (fo f c i a)
  | 0, i, a => rfl
  | c + 1, i, a => by
    show fo f (c + 1) (i + 1) (f i a) = f (i + (c + 1)) (fo f c (i + 1) (f i a))
    rw [fo_last f c (i + 1) (f i a)]
    congr 1
    omega
/-- induction over a fold -/
theorem fo_ind {α : Type} (f : Nat → α → α) (I : Nat → α → Prop) : ∀ (c i : Nat) (a : α), I i a → (∀ j b, i ≤ j → j < i + c → I j b → I (j + 1) (f j b)) → I (i + c) (fo f c i a)
  | 0, _, _, h, _ => h
  | c + 1, i, a, h, hs => by
    have := fo_ind f I c (i + 1) (f i a) (hs i a (Nat.le_refl i) (by omega) h) (fun j b h1 h2 => hs j b (by omega) (by omega))
    rw [show i + 1 + c = i + (c + 1) by omega] at this
    exact this
/-- two folds side by side -/
theorem fo_rel {α β : Type} (f : Nat → α → α) (g : Nat → β → β) (I : Nat → α → β → Prop) : ∀ (c i : Nat) (a : α) (b : β), I i a b → (∀ j x y, i ≤ j → j < i + c → I j x y → I (j + 1) (f j x) (g j y)) → I (i + c) (fo f c i a) (fo g c i b)
  | 0, _, _, _, h, _ => h
  | c + 1, i, a, b, h, hs => by
    have := fo_rel f g I c (i + 1) (f i a) (g i b) (hs i a b (Nat.le_refl i) (by omega) h) (fun j x y h1 h2 => hs j x y (by omega) (by omega))
    rw [show i + 1 + c = i + (c + 1) by omega] at this
    exact this
/-- a loop that counts an int up to k is a fold -/
theorem lp_fo {α β : Type} (lp : Nat → α → Int32 → Option β) (k : Nat) (step : Nat → α → α) (fin : α → Option β) (I : Nat → α → Prop)
    (hx : ∀ n a, I k a → lp (n + 1) a (nI k) = fin a) (hs : ∀ n a i, i < k → I i a → lp (n + 1) a (nI i) = lp n (step i a) (nI (i + 1)) ∧ I (i + 1) (step i a)) :
    ∀ (c i : Nat) (a : α) (n : Nat), i + c = k → c < n → I i a → lp n a (nI i) = fin (fo step c i a) ∧ I k (fo step c i a)
  | 0, i, a, n, h, hn, hI => by
    obtain ⟨n, rfl⟩ : ∃ m, n = m + 1 := ⟨n - 1, by omega⟩
    have : i = k := by omega
    subst this
    exact ⟨hx n a hI, hI⟩
  | c + 1, i, a, n, h, hn, hI => by
    obtain ⟨n, rfl⟩ : ∃ m, n = m + 1 := ⟨n - 1, by omega⟩
    obtain ⟨h1, h2⟩ := hs n a i (by omega) hI
    rw [h1]
    exact lp_fo lp k step fin I hx hs c (i + 1) (step i a) n (by omega) (by omega) h2
/-- .. without an invariant, from 0 on -/
theorem lp_fo0 {α β : Type} (lp : Nat → α → Int32 → Option β) (k : Nat) (step : Nat → α → α) (fin : α → Option β) (hk : k < fu)
    (hx : ∀ n a, lp (n + 1) a (nI k) = fin a) (hs : ∀ n a i, i < k → lp (n + 1) a (nI i) = lp n (step i a) (nI (i + 1))) (a : α) : lp fu a 0 = fin (fo step k 0 a) :=
  (lp_fo lp k step fin (fun _ _ => True) (fun n a _ => hx n a) (fun n a i h _ => ⟨hs n a i h, trivial⟩) k 0 a fu (by omega) hk trivial).1
theorem fu_eq : fu = 1000 := rfl
-- literals
theorem i0 : (0 : Int32) = nI 0 := rfl
theorem i1 : (1 : Int32) = nI 1 := rfl
theorem i2 : (2 : Int32) = nI 2 := rfl
theorem i3 : (3 : Int32) = nI 3 := rfl
theorem i4 : (4 : Int32) = nI 4 := rfl
theorem i5 : (5 : Int32) = nI 5 := rfl
theorem i6 : (6 : Int32) = nI 6 := rfl
theorem i7 : (7 : Int32) = nI 7 := rfl
theorem i8 : (8 : Int32) = nI 8 := rfl
theorem i9 : (9 : Int32) = nI 9 := rfl
theorem i10 : (10 : Int32) = nI 10 := rfl
theorem i18 : (18 : Int32) = nI 18 := rfl
theorem i27 : (27 : Int32) = nI 27 := rfl
theorem i31 : (31 : Int32) = nI 31 := rfl
theorem i36 : (36 : Int32) = nI 36 := rfl
theorem i45 : (45 : Int32) = nI 45 := rfl
theorem i63 : (63 : Int32) = nI 63 := rfl
theorem i64 : (64 : Int32) = nI 64 := rfl
theorem i97 : (97 : Int32) = nI 97 := rfl
theorem i99 : (99 : Int32) = nI 99 := rfl
theorem i255 : (255 : Int32) = nI 255 := rfl
theorem i256 : (256 : Int32) = nI 256 := rfl
theorem i400 : (400 : Int32) = nI 400 := rfl
theorem i401 : (401 : Int32) = nI 401 := rfl
theorem i410 : (410 : Int32) = nI 410 := rfl
theorem i1000 : (1000 : Int32) = nI 1000 := rfl
theorem nI_s (i : Nat) : nI i + (1 : Int32) = nI (i + 1) := nI_1 i
theorem nle {a b : Nat} (ha : a < 2 ^ 31) (hb : b < 2 ^ 31) : (nI a ≤ nI b) = (a ≤ b) := propext (nI_leI ha hb)
theorem nlt {a b : Nat} (ha : a < 2 ^ 31) (hb : b < 2 ^ 31) : (nI a < nI b) = (a < b) := propext (nI_ltI ha hb)
theorem neq {a b : Nat} (ha : a < 2 ^ 31) (hb : b < 2 ^ 31) : (nI a = nI b) = (a = b) := propext (nI_eq ha hb)
theorem lnn {a : Nat} (ha : a < 2 ^ 31) : ¬ nI a < (0 : Int32) := nI_pos ha
theorem lnn' {a : Nat} (ha : a < 2 ^ 31) : (0 : Int32) ≤ nI a := nI_pos' ha
-- bits of longs
def bl (x : Int64) (w : Nat) : Bool := x.toBitVec.getLsbD w
theorem bl_ext {x y : Int64} (h : ∀ w, w < 64 → bl x w = bl y w) : x = y := Int64.toBitVec_inj.mp (BitVec.eq_of_getLsbD_eq (fun i hi => h i hi))
theorem bl_and (x y : Int64) (w : Nat) : bl (x &&& y) w = (bl x w && bl y w) := by unfold bl; rw [Int64.toBitVec_and, BitVec.getLsbD_and]
theorem bl_or (x y : Int64) (w : Nat) : bl (x ||| y) w = (bl x w || bl y w) := by unfold bl; rw [Int64.toBitVec_or, BitVec.getLsbD_or]
theorem bl_xor (x y : Int64) (w : Nat) : bl (x ^^^ y) w = (bl x w ^^ bl y w) := by unfold bl; rw [Int64.toBitVec_xor, BitVec.getLsbD_xor]
theorem bl_big {x : Int64} {w : Nat} (h : 64 ≤ w) : bl x w = false := BitVec.getLsbD_of_ge _ _ h
theorem bl_0 (w : Nat) : bl 0 w = false := by
  show (0#64).getLsbD w = false
  exact BitVec.getLsbD_zero
theorem bl_m1 {w : Nat} (h : w < 64) : bl (-1) w = true := by
  show (BitVec.allOnes 64).getLsbD w = true
  rw [BitVec.getLsbD_allOnes]; exact decide_eq_true h
theorem bl_not {x : Int64} {w : Nat} (h : w < 64) : bl (x ^^^ (-1)) w = !bl x w := by rw [bl_xor, bl_m1 h]; cases bl x w <;> rfl
theorem bl_ush {x : Int64} {w : Nat} (hw : w < 64) : ((ushL x (nI w)) &&& (1 : Int64)) = (0 : Int64) ↔ bl x w = false := by
  unfold ushL bl
  rw [wb_cu w hw]
  exact ts_bit hw (u_tn (by omega))
theorem bl_shr {x : Int64} {w : Nat} (hw : w < 64) : ((shrL x (nI w)) &&& (1 : Int64)) = (1 : Int64) ↔ bl x w = true := by
  have e : (shrL x (nI w)).toBitVec = x.toBitVec.sshiftRight w := by
    unfold shrL
    rw [Int64.toBitVec_shiftRight]
    have h1 : (((nI w).toInt64 &&& 63) : Int64).toBitVec.smod 64 = BitVec.ofNat 64 w := by
      rw [wb_c w hw, wb_tb, wb_sm w hw]
    show x.toBitVec.sshiftRight ((((nI w).toInt64 &&& 63) : Int64).toBitVec.smod 64).toNat = _
    rw [h1, BitVec.toNat_ofNat, Nat.mod_eq_of_lt (by omega)]
  have key : ∀ (y : Int64), (y &&& 1 = 1) ↔ bl y 0 = true := by
    intro y
    constructor
    · intro h
      have h2 : bl (y &&& 1) 0 = bl 1 0 := by rw [h]
      rw [bl_and] at h2
      have h3 : bl 1 0 = true := by decide
      rw [h3] at h2
      cases hb : bl y 0
      · rw [hb] at h2; exact absurd h2 (by decide)
      · rfl
    · intro h
      apply bl_ext
      intro i hi
      rw [bl_and]
      by_cases h0 : i = 0
      · subst h0; rw [h]; rfl
      · have : bl 1 i = false := (by decide +kernel : ∀ i, i < 64 → i ≠ 0 → bl 1 i = false) i hi h0
        rw [this]; cases bl y i <;> rfl
  rw [key]
  unfold bl
  rw [e, BitVec.getLsbD_sshiftRight]
  simp [hw]
theorem holds_eq (x : Int64) {w : Nat} (hw : w < 64) : f_X7_holds x (nI w) = some (if bl x w = true then 1 else 0) := by
  unfold f_X7_holds
  by_cases h : bl x w = true
  · rw [if_pos h, if_neg (fun z => by rw [bl_ush hw] at z; rw [z] at h; cases h)]
  · rw [if_neg h, if_pos ((bl_ush hw).mpr (by cases hb : bl x w; rfl; exact absurd hb h))]
theorem has_eq (x : Int64) {w : Nat} (hw : w < 64) : f_X8_has x (nI w) = some (if bl x w = true then 1 else 0) := by
  unfold f_X8_has
  by_cases h : bl x w = true
  · rw [if_pos h, if_pos ((bl_shr hw).mpr h)]
  · rw [if_neg h, if_neg (fun z => h ((bl_shr hw).mp z))]
-- bits of ints
theorem b1_0 (y : Int32) : (y &&& 1 = 0) ↔ bt y 0 = false := by
  constructor
  · intro h
    have h2 : bt (y &&& 1) 0 = bt 0 0 := by rw [h]
    rw [b_and, b_0] at h2
    have h3 : bt 1 0 = true := by decide
    rw [h3] at h2
    cases hb : bt y 0
    · rfl
    · rw [hb] at h2; exact absurd h2 (by decide)
  · intro h
    apply b_ext
    intro i hi
    rw [b_and, b_0]
    by_cases h0 : i = 0
    · subst h0; rw [h]; rfl
    · have : bt 1 i = false := (by decide +kernel : ∀ i, i < 32 → i ≠ 0 → bt 1 i = false) i hi h0
      rw [this]; cases bt y i <;> rfl
theorem b1_1 (y : Int32) : (y &&& 1 = 1) ↔ bt y 0 = true := by
  constructor
  · intro h
    cases hb : bt y 0
    · have := (b1_0 y).mpr hb
      rw [this] at h; exact absurd h (by decide)
    · rfl
  · intro h
    apply b_ext
    intro i hi
    rw [b_and]
    by_cases h0 : i = 0
    · subst h0; rw [h]; rfl
    · have : bt 1 i = false := (by decide +kernel : ∀ i, i < 32 → i ≠ 0 → bt 1 i = false) i hi h0
      rw [this]; cases bt y i <;> rfl
theorem inSet_eq (x : Int32) {r : Nat} (hr : r < 32) : f_X7_inSet x (nI r) = some (if bt x r = true then 1 else 0) := by
  have e : bt (ushI x (nI r)) 0 = bt x r := b_ushr r hr x 0
  unfold f_X7_inSet
  by_cases h : bt x r = true
  · rw [if_pos h, if_neg (fun z => by rw [b1_0, e] at z; rw [z] at h; cases h)]
  · rw [if_neg h, if_pos ((b1_0 _).mpr (by rw [e]; cases hb : bt x r; rfl; exact absurd hb h))]
theorem sr1 (x : Int32) {r : Nat} (hr : r < 32) : ((x >>> (nI r &&& 31)) &&& (1 : Int32) = (1 : Int32)) ↔ bt x r = true := by
  rw [b1_1, b_sshr r hr x (by decide : (0 : Nat) < 32)]
  simp [hr]
theorem sr0 (x : Int32) {r : Nat} (hr : r < 32) : ((x >>> (nI r &&& 31)) &&& (1 : Int32) = (0 : Int32)) ↔ bt x r = false := by
  rw [b1_0, b_sshr r hr x (by decide : (0 : Nat) < 32)]
  simp [hr]
theorem allIn_eq (x y : Int64) : f_X7_allIn x y = some (if (x &&& (y ^^^ (-1 : Int64))) = 0 then 1 else 0) := by
  unfold f_X7_allIn
  by_cases h : (x &&& (y ^^^ (-1 : Int64))) = (0 : Int64)
  · rw [if_pos h, if_pos h]
  · rw [if_neg h, if_neg h]
theorem truth_eq (b : Prop) [Decidable b] : f_X7_truth (if b then 1 else 0) = some (if b then 1 else 0) := by
  by_cases h : b
  · rw [if_pos h]; rfl
  · rw [if_neg h]; rfl
theorem isWorld_yes {w : Nat} (hw : w < 64) : f_X7_isWorld (nI w) = some 1 := by
  unfold f_X7_isWorld
  rw [if_neg (lnn (by omega)), if_neg (by rw [i64, nle (by decide) (by omega)]; omega)]
theorem isWorld_no {x : Int32} (h : ¬ ∃ w, w < 64 ∧ x = nI w) : f_X7_isWorld x = some 0 := by
  unfold f_X7_isWorld
  rcases pk_ix x (n := 64) (by decide) with h1 | h1 | h1
  · rw [if_pos h1]
  · by_cases h0 : x < (0 : Int32)
    · rw [if_pos h0]
    · rw [if_neg h0, if_pos (show (64 : Int32) ≤ x from h1)]
  · exact absurd h1 h
theorem mIn_eq (x a b : Int64) : f_X8_in x a b = some (if a ≤ x ∧ x ≤ b then 1 else 0) := by
  unfold f_X8_in
  by_cases h1 : x < a
  · rw [if_pos h1, if_neg (fun h => by rw [Int64.le_iff_toInt_le] at h; rw [Int64.lt_iff_toInt_lt] at h1; omega)]
  · rw [if_neg h1]
    by_cases h2 : b < x
    · rw [if_pos h2, if_neg (fun h => by rw [Int64.le_iff_toInt_le, Int64.le_iff_toInt_le] at h; rw [Int64.lt_iff_toInt_lt] at h2; omega)]
    · rw [if_neg h2, if_pos]
      rw [Int64.le_iff_toInt_le, Int64.le_iff_toInt_le]
      rw [Int64.lt_iff_toInt_lt] at h1 h2
      omega
theorem mIn_i (x : Int32) (a b : Int64) : f_X8_in (x.toInt64) a b = some (if a.toInt ≤ x.toInt ∧ x.toInt ≤ b.toInt then 1 else 0) := by
  rw [mIn_eq]
  have e : x.toInt64.toInt = x.toInt := by simp
  by_cases h : a.toInt ≤ x.toInt ∧ x.toInt ≤ b.toInt
  · rw [if_pos h, if_pos (by rw [Int64.le_iff_toInt_le, Int64.le_iff_toInt_le, e]; exact h)]
  · rw [if_neg h, if_neg (by rw [Int64.le_iff_toInt_le, Int64.le_iff_toInt_le, e]; exact h)]
theorem mWorld_yes {w : Nat} (hw : w < 64) : f_X8_isWorld (nI w) = some 1 := by
  unfold f_X8_isWorld
  rw [mIn_i, if_pos (by rw [nI_toInt (by omega)]; constructor; exact Int.natCast_nonneg w; show (w : Int) ≤ 63; omega)]
  rfl
theorem mWorld_no {x : Int32} (h : ¬ ∃ w, w < 64 ∧ x = nI w) : f_X8_isWorld x = some 0 := by
  unfold f_X8_isWorld
  rw [mIn_i, if_neg]
  · rfl
  · intro hh
    have h0 : (0 : Int) ≤ x.toInt := hh.1
    have h1 : x.toInt ≤ 63 := hh.2
    obtain ⟨j, hj, rfl⟩ := nI_of (x := x) (by rw [Int32.lt_iff_toInt_lt]; show ¬ x.toInt < 0; omega)
    rw [nI_toInt hj] at h1
    exact h ⟨j, by omega, rfl⟩
