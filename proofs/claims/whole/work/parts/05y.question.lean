-- ===== texts typed =====
theorem bl_ushw {x : Int64} {s : Nat} (hs : s < 64) (i : Nat) : bl (ushL x (nI s)) i = bl x (s + i) := by
  unfold ushL
  rw [wb_cu s hs]
  show (x.toUInt64 >>> UInt64.ofNat s).toBitVec.getLsbD i = x.toBitVec.getLsbD (s + i)
  rw [UInt64.toBitVec_shiftRight]
  have e : ((UInt64.ofNat s).toBitVec % 64).toNat = s := by
    rw [BitVec.toNat_umod]
    show s % 2 ^ 64 % 64 = s
    omega
  show (x.toBitVec >>> ((UInt64.ofNat s).toBitVec % 64).toNat).getLsbD i = _
  rw [e, BitVec.getLsbD_ushiftRight]
theorem bl_shrw {x : Int64} {s : Nat} (hs : s < 64) {i : Nat} (hi : s + i < 64) : bl (shrL x (nI s)) i = bl x (s + i) := by
  have e : (shrL x (nI s)).toBitVec = x.toBitVec.sshiftRight s := by
    unfold shrL
    rw [Int64.toBitVec_shiftRight]
    have h1 : (((nI s).toInt64 &&& 63) : Int64).toBitVec.smod 64 = BitVec.ofNat 64 s := by
      rw [wb_c s hs, wb_tb, wb_sm s hs]
    show x.toBitVec.sshiftRight ((((nI s).toInt64 &&& 63) : Int64).toBitVec.smod 64).toNat = _
    rw [h1, BitVec.toNat_ofNat, Nat.mod_eq_of_lt (by omega)]
  unfold bl
  rw [e, BitVec.getLsbD_sshiftRight]
  simp [show i < 64 by omega, hi]
theorem bt_i32 (x : Int64) {i : Nat} (hi : i < 32) : bt x.toInt32 i = bl x i := by
  have h3 : i < 64 := by omega
  show (x.toInt32).toBitVec.getLsbD i = x.toBitVec.getLsbD i
  first
    | (show (x.toBitVec.signExtend 32).getLsbD i = _; rw [BitVec.getLsbD_signExtend, if_pos h3]; simp [hi]; done)
    | (show (x.toBitVec.setWidth 32).getLsbD i = _; rw [BitVec.getLsbD_setWidth]; simp [hi]; done)
    | (simp [hi, h3]; done)
theorem bt_byte (x : Int32) {i : Nat} (hi : i < 8) : bt x.toInt8.toInt32 i = bt x i := by
  have h3 : i < 32 := by omega
  show (x.toInt8.toInt32).toBitVec.getLsbD i = x.toBitVec.getLsbD i
  have e1 : (x.toInt8).toBitVec.getLsbD i = x.toBitVec.getLsbD i := by
    first
      | (show (x.toBitVec.signExtend 8).getLsbD i = _; rw [BitVec.getLsbD_signExtend, if_pos h3]; simp [hi]; done)
      | (show (x.toBitVec.setWidth 8).getLsbD i = _; rw [BitVec.getLsbD_setWidth]; simp [hi]; done)
      | (simp [hi, h3]; done)
  rw [← e1]
  first
    | (show (x.toInt8.toBitVec.signExtend 32).getLsbD i = _; rw [BitVec.getLsbD_signExtend, if_pos hi]; simp [h3]; done)
    | (simp [hi, h3]; done)
theorem bl_255 : ∀ i, i < 64 → bl 255 i = decide (i < 8) := by decide +kernel
theorem and255 (y : Int32) : ∃ b, b < 256 ∧ y &&& (255 : Int32) = nI b := by
  have e : y = nI y.toBitVec.toNat := by
    apply Int32.toBitVec_inj.mp
    show y.toBitVec = BitVec.ofNat 32 y.toBitVec.toNat
    rw [BitVec.ofNat_toNat, BitVec.setWidth_eq]
  refine ⟨y.toBitVec.toNat % 2 ^ 8, by omega, ?_⟩
  rw [← fa_mask, ← e]
  rfl
theorem byte_eq (v : Int64) {k : Nat} (hk : k < 8) : ∃ b, b < 256 ∧ (vp_nar .byte (((ushL v ((8 : Int32) * nI k)).toInt32).toInt8.toInt32)) &&& (255 : Int32) = nI b ∧ ((shrL v ((8 : Int32) * nI k)) &&& (255 : Int64)).toInt32 = nI b := by
  obtain ⟨b, hb, e⟩ := and255 (vp_nar .byte (((ushL v ((8 : Int32) * nI k)).toInt32).toInt8.toInt32))
  refine ⟨b, hb, e, ?_⟩
  rw [← e, vp_nar_byte, show (8 : Int32) * nI k = nI (8 * k) from (Int32.ofNat_mul 8 k).symm]
  apply b_ext
  intro i hi
  rw [bt_i32 _ hi, bl_and, bl_255 i (by omega), b_and, b_255]
  by_cases h8 : i < 8
  · rw [bt_byte _ h8, bt_byte _ h8, bt_i32 _ hi, bl_ushw (by omega), bl_shrw (by omega) (by omega)]
  · rw [decide_eq_false h8, Bool.and_false, Bool.and_false]
theorem type_lp (v : Int64) (nn : Int32) : ∀ (c N f g : Nat) (tx : Nat → Nat) (bs tt : Nat → Int32), N + c ≤ 400 → c ≤ 8 → c < f → c < g → TXc tx N bs → (∀ i, i < N → tt i = nI (tx i)) → (∀ i, i < N → tx i < 256) →
    ∃ (tx' : Nat → Nat) (bs' tt' : Nat → Int32), lp_X6_put_19 v nn f (nI N) bs (nI c - 1) = some (1, nI (N + c), bs') ∧ lp_X8_type_34 v nn g (nI N) tt (nI c - 1) = some (nI (N + c), nI (N + c), tt') ∧ TXc tx' (N + c) bs' ∧ (∀ i, i < N + c → tt' i = nI (tx' i)) ∧ ∀ i, i < N + c → tx' i < 256
  | 0, N, f, g, tx, bs, tt, hN, hc, hf, hg, h1, h2, h3 => by
    obtain ⟨f, rfl⟩ : ∃ q, f = q + 1 := ⟨f - 1, by omega⟩
    obtain ⟨g, rfl⟩ : ∃ q, g = q + 1 := ⟨g - 1, by omega⟩
    refine ⟨tx, bs, tt, ?_, ?_, h1, h2, h3⟩
    · rw [lp_X6_put_19, if_pos (by decide)]; rfl
    · rw [lp_X8_type_34, if_pos (by decide)]; rfl
  | c + 1, N, f, g, tx, bs, tt, hN, hc, hf, hg, h1, h2, h3 => by
    obtain ⟨f, rfl⟩ : ∃ q, f = q + 1 := ⟨f - 1, by omega⟩
    obtain ⟨g, rfl⟩ : ∃ q, g = q + 1 := ⟨g - 1, by omega⟩
    obtain ⟨b, hb, e1, e2⟩ := byte_eq v (k := c) (by omega)
    obtain ⟨tx', bs', tt', a1, a2, a3, a4, a5⟩ := type_lp v nn c (N + 1) f g (fun i => if i = N then b else tx i) (upd bs N (vp_nar .byte (((ushL v ((8 : Int32) * nI c)).toInt32).toInt8.toInt32))) (upd tt N (((shrL v ((8 : Int32) * nI c)) &&& (255 : Int64)).toInt32)) (by omega) (by omega) (by omega) (by omega)
      (fun i hi => by
        show _ = nI (if i = N then b else tx i)
        by_cases q : i = N
        · subst q; rw [upd_at, if_pos rfl, e1]
        · rw [upd_ne _ q, if_neg q]; exact h1 i (by omega))
      (fun i hi => by
        show _ = nI (if i = N then b else tx i)
        by_cases q : i = N
        · subst q; rw [upd_at, if_pos rfl, e2]
        · rw [upd_ne _ q, if_neg q]; exact h2 i (by omega))
      (fun i hi => by
        show (if i = N then b else tx i) < 256
        by_cases q : i = N
        · rw [if_pos q]; exact hb
        · rw [if_neg q]; exact h3 i (by omega))
    rw [show N + 1 + c = N + (c + 1) by omega] at a1 a2 a3 a4 a5
    have em : nI c + (-1 : Int32) = nI c - 1 := (Int32.sub_eq_add_neg _ _).symm
    refine ⟨tx', bs', tt', ?_, ?_, a3, a4, a5⟩
    · rw [nI_m1, lp_X6_put_19, if_neg (lnn (by omega)), if_neg (by rw [i400, nle (by decide) (by omega)]; omega), gdi (by omega) (by decide), nI_s, lt_y, em, lt_y, clp (by omega)]
      exact a1
    · rw [nI_m1, lp_X8_type_34, if_neg (lnn (by omega)), gdi (by omega) (by decide), nI_s, lt_y, em, lt_y, clp (by omega)]
      exact a2
def RelT (zs : Int32) (bs : Nat → Int32) (zt : Int32) (tt : Nat → Int32) : Prop := ∃ (N : Nat) (tx : Nat → Nat), zs = nI N ∧ zt = nI N ∧ TXc tx N bs ∧ TXm tx N tt
theorem RelT_0 (bs tt : Nat → Int32) : RelT 0 bs 0 tt := ⟨0, fun _ => 0, rfl, rfl, fun i hi => absurd hi (Nat.not_lt_zero i), by decide, fun i hi => absurd hi (Nat.not_lt_zero i), fun i hi => absurd hi (Nat.not_lt_zero i)⟩
theorem s_type {zs : Int32} {bs : Nat → Int32} {zt : Int32} {tt : Nat → Int32} (h : RelT zs bs zt tt) (v : Int64) (x : Int32) : ∃ (o z : Int32) (b : Nat → Int32) (z' : Int32) (t' : Nat → Int32), f_X7_type zs bs v x = some (o, z, b) ∧ f_X8_type zt tt v x = some (o, z', t') ∧ RelT z b z' t' := by
  have hR := h
  obtain ⟨N, tx, rfl, rfl, h1, h2, h3, h4⟩ := h
  unfold f_X7_type f_X8_type
  rw [show f_X8_in x.toInt64 1 8 = some (if (1 : Int) ≤ x.toInt ∧ x.toInt ≤ 8 then 1 else 0) from mIn_i x 1 8, bd_s]
  by_cases c1 : x < (1 : Int32)
  · rw [if_pos c1, if_neg (show ¬ ((1 : Int) ≤ x.toInt ∧ x.toInt ≤ 8) from fun h => by rw [Int32.lt_iff_toInt_lt] at c1; have b : x.toInt < 1 := c1; omega), if_pos rfl]
    exact ⟨_, _, _, _, _, rfl, rfl, hR⟩
  rw [if_neg c1]
  by_cases c2 : x ≤ (8 : Int32)
  · have h1' : (1 : Int) ≤ x.toInt := by rw [Int32.lt_iff_toInt_lt] at c1; have : ¬ x.toInt < 1 := c1; omega
    have h2' : x.toInt ≤ 8 := by rw [Int32.le_iff_toInt_le] at c2; exact c2
    rw [if_pos c2, if_pos (show (1 : Int) ≤ x.toInt ∧ x.toInt ≤ 8 from ⟨h1', h2'⟩), if_neg z10]
    obtain ⟨m, hm, rfl⟩ := nI_of (x := x) (by rw [Int32.lt_iff_toInt_lt]; show ¬ x.toInt < 0; omega)
    rw [nI_toInt hm] at h1' h2'
    unfold f_X6_put
    rw [show (400 : Int32) - nI N = nI (400 - N) from nI_sub (a := 400) h2, nI_add]
    by_cases c3 : N + m ≤ 400
    · rw [if_pos (show nI m ≤ nI (400 - N) by rw [nle (by omega) (by omega)]; omega), if_pos (show nI (N + m) ≤ (400 : Int32) by rw [i400, nle (by omega) (by decide)]; exact c3), lt_y, lt_y]
      obtain ⟨tx', bs', tt', a1, a2, a3, a4, a5⟩ := type_lp v (nI m) m N fu fu tx bs tt c3 (by omega) (by rw [fu_eq]; omega) (by rw [fu_eq]; omega) h1 h3 h4
      rw [a1, a2, bd_s, if_neg z10]
      exact ⟨_, _, _, _, _, rfl, rfl, N + m, tx', rfl, rfl, a3, c3, a4, a5⟩
    · rw [if_neg (show ¬ nI m ≤ nI (400 - N) by rw [nle (by omega) (by omega)]; omega), if_neg (show ¬ nI (N + m) ≤ (400 : Int32) by rw [i400, nle (by omega) (by decide)]; exact c3), bd_s, if_pos rfl]
      exact ⟨_, _, _, _, _, rfl, rfl, hR⟩
  · rw [if_neg c2, if_neg (show ¬ ((1 : Int) ≤ x.toInt ∧ x.toInt ≤ 8) from fun h => c2 (by rw [Int32.le_iff_toInt_le]; exact h.2)), if_pos rfl]
    exact ⟨_, _, _, _, _, rfl, rfl, hR⟩
-- ===== questions =====
theorem cur_pl {tx : Nat → Nat} {N : Nat} {a k s : Int32} {tk pl : Nat → Int32} {j : Nat} {L : List (Nat × Nat)} (hC : Cur tx N a k s L) (hR : repT N tk pl j L) : pl j = s := by
  cases L with
  | nil => rw [hR.2, hC.2.2]
  | cons x L => obtain ⟨c, q⟩ := x; rw [hR.2.2.1, hC.2.2.1]
theorem fault_eq {j : Nat} (hj : j ≤ 400) (pl : Nat → Int32) : f_X7_faultAnswer (nI j) pl = some ((-10 : Int32) - pl j) := by
  unfold f_X7_faultAnswer f_X3_fault
  rw [if_neg (lnn (by omega)), if_neg (by rw [i401, nle (by decide) (by omega)]; omega), gdi (by omega) (by decide), clp (by omega), bd_s]
theorem hdc0 {L : List (Nat × Nat)} {tk pl : Nat → Int32} {N j : Nat} (hR : repT N tk pl j L) : hdc L = 0 ↔ L = [] := by
  cases L with
  | nil => exact ⟨fun _ => rfl, fun _ => rfl⟩
  | cons x L =>
    obtain ⟨c, q⟩ := x
    have := hR.1.1
    exact ⟨fun h => by have h' : c = 0 := h; omega, fun h => by cases h⟩
theorem cC_256 : ∀ c, c < 25 → (cC c = 256 ↔ c = 0) := by decide +kernel
theorem cC_259 : ∀ c, c < 25 → (cC c = 259 ↔ c = 3) := by decide +kernel
abbrev QT : Type := Int32 × Int32 × Int64 × Int64
/-- how the class's question ends -/
def qK (c d : Int32) (a b : Int64) : Option QT := if d = (256 : Int32) then some (c, d, a, b) else bd (f_X3_refuse d) (fun o3 => some (c, o3, a, b))
theorem qK_eq {ok : Bool} {L : List (Nat × Nat)} {tk pl : Nat → Int32} {N j : Nat} (hR : repT N tk pl j L) (c : Int32) (a b : Int64) : qK c (tkc ok L) a b = (if ok = true ∧ L = [] then some (c, nI 256, a, b) else some (c, nI 257, a, b)) := by
  unfold qK
  have hh := repT_hd hR
  cases ok with
  | false => rw [if_neg (show ¬ tkc false L = (256 : Int32) from tkc_no (t := 256) (by decide)), if_neg (fun h => by cases h.1)]; rfl
  | true =>
    by_cases h : L = []
    · subst h; rw [if_pos (show tkc true [] = (256 : Int32) from rfl), if_pos ⟨rfl, rfl⟩]; rfl
    · rw [if_neg (show ¬ tkc true L = (256 : Int32) from fun z => h ((hdc0 hR).mp ((hd_eq hh.2 (t := 256) (by decide) (cC_256 _ hh.2)).mp z))), if_neg (fun z => h z.2)]; rfl
theorem s_question {zs : Int32} {bs : Nat → Int32} {zt : Int32} {tt : Nat → Int32} (h : RelT zs bs zt tt) (when then_ : Int64) (rs rn rt : Int32) (rw_ rth : Int64) (rtk rpl : Nat → Int32) (ma mk ms_ vm wm op : Int32) (sy : Int64) (vals : Nat → Int64) (waits : Nat → Int32) (fresh : Nat → Int64) :
    ∃ o1 o2, f_X7_question when then_ zs bs rs rn rt rw_ rth rtk rpl = some o1 ∧ f_X8_question zt when then_ ma mk ms_ vm wm op sy tt vals waits fresh = some o2 ∧ o1.1 = o2.1 ∧ o1.2.1 = o2.2.2.1 ∧ o1.2.2.1 = o2.2.2.2.1 ∧ RelT o1.2.2.2.1 bs o2.2.1 tt := by
  have hR0 := h
  obtain ⟨N, tx, rfl, rfl, h1, hT⟩ := h
  obtain ⟨f, L, tk, pl, hLX, hM, es, hR⟩ := start_eq hT.1 h1 hT.2.2 rs rn rt rtk rpl
  obtain ⟨a, k, s, em, hC⟩ := scan_first hT.1 tt hT.2.1 hT.2.2 hLX mk ms_
  have hh := repT_hd hR
  have hk := Cur_k hC
  unfold f_X7_question f_X8_question
  rw [es, bd_s, em, bd_s, hh.1]
  -- the class, once its question is read
  have fin_c : ∀ (j' : Nat) (L' : List (Nat × Nat)) (ok : Bool) (x y : Int64), j' + L'.length = L.length → repT N tk pl j' L' → f_X3_readQuestion (nI (L.length + 1)) (nI 0) (nI (hd L)) rw_ rth tk = qK (nI j') (tkc ok L') x y →
      ((ok = true ∧ L' = []) → bd (f_X3_readQuestion (nI (L.length + 1)) (nI 0) (nI (hd L)) rw_ rth tk) (fun o2 => bd (f_X3_isWrong o2.2.1) (fun o3 => if o3 = (0 : Int32) then bd (f_X3_when o2.2.2.1) (fun o5 => bd (f_X3_then o2.2.2.2) (fun o6 => bd (f_X6_wipe (nI N)) (fun o7 => some ((1 : Int32), o5, o6, o7.2, nI (L.length + 1), o2.1, o2.2.1, o2.2.2.1, o2.2.2.2, tk, pl)))) else bd (f_X7_faultAnswer o2.1 pl) (fun o8 => some (o8, when, then_, nI N, nI (L.length + 1), o2.1, o2.2.1, o2.2.2.1, o2.2.2.2, tk, pl)))) = some (1, x, y, 0, nI (L.length + 1), nI j', nI 256, x, y, tk, pl)) ∧
      (¬ (ok = true ∧ L' = []) → bd (f_X3_readQuestion (nI (L.length + 1)) (nI 0) (nI (hd L)) rw_ rth tk) (fun o2 => bd (f_X3_isWrong o2.2.1) (fun o3 => if o3 = (0 : Int32) then bd (f_X3_when o2.2.2.1) (fun o5 => bd (f_X3_then o2.2.2.2) (fun o6 => bd (f_X6_wipe (nI N)) (fun o7 => some ((1 : Int32), o5, o6, o7.2, nI (L.length + 1), o2.1, o2.2.1, o2.2.2.1, o2.2.2.2, tk, pl)))) else bd (f_X7_faultAnswer o2.1 pl) (fun o8 => some (o8, when, then_, nI N, nI (L.length + 1), o2.1, o2.2.1, o2.2.2.1, o2.2.2.2, tk, pl)))) = some ((-10 : Int32) - pl j', when, then_, nI N, nI (L.length + 1), nI j', nI 257, x, y, tk, pl)) := by
    intro j' L' ok x y hj hRj e
    rw [e, qK_eq hRj]
    constructor
    · intro z
      rw [if_pos z, bd_s]
      rfl
    · intro z
      rw [if_neg z, bd_s, show f_X3_isWrong (nI 257) = some 1 from rfl, bd_s, if_neg z10, fault_eq (by omega), bd_s]
  -- the reference, once its saying is read
  have fin_m : ∀ (ok : Bool) (L' : List (Nat × Nat)) (j' : Nat) (a' k' s' vm' wm' op' : Int32) (sy' : Int64) (vals' : Nat → Int64) (waits' : Nat → Int32) (fresh' : Nat → Int64) (v1 : Int32) (x y : Int64), repT N tk pl j' L' → Cur tx N a' k' s' L' → (ok = true → (v1 = 0 ∧ x = -1 ∧ y = sy') ∨ (v1 = 1 ∧ fresh' 17 = x ∧ fresh' 26 = y)) → ∃ o2 : Int32 × Int32 × Int64 × Int64 × Int32 × Int32 × Int32 × Int32 × Int32 × Int32 × Int64 × (Nat → Int64) × (Nat → Int32) × (Nat → Int64), jn_X8_question_48 tt (nI N) when then_ a' k' s' vm' wm' op' sy' vals' waits' fresh' v1 (if ok = true then 1 else 0) = some o2 ∧ ((ok = true ∧ L' = []) → o2.1 = 1 ∧ o2.2.1 = 0 ∧ o2.2.2.1 = x ∧ o2.2.2.2.1 = y) ∧ (¬ (ok = true ∧ L' = []) → o2.1 = (-10 : Int32) - pl j' ∧ o2.2.1 = nI N ∧ o2.2.2.1 = when ∧ o2.2.2.2.1 = then_) := by
    intro ok L' j' a' k' s' vm' wm' op' sy' vals' waits' fresh' v1 x y hRj hCj hv
    have hs := cur_pl hCj hRj
    have hkj := Cur_k hCj
    unfold jn_X8_question_48
    cases ok with
    | false =>
      rw [if_pos f10]
      exact ⟨_, rfl, fun z => (by cases z.1), fun _ => ⟨by rw [hs], rfl, rfl, rfl⟩⟩
    | true =>
      rw [if_neg (show ¬ (if true = true then (1 : Int32) else 0) = 0 from z10)]
      by_cases hL : L' = []
      · subst hL
        rw [if_pos (show k' = (0 : Int32) from hCj.2.1)]
        rcases hv rfl with ⟨rfl, rfl, rfl⟩ | ⟨rfl, e1, e2⟩
        · rw [if_pos rfl]
          unfold jn_X8_question_86
          rw [if_pos rfl]
          exact ⟨_, rfl, fun _ => ⟨rfl, rfl, rfl, rfl⟩, fun z => absurd ⟨rfl, rfl⟩ z⟩
        · rw [if_neg z10, gd_y (by decide)]
          unfold jn_X8_question_86
          rw [if_neg z10, gd_y (by decide), lt_y]
          exact ⟨_, rfl, fun _ => ⟨rfl, rfl, e1, e2⟩, fun z => absurd ⟨rfl, rfl⟩ z⟩
      · rw [if_neg (show ¬ k' = (0 : Int32) by rw [hkj.1]; exact ncu (d := 0) hkj.2 (by decide) (fun z => hL ((hdc0 hRj).mp z)))]
        exact ⟨_, rfl, fun z => absurd z.2 hL, fun _ => ⟨by rw [hs], rfl, rfl, rfl⟩⟩
  have join : ∀ (j' : Nat) (L' : List (Nat × Nat)) (ok : Bool) (x y : Int64) (m : Option (Int32 × Int32 × Int64 × Int64 × Int32 × Int32 × Int32 × Int32 × Int32 × Int32 × Int64 × (Nat → Int64) × (Nat → Int32) × (Nat → Int64))), j' + L'.length = L.length → repT N tk pl j' L' → f_X3_readQuestion (nI (L.length + 1)) (nI 0) (nI (hd L)) rw_ rth tk = qK (nI j') (tkc ok L') x y → (∃ o2, m = some o2 ∧ ((ok = true ∧ L' = []) → o2.1 = 1 ∧ o2.2.1 = 0 ∧ o2.2.2.1 = x ∧ o2.2.2.2.1 = y) ∧ (¬ (ok = true ∧ L' = []) → o2.1 = (-10 : Int32) - pl j' ∧ o2.2.1 = nI N ∧ o2.2.2.1 = when ∧ o2.2.2.2.1 = then_)) →
      ∃ (o1 : Int32 × Int64 × Int64 × Int32 × Int32 × Int32 × Int32 × Int64 × Int64 × (Nat → Int32) × (Nat → Int32)) (o2 : Int32 × Int32 × Int64 × Int64 × Int32 × Int32 × Int32 × Int32 × Int32 × Int32 × Int64 × (Nat → Int64) × (Nat → Int32) × (Nat → Int64)), bd (f_X3_readQuestion (nI (L.length + 1)) (nI 0) (nI (hd L)) rw_ rth tk) (fun o2 => bd (f_X3_isWrong o2.2.1) (fun o3 => if o3 = (0 : Int32) then bd (f_X3_when o2.2.2.1) (fun o5 => bd (f_X3_then o2.2.2.2) (fun o6 => bd (f_X6_wipe (nI N)) (fun o7 => some ((1 : Int32), o5, o6, o7.2, nI (L.length + 1), o2.1, o2.2.1, o2.2.2.1, o2.2.2.2, tk, pl)))) else bd (f_X7_faultAnswer o2.1 pl) (fun o8 => some (o8, when, then_, nI N, nI (L.length + 1), o2.1, o2.2.1, o2.2.2.1, o2.2.2.2, tk, pl)))) = some o1 ∧ m = some o2 ∧ o1.1 = o2.1 ∧ o1.2.1 = o2.2.2.1 ∧ o1.2.2.1 = o2.2.2.2.1 ∧ RelT o1.2.2.2.1 bs o2.2.1 tt := by
    intro j' L' ok x y m hj hRj e hm
    obtain ⟨o2, m1, m2, m3⟩ := hm
    obtain ⟨c1, c2⟩ := fin_c j' L' ok x y hj hRj e
    by_cases z : ok = true ∧ L' = []
    · obtain ⟨g1, g2, g3, g4⟩ := m2 z
      refine ⟨_, o2, c1 z, m1, g1.symm, g3.symm, g4.symm, ?_⟩
      rw [g2]
      exact RelT_0 bs tt
    · obtain ⟨g1, g2, g3, g4⟩ := m3 z
      refine ⟨_, o2, c2 z, m1, g1.symm, g3.symm, g4.symm, ?_⟩
      rw [g2]
      exact hR0
  by_cases h3 : hdc L = 3
  · obtain ⟨q, L1, rfl⟩ := cons_of (by decide) h3
    obtain ⟨ok, v1, v2, j', L', a1, a2, a3, a5, a6⟩ := rule_both (α := QT) (tk := tk) (pl := pl) hT hM L1 1 (by rw [List.length_cons]; omega) (repT_tl hR)
    obtain ⟨a', k', s', es', hC'⟩ := scan_next hT.1 tt hT.2.1 hT.2.2 hC
    obtain ⟨r, e, r1, r2, r3⟩ := a6 8 a' k' s' vm wm op sy vals waits fresh (by decide) hC'
    have cl : f_X3_readQuestion (nI (((3, q) :: L1).length + 1)) (nI 0) (nI (hd ((3, q) :: L1))) rw_ rth tk = qK (nI j') (tkc ok L') v1 v2 := by
      unfold f_X3_readQuestion
      rw [if_pos (show nI (hd ((3, q) :: L1)) = (259 : Int32) from rfl), take_eq hM (by rw [Nat.zero_add]) hR, bd_s]
      unfold jn_X3_readQuestion_37
      exact a5 (fun x y c d => qK c d x y)
    have mo : (if k = (3 : Int32) then jn_X8_question_22 tt (nI N) when then_ a k s vm wm op sy vals waits fresh (1 : Int32) else jn_X8_question_22 tt (nI N) when then_ a k s vm wm op sy vals waits fresh (0 : Int32)) = jn_X8_question_48 tt (nI N) when then_ r.2.1 r.2.2.1 r.2.2.2.1 r.2.2.2.2.1 r.2.2.2.2.2.1 r.2.2.2.2.2.2.1 r.2.2.2.2.2.2.2.1 r.2.2.2.2.2.2.2.2.1 r.2.2.2.2.2.2.2.2.2.1 r.2.2.2.2.2.2.2.2.2.2 1 (if ok = true then 1 else 0) := by
      rw [if_pos (show k = (3 : Int32) from hk.1)]
      unfold jn_X8_question_22
      rw [if_neg z10, es', bd_s]
      unfold jn_X8_question_31
      rw [if_neg z10, show (8 : Int32) = nI 8 from rfl, e, bd_s, r1]
    refine join j' L' ok v1 v2 _ a1 a2 cl ?_
    rw [mo]
    exact fin_m ok L' j' _ _ _ _ _ _ _ _ _ _ 1 v1 v2 a2 r2 (fun z => Or.inr ⟨rfl, by rw [r3 z, updL_ne _ (by decide), updL_at], by rw [r3 z, updL_at]⟩)
  · obtain ⟨ok, v, j', L', a1, a2, a3, a4, a5, a6⟩ := say_both (tk := tk) (pl := pl) hT hM L 0 (by rw [Nat.zero_add]) hR
    obtain ⟨r, e, r1, r2, r3⟩ := a6 a k s vm wm op sy vals waits hC
    have cl : f_X3_readQuestion (nI (L.length + 1)) (nI 0) (nI (hd L)) rw_ rth tk = qK (nI j') (tkc ok L') (-1) v := by
      unfold f_X3_readQuestion
      rw [if_neg (show ¬ nI (hd L) = (259 : Int32) from fun z => h3 ((hd_eq hh.2 (t := 259) (by decide) (cC_259 _ hh.2)).mp z))]
      unfold jn_X3_readQuestion_37
      rw [a5, bd_s]
      rfl
    have mo : (if k = (3 : Int32) then jn_X8_question_22 tt (nI N) when then_ a k s vm wm op sy vals waits fresh (1 : Int32) else jn_X8_question_22 tt (nI N) when then_ a k s vm wm op sy vals waits fresh (0 : Int32)) = jn_X8_question_48 tt (nI N) when then_ r.2.1 r.2.2.1 r.2.2.2.1 r.2.2.2.2.1 r.2.2.2.2.2.1 r.2.2.2.2.2.2.1 r.2.2.2.2.2.2.2.1 r.2.2.2.2.2.2.2.2.1 r.2.2.2.2.2.2.2.2.2 fresh 0 (if ok = true then 1 else 0) := by
      rw [if_neg (show ¬ k = (3 : Int32) by rw [hk.1]; exact ncu (d := 3) hk.2 (by decide) h3)]
      unfold jn_X8_question_22
      rw [if_pos rfl]
      unfold jn_X8_question_31
      rw [if_pos rfl, e, bd_s, r1]
    refine join j' L' ok (-1) v _ (by omega) a2 cl ?_
    rw [mo]
    exact fin_m ok L' j' _ _ _ _ _ _ _ _ _ _ 0 (-1) v a2 r2 (fun z => Or.inl ⟨rfl, rfl, (r3 z).symm⟩)
