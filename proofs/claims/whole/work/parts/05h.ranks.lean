-- ===== ranks of worlds =====
def cgI (gr : Nat → Int32) (r : Nat) : Int32 := if gr r = -9 then 8 else gr r
def cgN (gr : Nat → Int32) (r : Nat) : Nat := (cgI gr r).toNatClampNeg
def grOK (gr : Nat → Int32) (k : Nat) : Prop := ∀ r, r < k → gr r = -9 ∨ ∃ g, g < 9 ∧ gr r = nI g
theorem cg_ok {gr : Nat → Int32} {k r : Nat} (h : grOK gr k) (hr : r < k) : cgI gr r = nI (cgN gr r) ∧ cgN gr r ≤ 8 := by
  unfold cgN cgI
  rcases h r hr with e | ⟨g, hg, e⟩
  · rw [if_pos e]; exact ⟨by decide, by decide⟩
  · by_cases e9 : gr r = -9
    · rw [if_pos e9]; exact ⟨by decide, by decide⟩
    · rw [if_neg e9, e, nI_clamp (by omega)]; exact ⟨rfl, by omega⟩
theorem gradeAt_eq (gr : Nat → Int32) {r : Nat} (hr : r < 9) : f_X4_gradeAt gr (nI r) = some (gr r) := by
  unfold f_X4_gradeAt
  rw [if_neg (lnn (by omega)), if_neg (by rw [i9, nle (by decide) (by omega)]; omega), gdi hr (by decide), clp (by omega)]
theorem counted_eq (gr : Nat → Int32) {r : Nat} (hr : r < 9) : f_X4_countedGrade gr (nI r) = some (cgI gr r) := by
  unfold f_X4_countedGrade cgI
  rw [gradeAt_eq gr hr, bd_s]
  by_cases h : gr r = -9
  · rw [if_pos h, if_pos h]
  · rw [if_neg h, if_neg h]
theorem mcounted_eq (gr : Nat → Int32) {r : Nat} (hr : r < 9) : f_X8_gradeOfRule gr (nI r) = some (cgI gr r) := by
  unfold f_X8_gradeOfRule cgI
  rw [gdi hr (by decide), clp (by omega)]
  by_cases h : gr r = -9
  · rw [if_pos h, if_pos h]
  · rw [if_neg h, if_neg h, gdi hr (by decide)]
def rnk (gr : Nat → Int32) (p : Nat → Bool) (k : Nat) : Int32 := fo (fun r m => if p r = true then mxI m (cgI gr r + 1) else m) k 0 0
theorem rankOf_eq {k : Nat} (hk : k ≤ 9) (gr : Nat → Int32) (set : Int32) : f_X4_rankOf (nI k) gr set = some (rnk gr (bt set) k) := by
  unfold f_X4_rankOf rnk
  refine lp_fo0 (fun n a i => lp_X4_rankOf_4 (nI k) gr set n a i) k _ some (by rw [fu_eq]; omega) (fun n a => ?_) (fun n a i hi => ?_) 0
  · show lp_X4_rankOf_4 _ _ _ (n + 1) _ _ = _
    rw [lp_X4_rankOf_4, size4_eq, bd_s, if_pos (by rw [nle (by omega) (by omega)]; omega)]
  · show lp_X4_rankOf_4 _ _ _ (n + 1) _ _ = _
    rw [lp_X4_rankOf_4, size4_eq, bd_s, if_neg (by rw [nle (by omega) (by omega)]; omega), inSet_eq _ (by omega), bd_s]
    by_cases hb : bt set i = true
    · rw [if_pos hb, if_neg z10, counted_eq gr (by omega), bd_s, lt_y, lt_y, nI_s, if_pos hb]
    · rw [if_neg hb, if_pos rfl, lt_y, nI_s, if_neg hb]
theorem rnk_congr {gr gr' : Nat → Int32} {p q : Nat → Bool} {k : Nat} (hg : ∀ r, r < k → gr r = gr' r) (hp : ∀ r, r < k → p r = q r) : rnk gr p k = rnk gr' q k := by
  unfold rnk
  exact fo_congr k 0 _ (fun j b _ hj => by unfold cgI; rw [hg j (by omega), hp j (by omega)])
theorem bt_brkn {w t : Nat → Int64} {k wd r : Nat} (hk : k ≤ 9) (hr : r < k) : bt (brkn w t k wd) r = bl (brk w t r) wd := by
  unfold brkn
  rw [bt_setOf _ (by omega)]; simp [hr]
theorem rnk_rng {gr : Nat → Int32} {p : Nat → Bool} {k : Nat} (h : grOK gr k) : ∃ m, m ≤ 9 ∧ rnk gr p k = nI m := by
  unfold rnk
  have := fo_ind (fun r (m : Int32) => if p r = true then mxI m (cgI gr r + 1) else m) (fun _ x => ∃ m, m ≤ 9 ∧ x = nI m) k 0 0 ⟨0, by omega, rfl⟩ (fun j x _ hj hI => ?_)
  · exact this
  · obtain ⟨m, hm, rfl⟩ := hI
    by_cases hp : p j = true
    · obtain ⟨e, hc⟩ := cg_ok h (r := j) (by omega)
      show ∃ m', m' ≤ 9 ∧ (if p j = true then mxI (nI m) (cgI gr j + 1) else nI m) = nI m'
      rw [if_pos hp, e, nI_s]
      unfold mxI
      by_cases h2 : nI m < nI (cgN gr j + 1)
      · rw [if_pos h2]; exact ⟨_, by omega, rfl⟩
      · rw [if_neg h2]; exact ⟨m, hm, rfl⟩
    · show ∃ m', m' ≤ 9 ∧ (if p j = true then mxI (nI m) (cgI gr j + 1) else nI m) = nI m'
      rw [if_neg hp]; exact ⟨m, hm, rfl⟩
theorem mwg18_eq {k wd : Nat} (hk : k ≤ 9) (hw : wd < 64) (said : Nat → Int64) (many : Nat → Int32) (hm : many 1 = nI k) (gr : Nat → Int32) (hg : grOK gr k) : lp_X8_worldGrade_18 said many gr (nI wd) fu 0 0 = some (rnk gr (fun r => bl (brk (fun i => said (9 + i)) (fun i => said (18 + i)) r) wd) k) := by
  unfold rnk
  refine (lp_fo (fun n a i => lp_X8_worldGrade_18 said many gr (nI wd) n a i) k _ some (fun _ x => ∃ m, m ≤ 9 ∧ x = nI m) (fun n a _ => ?_) (fun n a i hi hI => ?_) k 0 0 fu (by omega) (by rw [fu_eq]; omega) ⟨0, by omega, rfl⟩).1
  · show lp_X8_worldGrade_18 _ _ _ _ (n + 1) _ _ = _
    rw [lp_X8_worldGrade_18, gd1, m1c, hm, if_pos (by rw [nle (by omega) (by omega)]; omega)]
  · obtain ⟨m, hm9, rfl⟩ := hI
    show lp_X8_worldGrade_18 _ _ _ _ (n + 1) _ _ = _ ∧ _
    rw [lp_X8_worldGrade_18, gd1, m1c, hm, if_neg (by rw [nle (by omega) (by omega)]; omega), mbroken_eq (by omega), bd_s, has_eq _ hw, bd_s]
    unfold jn_X8_worldGrade_51
    by_cases hb : bl (brk (fun i => said (9 + i)) (fun i => said (18 + i)) i) wd = true
    · obtain ⟨e, hc⟩ := cg_ok hg hi
      rw [if_pos hb, if_neg z10, mcounted_eq gr (by omega), bd_s, if_pos hb, e, nI_s]
      unfold mxI
      by_cases h2 : nI m < nI (cgN gr i + 1)
      · rw [if_pos h2, if_neg (by rw [nle (by omega) (by omega)]; rw [nlt (by omega) (by omega)] at h2; omega), lt_y, nI_s]
        exact ⟨rfl, _, by omega, rfl⟩
      · rw [if_neg h2, if_pos (by rw [nle (by omega) (by omega)]; rw [nlt (by omega) (by omega)] at h2; omega), lt_y, nI_s]
        exact ⟨rfl, m, hm9, rfl⟩
    · rw [if_neg hb, if_pos rfl, if_neg hb, if_pos (by rw [i0, nle (by decide) (by omega)]; omega), lt_y, nI_s]
      exact ⟨rfl, m, hm9, rfl⟩
def WG (th : Int64) (w t : Nat → Int64) (k : Nat) (gr : Nat → Int32) (wd : Nat) : Int32 := if bl th wd = true then rnk gr (fun r => bl (brk w t r) wd) k else -9
theorem rank_eq {k wd : Nat} (hk : k ≤ 9) (hw : wd < 64) (th : Int64) (w t : Nat → Int64) (gr : Nat → Int32) : f_X2_rank th (nI k) w (nI k) t gr (nI wd) = some (WG th w t k gr wd) := by
  unfold f_X2_rank WG
  rw [holds_eq _ hw, bd_s]
  by_cases h : bl th wd = true
  · rw [if_pos h, if_neg z10, brokenIn_eq hk hw, bd_s, rankOf_eq hk, bd_s, if_pos h]
    rw [rnk_congr (q := fun r => bl (brk w t r) wd) (fun _ _ => rfl) (fun r hr => bt_brkn hk hr)]
  · rw [if_neg h, if_pos rfl, if_neg h]
theorem worldGrade_eq {k k0 wd : Nat} (hk : k ≤ 9) (hk0 : k0 ≤ 9) (hw : wd < 64) (said : Nat → Int64) (many : Nat → Int32) (hm0 : many 0 = nI k0) (hm : many 1 = nI k) (gr : Nat → Int32) (hg : grOK gr k) : f_X8_worldGrade said many gr (nI wd) = some (WG (meet said k0) (fun i => said (9 + i)) (fun i => said (18 + i)) k gr wd) := by
  unfold f_X8_worldGrade WG
  rw [thereNow_eq hk0 said many hm0, bd_s, has_eq _ hw, bd_s]
  by_cases h : bl (meet said k0) wd = true
  · rw [if_pos h, if_neg z10, mwg18_eq hk hw said many hm gr hg, if_pos h]
  · rw [if_neg h, if_pos rfl, if_neg h]
theorem WG_congr {w t w' t' : Nat → Int64} {gr gr' : Nat → Int32} {k : Nat} (hw : ∀ i, i < k → w i = w' i) (ht : ∀ i, i < k → t i = t' i) (hg : ∀ r, r < k → gr r = gr' r) (th : Int64) (wd : Nat) : WG th w t k gr wd = WG th w' t' k gr' wd := by
  unfold WG
  rw [rnk_congr hg (fun r hr => by rw [brk_congr hw ht r hr])]
-- ---- sums of powers
def val (B : Nat) (d : Nat → Nat) : Nat → Nat
  | 0 => 0
  | n + 1 => val B d n + d n * B ^ n
theorem val_lt {B : Nat} {d : Nat → Nat} (hd : ∀ g, d g + 1 ≤ B) : ∀ n, val B d n < B ^ n
  | 0 => by simp [val]
  | n + 1 => by
    have h1 := val_lt hd n
    have h2 : (d n + 1) * B ^ n ≤ B * B ^ n := Nat.mul_le_mul_right _ (hd n)
    have h3 : B * B ^ n = B ^ (n + 1) := by rw [Nat.pow_succ, Nat.mul_comm]
    have h4 : (d n + 1) * B ^ n = d n * B ^ n + B ^ n := Nat.succ_mul _ _
    show val B d n + d n * B ^ n < _
    omega
theorem val_top {B : Nat} {d e : Nat → Nat} (hd : ∀ g, d g + 1 ≤ B) {n : Nat} (h : d n < e n) : val B d (n + 1) < val B e (n + 1) := by
  have h1 := val_lt hd n
  have h2 : (d n + 1) * B ^ n ≤ e n * B ^ n := Nat.mul_le_mul_right _ h
  have h4 : (d n + 1) * B ^ n = d n * B ^ n + B ^ n := Nat.succ_mul _ _
  show val B d n + d n * B ^ n < val B e n + e n * B ^ n
  omega
theorem val_ord {B C : Nat} {d e : Nat → Nat} (hdB : ∀ g, d g + 1 ≤ B) (heB : ∀ g, e g + 1 ≤ B) (hdC : ∀ g, d g + 1 ≤ C) (heC : ∀ g, e g + 1 ≤ C) : ∀ n, val B d n < val B e n ↔ val C d n < val C e n
  | 0 => Iff.rfl
  | n + 1 => by
    have ih := val_ord hdB heB hdC heC n
    rcases Nat.lt_trichotomy (d n) (e n) with h | h | h
    · exact ⟨fun _ => val_top hdC h, fun _ => val_top hdB h⟩
    · show val B d n + d n * B ^ n < val B e n + e n * B ^ n ↔ val C d n + d n * C ^ n < val C e n + e n * C ^ n
      rw [h, Nat.add_lt_add_iff_right, Nat.add_lt_add_iff_right]
      exact ih
    · have a := val_top heB h
      have b := val_top heC h
      exact ⟨fun x => by omega, fun x => by omega⟩
theorem val_add (B : Nat) (d e : Nat → Nat) : ∀ n, val B (fun g => d g + e g) n = val B d n + val B e n
  | 0 => rfl
  | n + 1 => by
    show val B _ n + (d n + e n) * B ^ n = _
    rw [val_add B d e n, Nat.add_mul]
    show _ = val B d n + d n * B ^ n + (val B e n + e n * B ^ n)
    omega
theorem val_one (B a : Nat) : ∀ n, val B (fun g => if g = a then 1 else 0) n = if a < n then B ^ a else 0
  | 0 => by simp [val]
  | n + 1 => by
    show val B _ n + (if n = a then 1 else 0) * B ^ n = _
    rw [val_one B a n]
    by_cases h : n = a
    · subst h; simp
    · rw [if_neg h, Nat.zero_mul, Nat.add_zero]
      by_cases h2 : a < n
      · rw [if_pos h2, if_pos (by omega)]
      · rw [if_neg h2, if_neg (by omega)]
def dig (p : Nat → Bool) (c : Nat → Nat) (k g : Nat) : Nat := fb_ct (fun r => p r && decide (c r = g)) k
def smB (B : Nat) (p : Nat → Bool) (c : Nat → Nat) (k : Nat) : Nat := fb_sm (fun r => if p r = true then B ^ c r else 0) k
theorem smB_val (B : Nat) (p : Nat → Bool) (c : Nat → Nat) : ∀ k, (∀ r, r < k → c r < 9) → smB B p c k = val B (dig p c k) 9
  | 0, _ => by
    show 0 = _
    have : dig p c 0 = fun _ => 0 := rfl
    rw [this]; simp [val]
  | k + 1, h => by
    have ih := smB_val B p c k (fun r hr => h r (by omega))
    unfold smB at ih ⊢
    rw [fb_sm_succ, ih]
    have e : dig p c (k + 1) = fun g => dig p c k g + (if p k = true then (if g = c k then 1 else 0) else 0) := by
      funext g
      unfold dig
      rw [fb_ct_succ]
      congr 1
      by_cases hp : p k = true
      · by_cases hg : g = c k
        · subst hg; simp [hp]
        · simp [hp, hg, Ne.symm hg]
      · simp [hp]
    rw [e, val_add]
    congr 1
    by_cases hp : p k = true
    · simp only [hp, if_true]
      rw [val_one, if_pos (h k (by omega))]
    · simp only [hp, Bool.false_eq_true, if_false]
      simp [val]
theorem dig_le (p : Nat → Bool) (c : Nat → Nat) (k g : Nat) : dig p c k g ≤ k := fb_ct_le _ k
theorem smB_ord {p q : Nat → Bool} {c : Nat → Nat} {k : Nat} (hk : k ≤ 8) (hc : ∀ r, r < k → c r < 9) : smB 16 p c k < smB 16 q c k ↔ smB 9 p c k < smB 9 q c k := by
  rw [smB_val 16 p c k hc, smB_val 16 q c k hc, smB_val 9 p c k hc, smB_val 9 q c k hc]
  exact val_ord (fun g => by have := dig_le p c k g; omega) (fun g => by have := dig_le q c k g; omega) (fun g => by have := dig_le p c k g; omega) (fun g => by have := dig_le q c k g; omega) 9
theorem smB_lt {B : Nat} (hB : 9 ≤ B) (p : Nat → Bool) {c : Nat → Nat} {k : Nat} (hk : k ≤ 8) (hc : ∀ r, r < k → c r < 9) : smB B p c k < B ^ 9 := by
  rw [smB_val B p c k hc]
  exact val_lt (fun g => by have := dig_le p c k g; omega) 9
