-- ===== why =====
def gsd (gr : Int64) (gk : Nat → Int64) (k : Nat) (set : Int32) : Int64 := fo (fun g a => if bt set g = true then a &&& gk g else a) k 0 gr
theorem guessed_eq {k : Nat} (hk : k ≤ 6) (gr : Int64) (gk : Nat → Int64) (set : Int32) : f_X2_guessed gr (nI k) gk set = some (gsd gr gk k set) := by
  unfold f_X2_guessed gsd
  refine lp_fo0 (fun n a i => lp_X2_guessed_8 gr (nI k) gk set n a i) k _ some (by rw [fu_eq]; omega) (fun n a => ?_) (fun n a i hi => ?_) gr
  · show lp_X2_guessed_8 _ _ _ _ (n + 1) _ _ = _
    rw [lp_X2_guessed_8]
    show (if nI k ≤ nI k then some a else _) = _
    rw [if_pos (by rw [nle (by omega) (by omega)]; omega)]
  · show lp_X2_guessed_8 _ _ _ _ (n + 1) _ _ = _
    rw [lp_X2_guessed_8]
    show (if nI k ≤ nI i then some a else _) = _
    rw [if_neg (by rw [nle (by omega) (by omega)]; omega), inSet_eq _ (by omega), bd_s]
    by_cases hb : bt set i = true
    · rw [if_pos hb, if_neg z10, get_eq (by omega) hi, bd_s, lt_y, lt_y, nI_s, if_pos hb]
    · rw [if_neg hb, if_pos rfl, lt_y, nI_s, if_neg hb]
theorem bl_gsd (gr : Int64) (gk : Nat → Int64) (set : Int32) (w : Nat) : ∀ k, bl (gsd gr gk k set) w = true ↔ bl gr w = true ∧ ∀ g, g < k → bt set g = true → bl (gk g) w = true
  | 0 => ⟨fun h => ⟨h, fun g hg => absurd hg (Nat.not_lt_zero g)⟩, fun h => h.1⟩
  | k + 1 => by
    have ih := bl_gsd gr gk set w k
    unfold gsd at ih ⊢
    rw [fo_last, Nat.zero_add]
    by_cases hb : bt set k = true
    · rw [if_pos hb, bl_and, Bool.and_eq_true, ih]
      constructor
      · rintro ⟨⟨a, b⟩, c⟩
        refine ⟨a, fun g hg hs => ?_⟩
        by_cases e : g = k
        · subst e; exact c
        · exact b g (by omega) hs
      · rintro ⟨a, b⟩
        exact ⟨⟨a, fun g hg hs => b g (by omega) hs⟩, b k (by omega) hb⟩
    · rw [if_neg hb, ih]
      constructor
      · rintro ⟨a, b⟩
        refine ⟨a, fun g hg hs => ?_⟩
        by_cases e : g = k
        · subst e; exact absurd hs hb
        · exact b g (by omega) hs
      · rintro ⟨a, b⟩
        exact ⟨a, fun g hg hs => b g (by omega) hs⟩
def tlB (gr : Int64) (gk : Nat → Int64) (k : Nat) (th : Int64) (set : Int32) : Bool := !decide (gsd gr gk k set = 0) && decide ((gsd gr gk k set &&& (th ^^^ (-1))) = 0)
def wyB (gr : Int64) (gk : Nat → Int64) (k : Nat) (th : Int64) (set : Int32) : Bool := tlB gr gk k th set && alF (fun g => !bt set g || !decide ((gsd gr gk k (set &&& (one g ^^^ (-1))) &&& (th ^^^ (-1))) = 0)) k 0
theorem tw42 {k : Nat} (hk : k ≤ 6) (gr : Int64) (gk : Nat → Int64) (th : Int64) (set : Int32) : ∀ (c i n : Nat), i + c = k → c < n → lp_X2_tellsWhy_42 gr (nI k) gk set th n (nI i) = some (if alF (fun g => !bt set g || !decide ((gsd gr gk k (set &&& (one g ^^^ (-1))) &&& (th ^^^ (-1))) = 0)) c i = true then 1 else 0)
  | 0, i, n, h, hn => by
    obtain ⟨n, rfl⟩ : ∃ q, n = q + 1 := ⟨n - 1, by omega⟩
    rw [lp_X2_tellsWhy_42]
    show (if nI k ≤ nI i then some (1 : Int32) else _) = _
    rw [if_pos (by rw [nle (by omega) (by omega)]; omega)]
    rfl
  | c + 1, i, n, h, hn => by
    obtain ⟨n, rfl⟩ : ∃ q, n = q + 1 := ⟨n - 1, by omega⟩
    have ih := tw42 hk gr gk th set c (i + 1) n (by omega) (by omega)
    rw [lp_X2_tellsWhy_42]
    show (if nI k ≤ nI i then some (1 : Int32) else _) = some (if ((!bt set i || !decide ((gsd gr gk k (set &&& (one i ^^^ (-1))) &&& (th ^^^ (-1))) = 0)) && alF _ c (i + 1)) = true then 1 else 0)
    rw [if_neg (by rw [nle (by omega) (by omega)]; omega), inSet_eq _ (by omega), bd_s]
    by_cases hb : bt set i = true
    · rw [if_pos hb, if_neg z10, show ((1 : Int32) <<< (nI i &&& 31)) = one i from rfl, guessed_eq hk, bd_s, allIn_eq, bd_s]
      by_cases hz : (gsd gr gk k (set &&& (one i ^^^ (-1))) &&& (th ^^^ (-1))) = 0
      · rw [if_pos hz, if_neg z10, decide_eq_true hz, hb]
        rfl
      · rw [if_neg hz, if_pos rfl, lt_y, nI_s, decide_eq_false hz, hb]
        exact ih
    · have hf : bt set i = false := by cases hh : bt set i; rfl; exact absurd hh hb
      rw [if_neg hb, if_pos rfl, lt_y, nI_s, hf]
      exact ih
theorem tellsWhy_eq {k s : Nat} (hk : k ≤ 6) (hs : s < 65536) (gr : Int64) (gk : Nat → Int64) (th : Int64) : f_X2_tellsWhy gr (nI k) gk (nI s) th = some (if (decide (s < 2 ^ k) && wyB gr gk k th (nI s)) = true then 1 else 0) := by
  unfold f_X2_tellsWhy
  show (if ushI (nI s) (nI k) = (0 : Int32) then _ else _) = _
  by_cases h : s < 2 ^ k
  · rw [if_pos ((ush_z hs (by omega)).mpr h), guessed_eq hk, bd_s, decide_eq_true h, Bool.true_and]
    unfold wyB tlB
    by_cases h0 : gsd gr gk k (nI s) = 0
    · rw [if_pos h0, decide_eq_true h0]; rfl
    · rw [if_neg h0, allIn_eq, bd_s, decide_eq_false h0]
      by_cases h1 : (gsd gr gk k (nI s) &&& (th ^^^ (-1))) = 0
      · rw [if_pos h1, if_neg z10, decide_eq_true h1]
        exact tw42 hk gr gk th (nI s) k 0 fu (by omega) (by rw [fu_eq]; omega)
      · rw [if_neg h1, if_pos rfl, decide_eq_false h1]; rfl
  · rw [if_neg (fun z => h ((ush_z hs (by omega)).mp z)), decide_eq_false h]; rfl
theorem m4c : (4 : Int32).toNatClampNeg = 4 := by decide
theorem gd4 {α : Type} {x : Option α} : gd (ib (4 : Int32) 5) x = x := gd_y (by decide)
theorem ad36 (r : Nat) : (36 : Int32) + nI r = nI (36 + r) := nI_add 36 r
theorem tells_eq {k : Nat} (hk : k ≤ 6) (th gr : Int64) (said : Nat → Int64) (many : Nat → Int32) (hm : many 4 = nI k) (hg : f_X8_groundNow said many = some gr) (set : Int32) : f_X8_tells th said many set = some (if tlB gr (fun i => said (36 + i)) k th set = true then 1 else 0) := by
  unfold f_X8_tells
  rw [hg, bd_s]
  have e := lp_fo0 (fun n a i => lp_X8_tells_8 th said many set n a i) k (fun g a => if bt set g = true then a &&& said (36 + g) else a) (fun v => jn_X8_tells_54 th said many set v) (by rw [fu_eq]; omega) (fun n a => ?_) (fun n a i hi => ?_) gr
  · refine e.trans ?_
    unfold jn_X8_tells_54 tlB
    show (if gsd gr (fun i => said (36 + i)) k set = 0 then some (0 : Int32) else if (gsd gr (fun i => said (36 + i)) k set &&& (th ^^^ (-1))) = 0 then some 1 else some 0) = _
    by_cases h0 : gsd gr (fun i => said (36 + i)) k set = 0
    · rw [if_pos h0, decide_eq_true h0]; rfl
    · rw [if_neg h0, decide_eq_false h0]
      by_cases h1 : (gsd gr (fun i => said (36 + i)) k set &&& (th ^^^ (-1))) = 0
      · rw [if_pos h1, decide_eq_true h1]; rfl
      · rw [if_neg h1, decide_eq_false h1]; rfl
  · show lp_X8_tells_8 _ _ _ _ (n + 1) _ _ = _
    rw [lp_X8_tells_8, gd4, m4c, hm, if_pos (by rw [nle (by omega) (by omega)]; omega)]
  · show lp_X8_tells_8 _ _ _ _ (n + 1) _ _ = _
    rw [lp_X8_tells_8, gd4, m4c, hm, if_neg (by rw [nle (by omega) (by omega)]; omega)]
    by_cases hb : bt set i = true
    · rw [if_pos ((sr1 set (by omega)).mpr hb), ad36, gdi (by omega) (by decide), clp (by omega), lt_y, lt_y, nI_s, if_pos hb]
    · rw [if_neg (fun z => hb ((sr1 set (by omega)).mp z)), lt_y, lt_y, nI_s, if_neg hb, andm1]
theorem xor_one {x : Int32} {r : Nat} (hr : r < 32) (h : bt x r = true) : x ^^^ one r = x &&& (one r ^^^ (-1)) := by
  apply b_ext
  intro i hi
  rw [b_xor, b_and, b_not hi, bt_one hr]
  by_cases e : i = r
  · subst e; rw [h]; simp
  · simp [e]
theorem wy8 {k : Nat} (hk : k ≤ 6) (th gr : Int64) (said : Nat → Int64) (many : Nat → Int32) (hm : many 4 = nI k) (hg : f_X8_groundNow said many = some gr) (set : Int32) (hs : tlB gr (fun i => said (36 + i)) k th set = true) : ∀ (c i n : Nat), i + c = k → c < n → lp_X8_isWhy_8 th said many set n 1 (nI i) = some (if alF (fun g => !bt set g || !decide ((gsd gr (fun i => said (36 + i)) k (set &&& (one g ^^^ (-1))) &&& (th ^^^ (-1))) = 0)) c i = true then 1 else 0)
  | 0, i, n, h, hn => by
    obtain ⟨n, rfl⟩ : ∃ q, n = q + 1 := ⟨n - 1, by omega⟩
    rw [lp_X8_isWhy_8, gd4, m4c, hm, if_pos (by rw [nle (by omega) (by omega)]; omega), gd_y zb_1]
    rfl
  | c + 1, i, n, h, hn => by
    obtain ⟨n, rfl⟩ : ∃ q, n = q + 1 := ⟨n - 1, by omega⟩
    have ih := wy8 hk th gr said many hm hg set hs c (i + 1) n (by omega) (by omega)
    rw [lp_X8_isWhy_8, gd4, m4c, hm, if_neg (by rw [nle (by omega) (by omega)]; omega), if_neg z10]
    show _ = some (if ((!bt set i || !decide ((gsd gr (fun i => said (36 + i)) k (set &&& (one i ^^^ (-1))) &&& (th ^^^ (-1))) = 0)) && alF _ c (i + 1)) = true then 1 else 0)
    by_cases hb : bt set i = true
    · rw [if_neg (fun z => by rw [sr0 set (by omega)] at z; rw [z] at hb; cases hb), show ((1 : Int32) <<< (nI i &&& 31)) = one i from rfl, xor_one (by omega) hb, tells_eq hk th gr said many hm hg, bd_s, hb]
      have hne : ¬ gsd gr (fun i => said (36 + i)) k (set &&& (one i ^^^ (-1))) = 0 := by
        intro z
        unfold tlB at hs
        rw [Bool.and_eq_true, Bool.not_eq_true', decide_eq_false_iff_not] at hs
        apply hs.1
        apply bl_ext
        intro w hw
        rw [bl_0]
        cases hc : bl (gsd gr (fun i => said (36 + i)) k set) w
        · rfl
        · have h1 := (bl_gsd gr (fun i => said (36 + i)) set w k).mp hc
          have h2 : bl (gsd gr (fun i => said (36 + i)) k (set &&& (one i ^^^ (-1)))) w = true := (bl_gsd gr (fun i => said (36 + i)) _ w k).mpr ⟨h1.1, fun g hg hs2 => h1.2 g hg (by rw [b_and, Bool.and_eq_true] at hs2; exact hs2.1)⟩
          rw [z, bl_0] at h2; cases h2
      by_cases hz : (gsd gr (fun i => said (36 + i)) k (set &&& (one i ^^^ (-1))) &&& (th ^^^ (-1))) = 0
      · have ht : tlB gr (fun i => said (36 + i)) k th (set &&& (one i ^^^ (-1))) = true := by unfold tlB; rw [decide_eq_false hne, decide_eq_true hz]; rfl
        rw [ht, if_pos rfl, if_neg z10, lt_y, nI_s, decide_eq_true hz]
        obtain ⟨n, rfl⟩ : ∃ q, n = q + 1 := ⟨n - 1, by omega⟩
        rw [lp_X8_isWhy_8, gd4, m4c, hm]
        by_cases h4 : nI k ≤ nI (i + 1)
        · rw [if_pos h4, gd_y zb_0]; rfl
        · rw [if_neg h4, if_pos rfl, gd_y zb_0]; rfl
      · have ht : tlB gr (fun i => said (36 + i)) k th (set &&& (one i ^^^ (-1))) = false := by unfold tlB; rw [decide_eq_false hz, Bool.and_false]
        rw [ht, if_pos (show (if false = true then (1:Int32) else 0) = 0 from rfl), lt_y, nI_s, decide_eq_false hz]
        exact ih
    · have hf : bt set i = false := by cases hh : bt set i; rfl; exact absurd hh hb
      rw [if_pos ((sr0 set (by omega)).mpr hf), lt_y, nI_s, hf]
      exact ih
theorem isWhy_eq {k : Nat} (hk : k ≤ 6) (th gr : Int64) (said : Nat → Int64) (many : Nat → Int32) (hm : many 4 = nI k) (hg : f_X8_groundNow said many = some gr) (set : Int32) : f_X8_isWhy th said many set = some (if wyB gr (fun i => said (36 + i)) k th set = true then 1 else 0) := by
  unfold f_X8_isWhy
  rw [tells_eq hk th gr said many hm hg, bd_s]
  unfold wyB
  by_cases h : tlB gr (fun i => said (36 + i)) k th set = true
  · rw [if_pos h, h, Bool.true_and]
    exact wy8 hk th gr said many hm hg set h k 0 fu (by omega) (by rw [fu_eq]; omega)
  · have hf : tlB gr (fun i => said (36 + i)) k th set = false := by cases hh : tlB gr (fun i => said (36 + i)) k th set; rfl; exact absurd hh h
    rw [if_neg h, hf, Bool.false_and, fu_eq, lp_X8_isWhy_8, gd4, m4c, hm]
    by_cases h4 : nI k ≤ (0 : Int32)
    · rw [if_pos h4, gd_y zb_0]; rfl
    · rw [if_neg h4, if_pos rfl, gd_y zb_0]; rfl
theorem gsd_congr {gr : Int64} {f g : Nat → Int64} {k : Nat} (h : ∀ i, i < k → f i = g i) (set : Int32) : gsd gr f k set = gsd gr g k set := by
  unfold gsd
  exact fo_congr k 0 _ (fun j b _ hj => by rw [h j (by omega)])
theorem wyB_congr {gr : Int64} {f g : Nat → Int64} {k : Nat} (h : ∀ i, i < k → f i = g i) (th : Int64) (set : Int32) : wyB gr f k th set = wyB gr g k th set := by
  unfold wyB tlB
  rw [gsd_congr h, alF_congr k 0 (fun j _ _ => by rw [gsd_congr h])]
-- the search
def gC (x : Int32) : Nat → List Nat → (Nat → Option Int32) → Option Int32
  | m, [], K => K m
  | m, a :: L, K => if nI m = x then some (nI a) else gC x (m + 1) L K
theorem gC_app (x : Int32) : ∀ (L M : List Nat) (m : Nat) (K : Nat → Option Int32), gC x m (L ++ M) K = gC x m L (fun m' => gC x m' M K)
  | [], _, _, _ => rfl
  | a :: L, M, m, K => by
    show (if nI m = x then some (nI a) else gC x (m + 1) (L ++ M) K) = (if nI m = x then some (nI a) else gC x (m + 1) L (fun m' => gC x m' M K))
    rw [gC_app x L M (m + 1) K]
theorem gC_congr {x : Int32} {K K' : Nat → Option Int32} (h : ∀ m, K m = K' m) : ∀ (L : List Nat) (m : Nat), gC x m L K = gC x m L K'
  | [], m => h m
  | a :: L, m => by
    show (if nI m = x then some (nI a) else gC x (m + 1) L K) = (if nI m = x then some (nI a) else gC x (m + 1) L K')
    rw [gC_congr h L (m + 1)]
def flt (Ls : Nat → List Nat) : Nat → Nat → List Nat
  | 0, _ => []
  | c + 1, z => Ls z ++ flt Ls c (z + 1)
theorem why20 {k : Nat} (hk : k ≤ 6) (th gr : Int64) (gk : Nat → Int64) (x : Int32) (K : Int32 → Int32 → Option Int32) {z : Nat} (hz : z < 7) : ∀ (c i m n : Nat), i + c = 64 → c < n → lp_X7_why_20 th gr (nI k) gk x K (nI z) n (nI m) (nI i) = gC x m (enL (fun s => decide (pc6 s = z) && (decide (s < 2 ^ k) && wyB gr gk k th (nI s))) c i) (fun m' => K (nI m') (nI (z + 1)))
  | 0, i, m, n, h, hn => by
    obtain ⟨n, rfl⟩ : ∃ q, n = q + 1 := ⟨n - 1, by omega⟩
    rw [lp_X7_why_20, if_pos (by rw [i64, nle (by decide) (by omega)]; omega), lt_y, nI_s]
    rfl
  | c + 1, i, m, n, h, hn => by
    obtain ⟨n, rfl⟩ : ∃ q, n = q + 1 := ⟨n - 1, by omega⟩
    have hp6 : pc6 i ≤ 6 := fb_ct_le _ 6
    rw [lp_X7_why_20, if_neg (by rw [i64, nle (by decide) (by omega)]; omega), bitCountI_eq i (by omega), bd_s]
    unfold enL
    by_cases h1 : pc6 i = z
    · rw [if_pos (by rw [h1]), tellsWhy_eq hk (by omega), bd_s, decide_eq_true h1, Bool.true_and]
      by_cases h2 : (decide (i < 2 ^ k) && wyB gr gk k th (nI i)) = true
      · rw [if_pos h2, if_neg z10, if_pos h2]
        show _ = (if nI m = x then some (nI i) else gC x (m + 1) _ _)
        by_cases h3 : nI m = x
        · rw [if_pos h3, if_pos h3]
        · rw [if_neg h3, if_neg h3, lt_y, lt_y, nI_s, nI_s]
          exact why20 hk th gr gk x K hz c (i + 1) (m + 1) n (by omega) (by omega)
      · rw [if_neg h2, if_pos rfl, lt_y, nI_s, if_neg h2]
        exact why20 hk th gr gk x K hz c (i + 1) m n (by omega) (by omega)
    · rw [if_neg (by rw [neq (by omega) (by omega)]; exact h1), lt_y, nI_s, decide_eq_false h1, Bool.false_and, if_neg (by decide)]
      exact why20 hk th gr gk x K hz c (i + 1) m n (by omega) (by omega)
theorem why11 {k : Nat} (hk : k ≤ 6) (th gr : Int64) (gk : Nat → Int64) (x : Int32) : ∀ (c z m n : Nat), z + c = 7 → c < n → lp_X7_why_11 th gr (nI k) gk x n (nI m) (nI z) = gC x m (flt (fun z => enL (fun s => decide (pc6 s = z) && (decide (s < 2 ^ k) && wyB gr gk k th (nI s))) 64 0) c z) (fun m' => if x = -1 then some (nI m') else some (-1))
  | 0, z, m, n, h, hn => by
    obtain ⟨n, rfl⟩ : ∃ q, n = q + 1 := ⟨n - 1, by omega⟩
    rw [lp_X7_why_11, if_pos (by rw [i6, nlt (by decide) (by omega)]; omega)]
    rfl
  | c + 1, z, m, n, h, hn => by
    obtain ⟨n, rfl⟩ : ∃ q, n = q + 1 := ⟨n - 1, by omega⟩
    rw [lp_X7_why_11, if_neg (by rw [i6, nlt (by decide) (by omega)]; omega)]
    show _ = gC x m (enL _ 64 0 ++ flt _ c (z + 1)) _
    rw [gC_app]
    refine (why20 hk th gr gk x _ (by omega) 64 0 m fu (by decide) (by decide)).trans ?_
    exact gC_congr (fun m' => why11 hk th gr gk x c (z + 1) m' n (by omega) (by omega)) _ _
theorem why24 {k : Nat} (hk : k ≤ 6) (th gr : Int64) (said : Nat → Int64) (many : Nat → Int32) (hm : many 4 = nI k) (hg : f_X8_groundNow said many = some gr) (x : Int32) (K : Int32 → Int32 → Option Int32) {z : Nat} (hz : z < 7) : ∀ (c i m n : Nat), i + c = 2 ^ k → c < n → lp_X8_why_24 th said many x K (nI z) n (nI m) (nI i) = gC x m (enL (fun s => decide (pc6 s = z) && wyB gr (fun i => said (36 + i)) k th (nI s)) c i) (fun m' => K (nI m') (nI (z + 1)))
  | 0, i, m, n, h, hn => by
    obtain ⟨n, rfl⟩ : ∃ q, n = q + 1 := ⟨n - 1, by omega⟩
    have h64 : 2 ^ k ≤ 64 := show 2 ^ k ≤ 2 ^ 6 from Nat.pow_le_pow_right (by decide) hk
    rw [lp_X8_why_24, gd4, m4c, hm, pow_one k (by omega), if_pos (by rw [nle (by omega) (by omega)]; omega), lt_y, nI_s]
    rfl
  | c + 1, i, m, n, h, hn => by
    obtain ⟨n, rfl⟩ : ∃ q, n = q + 1 := ⟨n - 1, by omega⟩
    have h64 : 2 ^ k ≤ 64 := show 2 ^ k ≤ 2 ^ 6 from Nat.pow_le_pow_right (by decide) hk
    have hp6 : pc6 i ≤ 6 := fb_ct_le _ 6
    rw [lp_X8_why_24, gd4, m4c, hm, pow_one k (by omega), if_neg (by rw [nle (by omega) (by omega)]; omega), sizeOf_small (by omega), bd_s]
    unfold enL
    by_cases h1 : pc6 i = z
    · rw [if_pos (by rw [h1]), isWhy_eq hk th gr said many hm hg, bd_s, decide_eq_true h1, Bool.true_and]
      by_cases h2 : wyB gr (fun i => said (36 + i)) k th (nI i) = true
      · rw [if_pos h2, if_neg z10, if_pos h2]
        show _ = (if nI m = x then some (nI i) else gC x (m + 1) _ _)
        by_cases h3 : nI m = x
        · rw [if_pos h3, if_pos h3]
        · rw [if_neg h3, if_neg h3, lt_y, lt_y, nI_s, nI_s]
          exact why24 hk th gr said many hm hg x K hz c (i + 1) (m + 1) n (by omega) (by omega)
      · rw [if_neg h2, if_pos rfl, lt_y, nI_s, if_neg h2]
        exact why24 hk th gr said many hm hg x K hz c (i + 1) m n (by omega) (by omega)
    · rw [if_neg (by rw [neq (by omega) (by omega)]; exact h1), lt_y, nI_s, decide_eq_false h1, Bool.false_and, if_neg (by decide)]
      exact why24 hk th gr said many hm hg x K hz c (i + 1) m n (by omega) (by omega)
theorem mwhy11 {k : Nat} (hk : k ≤ 6) (th gr : Int64) (said : Nat → Int64) (many : Nat → Int32) (hm : many 4 = nI k) (hg : f_X8_groundNow said many = some gr) (x : Int32) : ∀ (c z m n : Nat), z + c = k + 1 → c < n → lp_X8_why_11 th said many x n (nI m) (nI z) = gC x m (flt (fun z => enL (fun s => decide (pc6 s = z) && wyB gr (fun i => said (36 + i)) k th (nI s)) (2 ^ k) 0) c z) (fun m' => if x = -1 then some (nI m') else some (-1))
  | 0, z, m, n, h, hn => by
    obtain ⟨n, rfl⟩ : ∃ q, n = q + 1 := ⟨n - 1, by omega⟩
    rw [lp_X8_why_11, gd4, m4c, hm, if_pos (by rw [nlt (by omega) (by omega)]; omega)]
    rfl
  | c + 1, z, m, n, h, hn => by
    obtain ⟨n, rfl⟩ : ∃ q, n = q + 1 := ⟨n - 1, by omega⟩
    have h64 : 2 ^ k ≤ 64 := show 2 ^ k ≤ 2 ^ 6 from Nat.pow_le_pow_right (by decide) hk
    rw [lp_X8_why_11, gd4, m4c, hm, if_neg (by rw [nlt (by omega) (by omega)]; omega)]
    show _ = gC x m (enL _ (2 ^ k) 0 ++ flt _ c (z + 1)) _
    rw [gC_app]
    refine (why24 hk th gr said many hm hg x _ (by omega) (2 ^ k) 0 m fu (by omega) (by rw [fu_eq]; omega)).trans ?_
    exact gC_congr (fun m' => mwhy11 hk th gr said many hm hg x c (z + 1) m' n (by omega) (by omega)) _ _
theorem enL_split (p : Nat → Bool) : ∀ (c d i : Nat), enL p (c + d) i = enL p c i ++ enL p d (i + c)
  | 0, d, i => by rw [Nat.zero_add]; rfl
  | c + 1, d, i => by
    rw [show c + 1 + d = (c + d) + 1 by omega]
    show (if p i = true then i :: enL p (c + d) (i + 1) else enL p (c + d) (i + 1)) = (if p i = true then i :: enL p c (i + 1) else enL p c (i + 1)) ++ enL p d (i + (c + 1))
    rw [enL_split p c d (i + 1), show i + 1 + c = i + (c + 1) by omega]
    by_cases h : p i = true
    · rw [if_pos h, if_pos h]; rfl
    · rw [if_neg h, if_neg h]
theorem enL_nil {p : Nat → Bool} : ∀ (c i : Nat), (∀ j, i ≤ j → j < i + c → p j = false) → enL p c i = []
  | 0, _, _ => rfl
  | c + 1, i, h => by
    unfold enL
    rw [if_neg (by rw [h i (Nat.le_refl i) (by omega)]; decide)]
    exact enL_nil c (i + 1) (fun j h1 h2 => h j (by omega) (by omega))
theorem enL_congr {p q : Nat → Bool} : ∀ (c i : Nat), (∀ j, i ≤ j → j < i + c → p j = q j) → enL p c i = enL q c i
  | 0, _, _ => rfl
  | c + 1, i, h => by
    unfold enL
    rw [h i (Nat.le_refl i) (by omega), enL_congr c (i + 1) (fun j h1 h2 => h j (by omega) (by omega))]
theorem flt_split (Ls : Nat → List Nat) : ∀ (c d z : Nat), flt Ls (c + d) z = flt Ls c z ++ flt Ls d (z + c)
  | 0, d, z => by rw [Nat.zero_add]; rfl
  | c + 1, d, z => by
    rw [show c + 1 + d = (c + d) + 1 by omega]
    show Ls z ++ flt Ls (c + d) (z + 1) = (Ls z ++ flt Ls c (z + 1)) ++ flt Ls d (z + (c + 1))
    rw [flt_split Ls c d (z + 1), List.append_assoc, show z + 1 + c = z + (c + 1) by omega]
theorem flt_nil {Ls : Nat → List Nat} : ∀ (c z : Nat), (∀ j, z ≤ j → j < z + c → Ls j = []) → flt Ls c z = []
  | 0, _, _ => rfl
  | c + 1, z, h => by
    show Ls z ++ flt Ls c (z + 1) = []
    rw [h z (Nat.le_refl z) (by omega), flt_nil c (z + 1) (fun j h1 h2 => h j (by omega) (by omega))]; rfl
theorem flt_congr {Ls Ms : Nat → List Nat} : ∀ (c z : Nat), (∀ j, z ≤ j → j < z + c → Ls j = Ms j) → flt Ls c z = flt Ms c z
  | 0, _, _ => rfl
  | c + 1, z, h => by
    show Ls z ++ flt Ls c (z + 1) = Ms z ++ flt Ms c (z + 1)
    rw [h z (Nat.le_refl z) (by omega), flt_congr c (z + 1) (fun j h1 h2 => h j (by omega) (by omega))]
theorem pc6_le {s k : Nat} (hk : k ≤ 6) (hs : s < 2 ^ k) : pc6 s ≤ k := by
  unfold pc6
  rw [show 6 = k + (6 - k) by omega, fb_ct_split]
  have : fb_ct (fun j => s.testBit (k + j)) (6 - k) = 0 := fb_ct_zero.mpr (fun j _ => Nat.testBit_lt_two_pow (Nat.lt_of_lt_of_le hs (Nat.pow_le_pow_right (by decide) (by omega))))
  rw [this, Nat.add_zero]
  exact fb_ct_le _ k
theorem why_same {k : Nat} (hk : k ≤ 6) (th gr : Int64) (gk : Nat → Int64) (said : Nat → Int64) (many : Nat → Int32) (hm : many 4 = nI k) (hg : f_X8_groundNow said many = some gr) (hgk : ∀ i, i < k → gk i = said (36 + i)) (x : Int32) : f_X7_why th gr (nI k) gk x = f_X8_why th said many x := by
  unfold f_X7_why f_X8_why
  by_cases hx : (-1 : Int32) ≤ x
  · rw [if_pos hx, if_pos hx]
    refine (why11 hk th gr gk x 7 0 0 fu (by decide) (by decide)).trans (Eq.trans ?_ (mwhy11 hk th gr said many hm hg x (k + 1) 0 0 fu (by omega) (by rw [fu_eq]; omega)).symm)
    congr 1
    have h64 : 2 ^ k ≤ 64 := show 2 ^ k ≤ 2 ^ 6 from Nat.pow_le_pow_right (by decide) hk
    have e1 : ∀ z, enL (fun s => decide (pc6 s = z) && (decide (s < 2 ^ k) && wyB gr gk k th (nI s))) 64 0 = enL (fun s => decide (pc6 s = z) && wyB gr (fun i => said (36 + i)) k th (nI s)) (2 ^ k) 0 := fun z => by
      rw [show 64 = 2 ^ k + (64 - 2 ^ k) by omega, enL_split, enL_nil (64 - 2 ^ k) (0 + 2 ^ k) (fun j h1 h2 => by rw [decide_eq_false (show ¬ j < 2 ^ k by omega)]; simp), List.append_nil]
      exact enL_congr _ _ (fun j _ hj => by rw [decide_eq_true (show j < 2 ^ k by omega), Bool.true_and, wyB_congr hgk])
    rw [show 7 = (k + 1) + (6 - k) by omega, flt_split, flt_nil (6 - k) (0 + (k + 1)) (fun z h1 h2 => by
      rw [e1 z]
      exact enL_nil _ _ (fun j _ hj => by rw [decide_eq_false (fun h => by have := pc6_le hk (show j < 2 ^ k by omega); omega), Bool.false_and])), List.append_nil]
    exact flt_congr _ _ (fun z _ _ => e1 z)
  · rw [if_neg hx, if_neg hx]
