-- ===== how many bits =====
def vb : List Nat → Nat
  | [] => 0
  | a :: l => a + 256 * vb l
def pc8 (a : Nat) : Nat := fb_ct (fun j => a.testBit j) 8
theorem tb_lo {a b i : Nat} (ha : a < 256) (hi : i < 8) : (a + 256 * b).testBit i = a.testBit i := by
  have := Nat.testBit_two_pow_mul_add b (show a < 2 ^ 8 from ha) i
  rw [if_pos hi] at this
  rw [Nat.add_comm]; exact this
theorem tb_hi {a b i : Nat} (ha : a < 256) (hi : 8 ≤ i) : (a + 256 * b).testBit i = b.testBit (i - 8) := by
  have := Nat.testBit_two_pow_mul_add b (show a < 2 ^ 8 from ha) i
  rw [if_neg (by omega)] at this
  rw [Nat.add_comm]; exact this
theorem ctb : ∀ l : List Nat, (∀ a ∈ l, a < 256) → fb_ct (fun k => (vb l).testBit k) (8 * l.length) = (l.map pc8).sum
  | [], _ => rfl
  | a :: l, h => by
    have ha := h a List.mem_cons_self
    have ih := ctb l (fun b hb => h b (List.mem_cons_of_mem _ hb))
    rw [List.length_cons, show 8 * (l.length + 1) = 8 + 8 * l.length by omega, fb_ct_split, List.map_cons, List.sum_cons]
    congr 1
    · exact fb_ct_cong (fun k hk => tb_lo ha hk)
    · rw [← ih]
      exact fb_ct_cong (fun k hk => by
        show (a + 256 * vb l).testBit (8 + k) = _
        rw [tb_hi ha (by omega), Nat.add_sub_cancel_left])
theorem shm {s m : Nat} (hs : s ≤ 8) (hm : m < 2 ^ (8 - s)) : ∀ l : List Nat, (∀ a ∈ l, a < 256) → (vb l / 2 ^ s) &&& vb (l.map (fun _ => m)) = vb (l.map (fun a => (a / 2 ^ s) &&& m))
  | [], _ => by
    show (0 / 2 ^ s) &&& 0 = 0
    rw [Nat.and_zero]
  | a :: l, h => by
    have ha := h a List.mem_cons_self
    have ih := shm hs hm l (fun b hb => h b (List.mem_cons_of_mem _ hb))
    have hm8 : m < 256 := Nat.lt_of_lt_of_le hm (show 2 ^ (8 - s) ≤ 2 ^ 8 from Nat.pow_le_pow_right (by decide) (by omega))
    show ((a + 256 * vb l) / 2 ^ s) &&& (m + 256 * vb (l.map (fun _ => m))) = ((a / 2 ^ s) &&& m) + 256 * vb (l.map (fun a => (a / 2 ^ s) &&& m))
    have hlt : (a / 2 ^ s) &&& m < 256 := Nat.lt_of_le_of_lt Nat.and_le_right hm8
    apply Nat.eq_of_testBit_eq
    intro i
    rw [Nat.testBit_and, Nat.testBit_div_two_pow]
    rcases Nat.lt_or_ge i 8 with hi | hi
    · rw [tb_lo hm8 hi, tb_lo hlt hi, Nat.testBit_and, Nat.testBit_div_two_pow]
      rcases Nat.lt_or_ge i (8 - s) with h2 | h2
      · rw [tb_lo ha (by omega)]
      · have : m.testBit i = false := Nat.testBit_lt_two_pow (Nat.lt_of_lt_of_le hm (Nat.pow_le_pow_right (by decide) h2))
        rw [this, Bool.and_false, Bool.and_false]
    · rw [tb_hi hm8 hi, tb_hi hlt hi, ← ih, Nat.testBit_and, Nat.testBit_div_two_pow, tb_hi ha (by omega), show i + s - 8 = i - 8 + s by omega]
theorem subm {f : Nat → Nat} : ∀ l : List Nat, (∀ a ∈ l, f a ≤ a) → vb (l.map f) ≤ vb l ∧ vb l - vb (l.map f) = vb (l.map (fun a => a - f a))
  | [], _ => ⟨Nat.le_refl 0, rfl⟩
  | a :: l, h => by
    have ha := h a List.mem_cons_self
    obtain ⟨h1, h2⟩ := subm l (fun b hb => h b (List.mem_cons_of_mem _ hb))
    show f a + 256 * vb (l.map f) ≤ a + 256 * vb l ∧ (a + 256 * vb l) - (f a + 256 * vb (l.map f)) = (a - f a) + 256 * vb (l.map (fun a => a - f a))
    rw [← h2]
    omega
theorem addm {f g : Nat → Nat} : ∀ l : List Nat, vb (l.map f) + vb (l.map g) = vb (l.map (fun a => f a + g a))
  | [] => rfl
  | a :: l => by
    have ih := addm (f := f) (g := g) l
    show f a + 256 * vb (l.map f) + (g a + 256 * vb (l.map g)) = f a + g a + 256 * vb (l.map (fun a => f a + g a))
    omega
theorem nib : ∀ l : List Nat, (∀ a ∈ l, a % 16 ≤ 4 ∧ a / 16 ≤ 4) → vb l % 16 ≤ 4 ∧ (vb l + vb l / 16) &&& vb (l.map (fun _ => 15)) = vb (l.map (fun a => a % 16 + a / 16))
  | [], _ => ⟨by decide, by decide⟩
  | a :: l, h => by
    have ha := h a List.mem_cons_self
    obtain ⟨h0, ih⟩ := nib l (fun b hb => h b (List.mem_cons_of_mem _ hb))
    refine ⟨by show (a + 256 * vb l) % 16 ≤ 4; omega, ?_⟩
    show ((a + 256 * vb l) + (a + 256 * vb l) / 16) &&& (15 + 256 * vb (l.map (fun _ => 15))) = (a % 16 + a / 16) + 256 * vb (l.map (fun a => a % 16 + a / 16))
    have e : (a + 256 * vb l) + (a + 256 * vb l) / 16 = ((a % 16 + a / 16) + 16 * (a / 16 + vb l % 16)) + 256 * (vb l + vb l / 16) := by omega
    have hb : (a % 16 + a / 16) + 16 * (a / 16 + vb l % 16) < 256 := by omega
    rw [e]
    apply Nat.eq_of_testBit_eq
    intro i
    rw [Nat.testBit_and]
    rcases Nat.lt_or_ge i 8 with hi | hi
    · rw [tb_lo hb hi, tb_lo (by decide) hi, tb_lo (by omega) hi, ← Nat.testBit_and]
      have : ((a % 16 + a / 16) + 16 * (a / 16 + vb l % 16)) &&& 15 = a % 16 + a / 16 := by
        rw [show (15 : Nat) = 2 ^ 4 - 1 by decide, Nat.and_two_pow_sub_one_eq_mod]; omega
      rw [this]
    · rw [tb_hi hb hi, tb_hi (by decide) hi, tb_hi (by omega) hi, ← ih, Nat.testBit_and]
def s1 (a : Nat) : Nat := a - ((a / 2 ^ 1) &&& 85)
def s2 (a : Nat) : Nat := ((a / 2 ^ 0) &&& 51) + ((a / 2 ^ 2) &&& 51)
theorem byt : ∀ a, a < 256 → (a / 2 ^ 1) &&& 85 ≤ a ∧ s1 a < 256 ∧ s2 (s1 a) % 16 ≤ 4 ∧ s2 (s1 a) / 16 ≤ 4 ∧ s2 (s1 a) % 16 + s2 (s1 a) / 16 = pc8 a ∧ pc8 a ≤ 8 := by decide +kernel
theorem swar {l : List Nat} (h : ∀ a ∈ l, a < 256) (M5 M3 MF : Nat) (h5 : M5 = vb (l.map (fun _ => 85))) (h3 : M3 = vb (l.map (fun _ => 51))) (hF : MF = vb (l.map (fun _ => 15))) :
    ∃ x1 x2 x3 : Nat, ((vb l / 2) &&& M5) ≤ vb l ∧ x1 = vb l - ((vb l / 2) &&& M5) ∧ x2 = (x1 &&& M3) + ((x1 / 4) &&& M3) ∧ x3 = (x2 + x2 / 16) &&& MF ∧ x3 = vb (l.map pc8) ∧ x1 = vb (l.map s1) ∧ x2 = vb (l.map (fun a => s2 (s1 a))) := by
  have e1 : (vb l / 2) &&& M5 = vb (l.map (fun a => (a / 2 ^ 1) &&& 85)) := by rw [h5]; exact shm (s := 1) (by decide) (by decide) l h
  obtain ⟨q1, q2⟩ := subm (f := fun a => (a / 2 ^ 1) &&& 85) l (fun a ha => (byt a (h a ha)).1)
  have e2 : vb l - ((vb l / 2) &&& M5) = vb (l.map s1) := by rw [e1]; exact q2
  have hs1 : ∀ a ∈ l.map s1, a < 256 := fun a ha => by
    obtain ⟨b, hb, rfl⟩ := List.mem_map.mp ha
    exact (byt b (h b hb)).2.1
  have mm : ∀ m : Nat, (l.map s1).map (fun _ => m) = l.map (fun _ => m) := fun m => by rw [List.map_map]; rfl
  have e3 : (vb (l.map s1) &&& M3) + ((vb (l.map s1) / 4) &&& M3) = vb (l.map (fun a => s2 (s1 a))) := by
    have a1 := shm (s := 0) (m := 51) (by decide) (by decide) (l.map s1) hs1
    have a2 := shm (s := 2) (m := 51) (by decide) (by decide) (l.map s1) hs1
    rw [mm, ← h3] at a1 a2
    rw [show vb (l.map s1) / 2 ^ 0 = vb (l.map s1) from Nat.div_one _] at a1
    have a2 : (vb (l.map s1) / 4) &&& M3 = _ := a2
    rw [a1, a2, addm, List.map_map]
    rfl
  have e4 := (nib (l.map (fun a => s2 (s1 a))) (fun a ha => by
    obtain ⟨b, hb, rfl⟩ := List.mem_map.mp ha
    have := byt b (h b hb)
    exact ⟨this.2.2.1, this.2.2.2.1⟩)).2
  have m2 : (l.map (fun a => s2 (s1 a))).map (fun _ => 15) = l.map (fun _ => 15) := by rw [List.map_map]; rfl
  rw [m2, ← hF, List.map_map] at e4
  refine ⟨vb (l.map s1), vb (l.map (fun a => s2 (s1 a))), _, by rw [e1]; exact q1, e2.symm, e3.symm, rfl, ?_, rfl, rfl⟩
  rw [e4]
  congr 1
  exact List.map_congr_left (fun a ha => (byt a (h a ha)).2.2.2.2.1)
theorem bl_lN {n w : Nat} (hw : w < 64) : bl (lN n) w = n.testBit w := by
  show (BitVec.ofNat 64 n).getLsbD w = _
  rw [BitVec.getLsbD_ofNat]; simp [hw]
theorem ushn {n k : Nat} (hn : n < 2 ^ 64) (hk : k < 64) : ushL (lN n) (nI k) = lN (n / 2 ^ k) := wb_shr hn hk
def cnt64 (x : Int64) : Nat := fb_ct (fun w => bl x w) 64
theorem sum8 {l : List Nat} (hl : l.length = 8) : ∃ a b c d e f g h : Nat, l = [a, b, c, d, e, f, g, h] := by
  match l, hl with
  | [a, b, c, d, e, f, g, h], _ => exact ⟨a, b, c, d, e, f, g, h, rfl⟩
theorem ar6 {A B C D E F U V x5 : Nat} (pa : A ≤ 8) (pb : B ≤ 8) (pc : C ≤ 8) (pd : D ≤ 8) (pe : E ≤ 8) (pf : F ≤ 8) (pg : U ≤ 8) (ph : V ≤ 8) (e5 : x5 = (A + B + C + D) + 256 * ((B + C + D + E) + 256 * ((C + D + E + F) + 256 * ((D + E + F + U) + 256 * ((E + F + U + V) + 256 * ((F + U + V) + 256 * ((U + V) + 256 * V))))))) : ∃ K, x5 + x5 / 4294967296 = (A + B + C + D + E + F + U + V) + 256 * K := by
  have h : x5 / 4294967296 = (E + F + U + V) + 256 * ((F + U + V) + 256 * ((U + V) + 256 * V)) := by omega
  refine ⟨(B + C + D + E) + 256 * ((C + D + E + F) + 256 * ((D + E + F + U) + 256 * ((E + F + U + V) + 256 * ((F + U + V) + 256 * ((U + V) + 256 * V))))) + ((F + U + V) + 256 * ((U + V) + 256 * V)), ?_⟩
  rw [h, e5]
  omega
theorem bitCountL_eq (x : Int64) : f_J13_bitCount_95d88 x = some (nI (cnt64 x)) := by
  obtain ⟨n, hn, rfl⟩ := wb_of x
  have hn : n < 18446744073709551616 := hn
  obtain ⟨l, hl8, hl, rfl⟩ : ∃ l : List Nat, l.length = 8 ∧ (∀ a ∈ l, a < 256) ∧ n = vb l := by
    refine ⟨[n % 256, n / 256 % 256, n / 256 / 256 % 256, n / 256 / 256 / 256 % 256, n / 256 / 256 / 256 / 256 % 256, n / 256 / 256 / 256 / 256 / 256 % 256, n / 256 / 256 / 256 / 256 / 256 / 256 % 256, n / 256 / 256 / 256 / 256 / 256 / 256 / 256 % 256], rfl, ?_, ?_⟩
    · intro a ha
      simp only [List.mem_cons, List.not_mem_nil, or_false] at ha
      rcases ha with rfl | rfl | rfl | rfl | rfl | rfl | rfl | rfl <;> exact Nat.mod_lt _ (by decide)
    · simp only [vb]
      omega
  have hct : cnt64 (lN (vb l)) = (l.map pc8).sum := by
    have := ctb l hl
    rw [hl8] at this
    rw [← this]
    exact fb_ct_cong (fun k hk => bl_lN hk)
  rw [hct]
  obtain ⟨a, b, c, d, e, f, g, h, rfl⟩ := sum8 hl8
  obtain ⟨x1, x2, x3, q0, q1, q2, q3, q4, q5, q6⟩ := swar hl 6148914691236517205 3689348814741910323 1085102592571150095 (show 6148914691236517205 = vb [85, 85, 85, 85, 85, 85, 85, 85] by decide) (show 3689348814741910323 = vb [51, 51, 51, 51, 51, 51, 51, 51] by decide) (show 1085102592571150095 = vb [15, 15, 15, 15, 15, 15, 15, 15] by decide)
  have pa := (byt a (hl a (by simp))).2.2.2.2.2
  have pb := (byt b (hl b (by simp))).2.2.2.2.2
  have pc := (byt c (hl c (by simp))).2.2.2.2.2
  have pd := (byt d (hl d (by simp))).2.2.2.2.2
  have pe := (byt e (hl e (by simp))).2.2.2.2.2
  have pf := (byt f (hl f (by simp))).2.2.2.2.2
  have pg := (byt g (hl g (by simp))).2.2.2.2.2
  have ph := (byt h (hl h (by simp))).2.2.2.2.2
  have hs : ([a, b, c, d, e, f, g, h].map pc8).sum = pc8 a + (pc8 b + (pc8 c + (pc8 d + (pc8 e + (pc8 f + (pc8 g + (pc8 h + 0))))))) := rfl
  have e3 : x3 = pc8 a + 256 * (pc8 b + 256 * (pc8 c + 256 * (pc8 d + 256 * (pc8 e + 256 * (pc8 f + 256 * (pc8 g + 256 * (pc8 h + 256 * 0))))))) := q4
  have hx1 : x1 < 18446744073709551616 := by omega
  have hM : ∀ y : Nat, y &&& 3689348814741910323 ≤ 3689348814741910323 := fun y => Nat.and_le_right
  have hx2 : x2 < 18446744073709551616 := by have := hM x1; have := hM (x1 / 4); omega
  have k5 : (6148914691236517205 : Int64) = lN 6148914691236517205 := rfl
  have k3 : (3689348814741910323 : Int64) = lN 3689348814741910323 := rfl
  have kF : (1085102592571150095 : Int64) = lN 1085102592571150095 := rfl
  generalize vb [a, b, c, d, e, f, g, h] = n at *
  generalize pc8 a = A at *
  generalize pc8 b = B at *
  generalize pc8 c = C at *
  generalize pc8 d = D at *
  generalize pc8 e = E at *
  generalize pc8 f = F at *
  generalize pc8 g = U at *
  generalize pc8 h = V at *
  unfold f_J13_bitCount_95d88
  rw [lt_y, lt_y, lt_y, lt_y, lt_y, lt_y, k5, k3, kF, i1, ushn hn (by decide), fb_andL, show n / 2 ^ 1 = n / 2 from rfl, lN_sub q0, ← q1, i2, ushn hx1 (by decide), fb_andL, fb_andL, show x1 / 2 ^ 2 = x1 / 4 from rfl, lN_add, ← q2, i4, ushn hx2 (by decide), lN_add, show x2 / 2 ^ 4 = x2 / 16 from rfl, fb_andL, ← q3, i8, ushn (by omega) (by decide), lN_add, show x3 / 2 ^ 8 = x3 / 256 from rfl]
  have e4 : x3 + x3 / 256 = (A + B) + 256 * ((B + C) + 256 * ((C + D) + 256 * ((D + E) + 256 * ((E + F) + 256 * ((F + U) + 256 * ((U + V) + 256 * V)))))) := by omega
  generalize x3 + x3 / 256 = x4 at *
  rw [show (16 : Int32) = nI 16 from rfl, ushn (by omega) (by decide), lN_add, show x4 / 2 ^ 16 = x4 / 65536 from rfl]
  have e5 : x4 + x4 / 65536 = (A + B + C + D) + 256 * ((B + C + D + E) + 256 * ((C + D + E + F) + 256 * ((D + E + F + U) + 256 * ((E + F + U + V) + 256 * ((F + U + V) + 256 * ((U + V) + 256 * V)))))) := by omega
  generalize x4 + x4 / 65536 = x5 at *
  rw [show (32 : Int32) = nI 32 from rfl, ushn (by omega) (by decide), lN_add, show x5 / 2 ^ 32 = x5 / 4294967296 from rfl]
  obtain ⟨K, e6⟩ := ar6 pa pb pc pd pe pf pg ph e5
  rw [lN_i, e6, show (127 : Int32) = nI (2 ^ 7 - 1) from rfl, fa_mask, hs]
  congr 2
  omega
theorem sizeOf_eq (x : Int64) : f_X8_sizeOf x = some (nI (cnt64 x)) := by
  unfold f_X8_sizeOf
  have e := lp_fo (fun n a i => lp_X8_sizeOf_4 x n a i) 64 (fun w a => if bl x w = true then a + 1 else a) some (fun i a => a = nI (fb_ct (fun w => bl x w) i)) (fun n a _ => ?_) (fun n a i hi hI => ?_) 64 0 0 fu (by decide) (by decide) rfl
  · refine e.1.trans ?_
    rw [e.2]
    rfl
  · show lp_X8_sizeOf_4 _ (n + 1) _ _ = _
    rw [lp_X8_sizeOf_4, if_pos (by rw [i64, nle (by decide) (by decide)]; omega)]
  · show lp_X8_sizeOf_4 _ (n + 1) _ _ = _ ∧ _
    rw [lp_X8_sizeOf_4, if_neg (by rw [i64, nle (by decide) (by omega)]; omega), has_eq _ hi, bd_s]
    by_cases hb : bl x i = true
    · rw [if_pos hb, if_neg z10, lt_y, lt_y, nI_s, if_pos hb]
      refine ⟨rfl, ?_⟩
      rw [hI, nI_s, fb_ct_succ, if_pos hb]
    · rw [if_neg hb, if_pos rfl, lt_y, lt_y, nI_s, if_neg hb, show a + (0 : Int32) = a from Int32.add_zero a]
      refine ⟨rfl, ?_⟩
      rw [hI, fb_ct_succ, if_neg hb, Nat.add_zero]
def pc6 (s : Nat) : Nat := fb_ct (fun j => s.testBit j) 6
theorem bitCountI_eq : ∀ s, s < 64 → f_J6_bitCount_0f7a4 (nI s) = some (nI (pc6 s)) := by decide +kernel
theorem cnt_small {s : Nat} (hs : s < 64) : cnt64 ((nI s).toInt64) = pc6 s := by
  unfold cnt64 pc6
  rw [nI_l (by omega), show (64 : Nat) = 6 + 58 by decide, fb_ct_split]
  have : fb_ct (fun k => bl (lN s) (6 + k)) 58 = 0 := fb_ct_zero.mpr (fun k hk => by
    rw [bl_lN (by omega)]
    exact Nat.testBit_lt_two_pow (Nat.lt_of_lt_of_le hs (show 2 ^ 6 ≤ 2 ^ (6 + k) from Nat.pow_le_pow_right (by decide) (by omega))))
  rw [this, Nat.add_zero]
  exact fb_ct_cong (fun k hk => bl_lN (by omega))
theorem sizeOf_small {s : Nat} (hs : s < 64) : f_X8_sizeOf ((nI s).toInt64) = some (nI (pc6 s)) := by rw [sizeOf_eq, cnt_small hs]
