-- ===== reading sayings, side by side =====
def hd (L : List (Nat × Nat)) : Nat := cC (hdc L)
theorem repT_hd {N : Nat} {tk pl : Nat → Int32} {j : Nat} {L : List (Nat × Nat)} (h : repT N tk pl j L) : tk j = nI (hd L) ∧ hdc L < 25 := by
  cases L with
  | nil => exact ⟨h.1, by decide⟩
  | cons x L => obtain ⟨c, q⟩ := x; exact ⟨h.2.1, h.1.2⟩
theorem repT_tl {N : Nat} {tk pl : Nat → Int32} {j : Nat} {x : Nat × Nat} {L : List (Nat × Nat)} (h : repT N tk pl j (x :: L)) : repT N tk pl (j + 1) L := by
  obtain ⟨c, q⟩ := x; exact h.2.2.2
theorem take_eq {N M : Nat} {tk pl : Nat → Int32} {j : Nat} {x : Nat × Nat} {L : List (Nat × Nat)} (hM : M ≤ 400) (hj : j + (x :: L).length = M) (h : repT N tk pl j (x :: L)) (t : Int32) : f_X3_take (nI (M + 1)) (nI j) t tk = some (nI (j + 1), nI (hd L)) := by
  rw [List.length_cons] at hj
  unfold f_X3_take
  rw [nI_s, lt_y, if_neg (lnn (by omega)), if_neg (by rw [nle (by omega) (by omega)]; omega), if_neg (by rw [i401, nle (by decide) (by omega)]; omega), gdi (by omega) (by decide), clp (by omega), lt_y, (repT_hd (repT_tl h)).1]
abbrev OneT : Type := Int32 → Int32 → Int32 → (Nat → Int32) → Int32 → Option (Int64 × Int32 × Int32)
def badt (t : Nat) : Bool := decide (t = 256 ∨ t = 257 ∨ t = 258 ∨ t = 259 ∨ t = 260 ∨ t = 261 ∨ t = 262 ∨ t = 59 ∨ t = 124 ∨ t = 38 ∨ t = 41)
theorem cone_bad (one : OneT) (sz nx : Int32) (tk : Nat → Int32) (a : Int32) {t : Nat} (h : badt t = true) : f_X3_one one sz nx (nI t) tk a = some (0, nx, nI 257) := by
  have h' := of_decide_eq_true h
  rcases h' with rfl | rfl | rfl | rfl | rfl | rfl | rfl | rfl | rfl | rfl | rfl <;> rfl
theorem cone_bad8 (one : OneT) (sz nx : Int32) (tk : Nat → Int32) : f_X3_one one sz nx (nI 33) tk (nI 8) = some (0, nx, nI 257) ∧ f_X3_one one sz nx (nI 40) tk (nI 8) = some (0, nx, nI 257) := ⟨rfl, rfl⟩
theorem cone_opd (one : OneT) (sz nx : Int32) (tk : Nat → Int32) (a : Int32) {c : Nat} (h : opd c = true) : f_X3_one one sz nx (nI (cC c)) tk a = bd (f_X3_take sz nx (nI (cC c)) tk) (fun o => some (vl c, o.1, o.2)) := by
  have h' := of_decide_eq_true h
  have hc : c = 10 ∨ c = 11 ∨ c = 12 ∨ c = 13 ∨ c = 14 ∨ c = 15 ∨ c = 17 ∨ c = 18 := by omega
  rcases hc with rfl | rfl | rfl | rfl | rfl | rfl | rfl | rfl <;> rfl
theorem cone_not (one : OneT) (sz nx : Int32) (tk : Nat → Int32) {o : Nat} (ho : o < 8) : f_X3_one one sz nx (nI 33) tk (nI o) = bd (f_X3_take sz nx (nI 33) tk) (fun o15 => bd (one sz o15.1 o15.2 tk (nI (o + 1))) (fun o16 => some ((o16.1 ^^^ (-1 : Int64)), o16.2.1, o16.2.2))) := by
  unfold f_X3_one
  rw [lt_y, if_pos (by decide)]
  unfold jn_X3_one_30
  rw [if_neg (by decide), if_neg (by decide), if_pos (by decide), if_neg (by rw [i8, nle (by decide) (by omega)]; omega), nI_s]
theorem cone_left (one : OneT) (sz nx : Int32) (tk : Nat → Int32) {o : Nat} (ho : o < 8) : f_X3_one one sz nx (nI 40) tk (nI o) = bd (f_X3_take sz nx (nI 40) tk) (fun o5 => bd (f_X3_saying one sz o5.1 o5.2 tk (nI (o + 1))) (fun o6 => bd (f_X3_expect sz o6.2.1 o6.2.2 tk (41 : Int32)) (fun o7 => some (o6.1, o7.1, o7.2)))) := by
  unfold f_X3_one
  rw [lt_y, if_pos (by decide)]
  unfold jn_X3_one_30
  rw [if_neg (by decide), if_neg (by decide), if_neg (by decide)]
  unfold jn_X3_one_102
  rw [if_pos (by decide), if_neg (by rw [i8, nle (by decide) (by omega)]; omega), nI_s]
/-- what the class's reader shows after a piece -/
def tkc (ok : Bool) (L : List (Nat × Nat)) : Int32 := if ok = true then nI (hd L) else nI 257
def OneS (tx : Nat → Nat) (N : Nat) (tt tk pl : Nat → Int32) (M : Nat) (one : OneT) (o : Nat) : Prop :=
  ∀ (L : List (Nat × Nat)) (j : Nat), j + L.length = M → repT N tk pl j L →
    ∃ (ok : Bool) (v : Int64) (j' : Nat) (L' : List (Nat × Nat)), j' + L'.length = M ∧ repT N tk pl j' L' ∧ L'.length ≤ L.length ∧ (ok = true → L'.length < L.length) ∧
      one (nI (M + 1)) (nI j) (nI (hd L)) tk (nI o) = some (v, nI j', tkc ok L') ∧
      ∀ (n k o0 : Nat) (V : List Int64) (W0 : List Nat) (sy : Int64) (P : RT → Prop), 1 ≤ n → o0 + k = o → no22 W0 → V.length + L.length ≤ 400 → k + W0.length + L.length ≤ 400 →
        (ok = true → MS17 tx N tt sy n L' (negk k v :: V) W0 o0 0 P) → (ok = false → FP tx N L' P) → MS17 tx N tt sy n L V (List.replicate k 22 ++ W0) o 1 P
def bas (W : List Nat) : Prop := W = [] ∨ ∃ W', W = 23 :: W'
def basB (W : List Nat) : Prop := bas W ∨ ∃ W', W = 20 :: W'
theorem basB_21 {W : List Nat} (h : basB W) : stp20 21 W ∧ no22 W ∧ no22 (21 :: W) := by
  rcases h with (rfl | ⟨W', rfl⟩) | ⟨W', rfl⟩
  · exact ⟨trivial, trivial, show ¬ (21 : Nat) = 22 by decide⟩
  · exact ⟨Or.inr (by decide), show ¬ (23 : Nat) = 22 by decide, show ¬ (21 : Nat) = 22 by decide⟩
  · exact ⟨Or.inl (by decide), show ¬ (20 : Nat) = 22 by decide, show ¬ (21 : Nat) = 22 by decide⟩
theorem bas_20 {W : List Nat} (h : bas W) : stp20 20 W := by
  rcases h with rfl | ⟨W', rfl⟩
  · exact trivial
  · exact Or.inr (by decide)
def BothS (tx : Nat → Nat) (N : Nat) (tt tk pl : Nat → Int32) (M : Nat) (one : OneT) (o : Nat) : Prop :=
  ∀ (L : List (Nat × Nat)) (j : Nat), j + L.length = M → repT N tk pl j L →
    ∃ (ok : Bool) (v : Int64) (j' : Nat) (L' : List (Nat × Nat)), j' + L'.length = M ∧ repT N tk pl j' L' ∧ L'.length ≤ L.length ∧ (ok = true → L'.length < L.length ∧ ¬ hdc L' = 21) ∧
      f_X3_both one (nI (M + 1)) (nI j) (nI (hd L)) tk (nI o) = some (v, nI j', tkc ok L') ∧
      ∀ (n : Nat) (V : List Int64) (W : List Nat) (sy : Int64) (P : RT → Prop), 1 ≤ n → basB W → V.length + L.length ≤ 400 → W.length + L.length ≤ 400 →
        (ok = true → ∀ V1 W1, RedA v V W V1 W1 → MS17 tx N tt sy n L' V1 W1 o 0 P) → (ok = false → FP tx N L' P) → MS17 tx N tt sy n L V W o 1 P
def SayS (tx : Nat → Nat) (N : Nat) (tt tk pl : Nat → Int32) (M : Nat) (one : OneT) (o : Nat) : Prop :=
  ∀ (L : List (Nat × Nat)) (j : Nat), j + L.length = M → repT N tk pl j L →
    ∃ (ok : Bool) (v : Int64) (j' : Nat) (L' : List (Nat × Nat)), j' + L'.length = M ∧ repT N tk pl j' L' ∧ L'.length ≤ L.length ∧ (ok = true → L'.length < L.length ∧ ¬ hdc L' = 20 ∧ ¬ hdc L' = 21) ∧
      f_X3_saying one (nI (M + 1)) (nI j) (nI (hd L)) tk (nI o) = some (v, nI j', tkc ok L') ∧
      ∀ (n : Nat) (V : List Int64) (W : List Nat) (sy : Int64) (P : RT → Prop), 1 ≤ n → bas W → V.length + L.length ≤ 400 → W.length + L.length ≤ 400 →
        (ok = true → ∀ V1 W1, RedO v V W V1 W1 → MS17 tx N tt sy n L' V1 W1 o 0 P) → (ok = false → FP tx N L' P) → MS17 tx N tt sy n L V W o 1 P
theorem cC_38 : ∀ c, c < 25 → (cC c = 38 ↔ c = 21) := by decide +kernel
theorem cC_124 : ∀ c, c < 25 → (cC c = 124 ↔ c = 20) := by decide +kernel
theorem cC_41 : ∀ c, c < 25 → (cC c = 41 ↔ c = 24) := by decide +kernel
theorem cC_59 : ∀ c, c < 25 → (cC c = 59 ↔ c = 19) := by decide +kernel
theorem cC_260 : ∀ c, c < 25 → (cC c = 260 ↔ c = 4) := by decide +kernel
theorem cC_b : ∀ c, c < 25 → cC c < 263 := by decide +kernel
theorem hd_eq {L : List (Nat × Nat)} (h : hdc L < 25) {t c : Nat} (ht : t < 1000) (hq : cC (hdc L) = t ↔ hdc L = c) : (nI (hd L) = nI t) ↔ hdc L = c := by
  rw [neq (by have := cC_b _ h; unfold hd; omega) (by omega)]; exact hq
theorem tkc_no {L : List (Nat × Nat)} {t : Nat} (ht : t < 257) : ¬ tkc false L = nI t := by
  show ¬ nI 257 = nI t
  rw [neq (by decide) (by omega)]; omega
theorem tkc_no' {L : List (Nat × Nat)} {t : Nat} (ht : 257 < t) (h2 : t < 1000) : ¬ tkc false L = nI t := by
  show ¬ nI 257 = nI t
  rw [neq (by decide) (by omega)]; omega
theorem cons_of {L : List (Nat × Nat)} {c : Nat} (hc : 0 < c) (h : hdc L = c) : ∃ q L', L = (c, q) :: L' := by
  cases L with
  | nil => have : 0 = c := h; omega
  | cons x L => obtain ⟨c', q⟩ := x; have : c' = c := h; subst this; exact ⟨q, L, rfl⟩
theorem both_lp {tx : Nat → Nat} {N : Nat} {tt tk pl : Nat → Int32} {M o : Nat} {one : OneT} (hT : TXm tx N tt) (hM : M ≤ 400) (H : OneS tx N tt tk pl M one o) : ∀ (m : Nat) (L : List (Nat × Nat)) (j i f : Nat) (acc : Int64), L.length ≤ m → j + L.length = M → repT N tk pl j L → i + L.length ≤ 400 → L.length < f →
    ∃ (ok : Bool) (v : Int64) (j' : Nat) (L' : List (Nat × Nat)), j' + L'.length = M ∧ repT N tk pl j' L' ∧ L'.length ≤ L.length ∧ (ok = true → ¬ hdc L' = 21) ∧
      lp_X3_both_9 one (nI (M + 1)) tk (nI o) f (nI j) (nI (hd L)) acc (nI i) = some (v, nI j', tkc ok L') ∧
      ∀ (n : Nat) (V V1 : List Int64) (W W1 : List Nat) (sy : Int64) (P : RT → Prop), 1 ≤ n → basB W → V.length + L.length ≤ 399 → W.length + L.length ≤ 399 → RedA acc V W V1 W1 →
        (ok = true → ∀ V2 W2, RedA v V W V2 W2 → MS17 tx N tt sy n L' V2 W2 o 0 P) → (ok = false → FP tx N L' P) → MS17 tx N tt sy n L V1 W1 o 0 P := by
  intro m
  induction m with
  | zero =>
    intro L j i f acc hm hj hR hi hf
    obtain rfl : L = [] := by cases L with | nil => rfl | cons x L => simp at hm
    obtain ⟨f, rfl⟩ : ∃ q, f = q + 1 := ⟨f - 1, by simp at hf; omega⟩
    refine ⟨true, acc, j, [], hj, hR, Nat.le_refl _, fun _ => by decide, ?_, fun n V V1 W W1 sy P _ _ _ _ hr h1 _ => h1 rfl V1 W1 hr⟩
    rw [lp_X3_both_9]
    by_cases h4 : (400 : Int32) ≤ nI i
    · rw [if_pos h4]; rfl
    · rw [if_neg h4, if_neg (by decide)]; rfl
  | succ m ih =>
    intro L j i f acc hm hj hR hi hf
    obtain ⟨f, rfl⟩ : ∃ q, f = q + 1 := ⟨f - 1, by omega⟩
    have hh := repT_hd hR
    by_cases h21 : hdc L = 21
    · obtain ⟨q, L1, rfl⟩ := cons_of (by decide) h21
      rw [List.length_cons] at hm hi hf
      have hj' := hj
      rw [List.length_cons] at hj'
      obtain ⟨ok, v, j1, L2, a1, a2, a3, a4, a5, a6⟩ := H L1 (j + 1) (by omega) (repT_tl hR)
      have e0 : lp_X3_both_9 one (nI (M + 1)) tk (nI o) (f + 1) (nI j) (nI (hd ((21, q) :: L1))) acc (nI i) = lp_X3_both_9 one (nI (M + 1)) tk (nI o) f (nI j1) (tkc ok L2) (acc &&& v) (nI (i + 1)) := by
        rw [lp_X3_both_9, if_neg (by rw [i400, nle (by decide) (by omega)]; omega), if_pos (show nI (hd ((21, q) :: L1)) = (38 : Int32) from rfl), take_eq hM hj hR, bd_s, a5, bd_s, lt_y, nI_s, lt_y]
      cases ok with
      | false =>
        refine ⟨false, acc &&& v, j1, L2, a1, a2, by rw [List.length_cons]; omega, fun h => (by cases h), ?_, ?_⟩
        · rw [e0]
          obtain ⟨f, rfl⟩ : ∃ q, f = q + 1 := ⟨f - 1, by omega⟩
          rw [lp_X3_both_9]
          by_cases h4 : (400 : Int32) ≤ nI (i + 1)
          · rw [if_pos h4]
          · rw [if_neg h4, if_neg (show ¬ tkc false L2 = (38 : Int32) from tkc_no (t := 38) (by decide))]
        · intro n V V1 W W1 sy P hn hb hV hW hr _ h2
          obtain ⟨s21, _, n21⟩ := basB_21 hb
          rw [List.length_cons] at hV hW
          refine ms_and hT hr s21 (by omega) (by omega) ?_
          exact a6 n 0 o (acc :: V) (21 :: W) sy P hn (by omega) n21 (by rw [List.length_cons]; omega) (by rw [List.length_cons]; omega) (fun h => by cases h) h2
      | true =>
        have a4' := a4 rfl
        obtain ⟨ok', v', j', L', b1, b2, b3, b4, b5, b6⟩ := ih L2 j1 (i + 1) f (acc &&& v) (by omega) a1 a2 (by omega) (by omega)
        refine ⟨ok', v', j', L', b1, b2, by rw [List.length_cons]; omega, b4, ?_, ?_⟩
        · rw [e0]; exact b5
        · intro n V V1 W W1 sy P hn hb hV hW hr h1 h2
          obtain ⟨s21, _, n21⟩ := basB_21 hb
          rw [List.length_cons] at hV hW
          refine ms_and hT hr s21 (by omega) (by omega) ?_
          refine a6 n 0 o (acc :: V) (21 :: W) sy P hn (by omega) n21 (by rw [List.length_cons]; omega) (by rw [List.length_cons]; omega) (fun _ => ?_) (fun h => by cases h)
          exact b6 n V (v :: acc :: V) W (21 :: W) sy P hn hb (by omega) (by omega) (Or.inr ⟨acc, v, rfl, rfl, rfl⟩) h1 h2
    · refine ⟨true, acc, j, L, hj, hR, Nat.le_refl _, fun _ => h21, ?_, fun n V V1 W W1 sy P _ _ _ _ hr h1 _ => h1 rfl V1 W1 hr⟩
      rw [lp_X3_both_9]
      by_cases h4 : (400 : Int32) ≤ nI i
      · rw [if_pos h4]; rfl
      · rw [if_neg h4, if_neg (show ¬ nI (hd L) = (38 : Int32) from fun z => h21 ((hd_eq hh.2 (by decide) (cC_38 _ hh.2)).mp z))]; rfl
theorem both_sim {tx : Nat → Nat} {N : Nat} {tt tk pl : Nat → Int32} {M o : Nat} {one : OneT} (hT : TXm tx N tt) (hM : M ≤ 400) (H : OneS tx N tt tk pl M one o) : BothS tx N tt tk pl M one o := by
  intro L j hj hR
  obtain ⟨ok, v, j1, L2, a1, a2, a3, a4, a5, a6⟩ := H L j hj hR
  have e0 : f_X3_both one (nI (M + 1)) (nI j) (nI (hd L)) tk (nI o) = lp_X3_both_9 one (nI (M + 1)) tk (nI o) fu (nI j1) (tkc ok L2) v (nI 0) := by
    unfold f_X3_both
    rw [a5, bd_s]; rfl
  cases ok with
  | false =>
    refine ⟨false, v, j1, L2, a1, a2, a3, fun h => (by cases h), ?_, ?_⟩
    · rw [e0, fu_eq, lp_X3_both_9, if_neg (by decide), if_neg (show ¬ tkc false L2 = (38 : Int32) from tkc_no (t := 38) (by decide))]
    · intro n V W sy P hn hb hV hW _ h2
      exact a6 n 0 o V W sy P hn (by omega) (basB_21 hb).2.1 hV (by omega) (fun h => by cases h) h2
  | true =>
    have a4' := a4 rfl
    obtain ⟨ok', v', j', L', b1, b2, b3, b4, b5, b6⟩ := both_lp hT hM H L2.length L2 j1 0 fu v (Nat.le_refl _) a1 a2 (by omega) (by rw [fu_eq]; omega)
    refine ⟨ok', v', j', L', b1, b2, by omega, fun h => ⟨by omega, b4 h⟩, by rw [e0]; exact b5, ?_⟩
    intro n V W sy P hn hb hV hW h1 h2
    refine a6 n 0 o V W sy P hn (by omega) (basB_21 hb).2.1 hV (by omega) (fun _ => ?_) (fun h => by cases h)
    exact b6 n V (v :: V) W W sy P hn hb (by omega) (by omega) (Or.inl ⟨rfl, rfl⟩) h1 h2
theorem say_lp {tx : Nat → Nat} {N : Nat} {tt tk pl : Nat → Int32} {M o : Nat} {one : OneT} (hT : TXm tx N tt) (hM : M ≤ 400) (H : BothS tx N tt tk pl M one o) : ∀ (m : Nat) (L : List (Nat × Nat)) (j i f : Nat) (acc : Int64), L.length ≤ m → j + L.length = M → repT N tk pl j L → i + L.length ≤ 400 → L.length < f → ¬ hdc L = 21 →
    ∃ (ok : Bool) (v : Int64) (j' : Nat) (L' : List (Nat × Nat)), j' + L'.length = M ∧ repT N tk pl j' L' ∧ L'.length ≤ L.length ∧ (ok = true → ¬ hdc L' = 20 ∧ ¬ hdc L' = 21) ∧
      lp_X3_saying_9 one (nI (M + 1)) tk (nI o) f (nI j) (nI (hd L)) acc (nI i) = some (v, nI j', tkc ok L') ∧
      ∀ (n : Nat) (V V1 : List Int64) (W W1 : List Nat) (sy : Int64) (P : RT → Prop), 1 ≤ n → bas W → V.length + L.length ≤ 399 → W.length + L.length ≤ 399 → RedO acc V W V1 W1 →
        (ok = true → ∀ V2 W2, RedO v V W V2 W2 → MS17 tx N tt sy n L' V2 W2 o 0 P) → (ok = false → FP tx N L' P) → MS17 tx N tt sy n L V1 W1 o 0 P := by
  intro m
  induction m with
  | zero =>
    intro L j i f acc hm hj hR hi hf h21
    obtain rfl : L = [] := by cases L with | nil => rfl | cons x L => simp at hm
    obtain ⟨f, rfl⟩ : ∃ q, f = q + 1 := ⟨f - 1, by simp at hf; omega⟩
    refine ⟨true, acc, j, [], hj, hR, Nat.le_refl _, fun _ => ⟨by decide, by decide⟩, ?_, fun n V V1 W W1 sy P _ _ _ _ hr h1 _ => h1 rfl V1 W1 hr⟩
    rw [lp_X3_saying_9]
    by_cases h4 : (400 : Int32) ≤ nI i
    · rw [if_pos h4]; rfl
    · rw [if_neg h4, if_neg (by decide)]; rfl
  | succ m ih =>
    intro L j i f acc hm hj hR hi hf h21
    obtain ⟨f, rfl⟩ : ∃ q, f = q + 1 := ⟨f - 1, by omega⟩
    have hh := repT_hd hR
    by_cases h20 : hdc L = 20
    · obtain ⟨q, L1, rfl⟩ := cons_of (by decide) h20
      rw [List.length_cons] at hm hi hf
      have hj' := hj
      rw [List.length_cons] at hj'
      obtain ⟨ok, v, j1, L2, a1, a2, a3, a4, a5, a6⟩ := H L1 (j + 1) (by omega) (repT_tl hR)
      have e0 : lp_X3_saying_9 one (nI (M + 1)) tk (nI o) (f + 1) (nI j) (nI (hd ((20, q) :: L1))) acc (nI i) = lp_X3_saying_9 one (nI (M + 1)) tk (nI o) f (nI j1) (tkc ok L2) (acc ||| v) (nI (i + 1)) := by
        rw [lp_X3_saying_9, if_neg (by rw [i400, nle (by decide) (by omega)]; omega), if_pos (show nI (hd ((20, q) :: L1)) = (124 : Int32) from rfl), take_eq hM hj hR, bd_s, a5, bd_s, lt_y, nI_s, lt_y]
      cases ok with
      | false =>
        refine ⟨false, acc ||| v, j1, L2, a1, a2, by rw [List.length_cons]; omega, fun h => (by cases h), ?_, ?_⟩
        · rw [e0]
          obtain ⟨f, rfl⟩ : ∃ q, f = q + 1 := ⟨f - 1, by omega⟩
          rw [lp_X3_saying_9]
          by_cases h4 : (400 : Int32) ≤ nI (i + 1)
          · rw [if_pos h4]
          · rw [if_neg h4, if_neg (show ¬ tkc false L2 = (124 : Int32) from tkc_no (t := 124) (by decide))]
        · intro n V V1 W W1 sy P hn hb hV hW hr _ h2
          rw [List.length_cons] at hV hW
          refine ms_or hT hr (bas_20 hb) (by omega) (by omega) ?_
          exact a6 n (acc :: V) (20 :: W) sy P hn (Or.inr ⟨W, rfl⟩) (by rw [List.length_cons]; omega) (by rw [List.length_cons]; omega) (fun h => by cases h) h2
      | true =>
        have a4' := a4 rfl
        obtain ⟨ok', v', j', L', b1, b2, b3, b4, b5, b6⟩ := ih L2 j1 (i + 1) f (acc ||| v) (by omega) a1 a2 (by omega) (by omega) a4'.2
        refine ⟨ok', v', j', L', b1, b2, by rw [List.length_cons]; omega, b4, ?_, ?_⟩
        · rw [e0]; exact b5
        · intro n V V1 W W1 sy P hn hb hV hW hr h1 h2
          rw [List.length_cons] at hV hW
          refine ms_or hT hr (bas_20 hb) (by omega) (by omega) ?_
          refine a6 n (acc :: V) (20 :: W) sy P hn (Or.inr ⟨W, rfl⟩) (by rw [List.length_cons]; omega) (by rw [List.length_cons]; omega) (fun _ V2 W2 hr2 => ?_) (fun h => by cases h)
          exact b6 n V V2 W W2 sy P hn hb (by omega) (by omega) (Or.inr ⟨acc, v, hr2, rfl⟩) h1 h2
    · refine ⟨true, acc, j, L, hj, hR, Nat.le_refl _, fun _ => ⟨h20, h21⟩, ?_, fun n V V1 W W1 sy P _ _ _ _ hr h1 _ => h1 rfl V1 W1 hr⟩
      rw [lp_X3_saying_9]
      by_cases h4 : (400 : Int32) ≤ nI i
      · rw [if_pos h4]; rfl
      · rw [if_neg h4, if_neg (show ¬ nI (hd L) = (124 : Int32) from fun z => h20 ((hd_eq hh.2 (by decide) (cC_124 _ hh.2)).mp z))]; rfl
theorem say_sim {tx : Nat → Nat} {N : Nat} {tt tk pl : Nat → Int32} {M o : Nat} {one : OneT} (hT : TXm tx N tt) (hM : M ≤ 400) (H1 : OneS tx N tt tk pl M one o) : SayS tx N tt tk pl M one o := by
  have H := both_sim hT hM H1
  intro L j hj hR
  obtain ⟨ok, v, j1, L2, a1, a2, a3, a4, a5, a6⟩ := H L j hj hR
  have e0 : f_X3_saying one (nI (M + 1)) (nI j) (nI (hd L)) tk (nI o) = lp_X3_saying_9 one (nI (M + 1)) tk (nI o) fu (nI j1) (tkc ok L2) v (nI 0) := by
    unfold f_X3_saying
    rw [a5, bd_s]; rfl
  cases ok with
  | false =>
    refine ⟨false, v, j1, L2, a1, a2, a3, fun h => (by cases h), ?_, ?_⟩
    · rw [e0, fu_eq, lp_X3_saying_9, if_neg (by decide), if_neg (show ¬ tkc false L2 = (124 : Int32) from tkc_no (t := 124) (by decide))]
    · intro n V W sy P hn hb hV hW _ h2
      exact a6 n V W sy P hn (Or.inl hb) hV hW (fun h => by cases h) h2
  | true =>
    have a4' := a4 rfl
    obtain ⟨ok', v', j', L', b1, b2, b3, b4, b5, b6⟩ := say_lp hT hM H L2.length L2 j1 0 fu v (Nat.le_refl _) a1 a2 (by omega) (by rw [fu_eq]; omega) a4'.2
    refine ⟨ok', v', j', L', b1, b2, by omega, fun h => ⟨by omega, b4 h⟩, by rw [e0]; exact b5, ?_⟩
    intro n V W sy P hn hb hV hW h1 h2
    refine a6 n V W sy P hn (Or.inl hb) hV hW (fun _ V1 W1 hr => ?_) (fun h => by cases h)
    exact b6 n V V1 W W1 sy P hn hb (by omega) (by omega) (Or.inl hr) h1 h2
theorem expect_y {N M : Nat} {tk pl : Nat → Int32} {j t c : Nat} {q : Nat} {L : List (Nat × Nat)} (hM : M ≤ 400) (hj : j + ((c, q) :: L).length = M) (h : repT N tk pl j ((c, q) :: L)) (ht : cC c = t) : f_X3_expect (nI (M + 1)) (nI j) (nI (hd ((c, q) :: L))) tk (nI t) = some (nI (j + 1), nI (hd L)) := by
  unfold f_X3_expect
  rw [if_pos (show nI (hd ((c, q) :: L)) = nI t by show nI (cC c) = _; rw [ht]), take_eq hM hj h, bd_s]
theorem expect_n (sz nx k due : Int32) (tk : Nat → Int32) (h : ¬ k = due) : f_X3_expect sz nx k tk due = some (nx, nI 257) := by
  unfold f_X3_expect
  rw [if_neg h]; rfl
theorem opd_cases : ∀ c, c < 25 → opd c = true ∨ c = 22 ∨ c = 23 ∨ (badt (cC c) = true ∧ opd c = false) := by decide +kernel
theorem one_step {tx : Nat → Nat} {N : Nat} {tt tk pl : Nat → Int32} {M o : Nat} {one : OneT} (hT : TXm tx N tt) (hM : M ≤ 400) (ho : o ≤ 8) (H : o < 8 → OneS tx N tt tk pl M one (o + 1)) : OneS tx N tt tk pl M (f_X3_one one) o := by
  intro L j hj hR
  have hh := repT_hd hR
  have bad : (f_X3_one one (nI (M + 1)) (nI j) (nI (hd L)) tk (nI o) = some (0, nI j, nI 257)) → opd (hdc L) = false → ((hdc L = 22 ∨ hdc L = 23) → o = 8) → ∃ (ok : Bool) (v : Int64) (j' : Nat) (L' : List (Nat × Nat)), j' + L'.length = M ∧ repT N tk pl j' L' ∧ L'.length ≤ L.length ∧ (ok = true → L'.length < L.length) ∧
      f_X3_one one (nI (M + 1)) (nI j) (nI (hd L)) tk (nI o) = some (v, nI j', tkc ok L') ∧
      ∀ (n k o0 : Nat) (V : List Int64) (W0 : List Nat) (sy : Int64) (P : RT → Prop), 1 ≤ n → o0 + k = o → no22 W0 → V.length + L.length ≤ 400 → k + W0.length + L.length ≤ 400 →
        (ok = true → MS17 tx N tt sy n L' (negk k v :: V) W0 o0 0 P) → (ok = false → FP tx N L' P) → MS17 tx N tt sy n L V (List.replicate k 22 ++ W0) o 1 P :=
    fun e h1 h2 => ⟨false, 0, j, L, hj, hR, Nat.le_refl _, fun h => (by cases h), e, fun n k o0 V W0 sy P hn _ _ _ _ _ hF => ms_fail1 hn h1 h2 (hF rfl)⟩
  rcases opd_cases (hdc L) hh.2 with hc | hc | hc | ⟨hc, hc2⟩
  · have h0 : 0 < hdc L := by have := of_decide_eq_true hc; omega
    obtain ⟨q, L1, e⟩ := cons_of (c := hdc L) h0 rfl
    generalize hdc L = c at *
    subst e
    refine ⟨true, vl c, j + 1, L1, by rw [List.length_cons] at hj; omega, repT_tl hR, by rw [List.length_cons]; omega, fun _ => by rw [List.length_cons]; omega, ?_, ?_⟩
    · show f_X3_one one (nI (M + 1)) (nI j) (nI (cC c)) tk (nI o) = _
      rw [cone_opd one _ _ _ _ hc, take_eq hM hj hR, bd_s]; rfl
    · intro n k o0 V W0 sy P hn hk h22 hV hW h1 _
      rw [List.length_cons] at hV hW
      subst hk
      exact ms_opd hT hh.2 hc h22 (by omega) (by omega) ho (h1 rfl)
  · obtain ⟨q, L1, rfl⟩ := cons_of (by decide) hc
    by_cases h8 : o < 8
    · have hj' := hj
      rw [List.length_cons] at hj'
      obtain ⟨ok, v, j1, L2, a1, a2, a3, a4, a5, a6⟩ := H h8 L1 (j + 1) (by omega) (repT_tl hR)
      refine ⟨ok, v ^^^ (-1), j1, L2, a1, a2, by rw [List.length_cons]; omega, fun h => by have := a4 h; rw [List.length_cons]; omega, ?_, ?_⟩
      · show f_X3_one one (nI (M + 1)) (nI j) (nI 33) tk (nI o) = _
        rw [cone_not one _ _ _ h8, take_eq hM hj hR, bd_s, a5, bd_s]
      · intro n k o0 V W0 sy P hn hk h22 hV hW h1 h2
        rw [List.length_cons] at hV hW
        refine ms_push hT (Or.inl rfl) (by rw [List.length_append, List.length_replicate]; omega) h8 ?_
        have e : (22 :: (List.replicate k 22 ++ W0)) = List.replicate (k + 1) 22 ++ W0 := by rw [List.replicate_succ, List.cons_append]
        rw [e]
        exact a6 n (k + 1) o0 V W0 sy P hn (by omega) h22 (by omega) (by omega) h1 h2
    · obtain rfl : o = 8 := by omega
      exact bad (cone_bad8 one _ _ _).1 (by rw [hc]; decide) (fun _ => rfl)
  · obtain ⟨q, L1, rfl⟩ := cons_of (by decide) hc
    by_cases h8 : o < 8
    · have hj' := hj
      rw [List.length_cons] at hj'
      obtain ⟨ok, v, j1, L2, a1, a2, a3, a4, a5, a6⟩ := say_sim hT hM (H h8) L1 (j + 1) (by omega) (repT_tl hR)
      have e1 : f_X3_one one (nI (M + 1)) (nI j) (nI (hd ((23, q) :: L1))) tk (nI o) = bd (f_X3_expect (nI (M + 1)) (nI j1) (tkc ok L2) tk (41 : Int32)) (fun o7 => some (v, o7.1, o7.2)) := by
        show f_X3_one one (nI (M + 1)) (nI j) (nI 40) tk (nI o) = _
        rw [cone_left one _ _ _ h8, take_eq hM hj hR, bd_s, a5, bd_s]
      cases ok with
      | false =>
        refine ⟨false, v, j1, L2, a1, a2, by rw [List.length_cons]; omega, fun h => (by cases h), ?_, ?_⟩
        · rw [e1, expect_n _ _ _ _ _ (show ¬ tkc false L2 = (41 : Int32) from tkc_no (t := 41) (by decide)), bd_s]; rfl
        · intro n k o0 V W0 sy P hn hk h22 hV hW h1 h2
          rw [List.length_cons] at hV hW
          refine ms_push hT (Or.inr rfl) (by rw [List.length_append, List.length_replicate]; omega) h8 ?_
          exact a6 n V _ sy P hn (Or.inr ⟨_, rfl⟩) (by omega) (by simp only [List.length_cons, List.length_append, List.length_replicate]; omega) (fun h => by cases h) h2
      | true =>
        have a4' := a4 rfl
        have hh2 := repT_hd a2
        by_cases h24 : hdc L2 = 24
        · obtain ⟨q2, L3, rfl⟩ := cons_of (by decide) h24
          have hj1 := a1
          rw [List.length_cons] at hj1 a3
          refine ⟨true, v, j1 + 1, L3, by omega, repT_tl a2, by rw [List.length_cons]; omega, fun _ => by rw [List.length_cons]; omega, ?_, ?_⟩
          · rw [e1, show tkc true ((24, q2) :: L3) = nI (hd ((24, q2) :: L3)) from rfl, show (41 : Int32) = nI 41 from rfl, expect_y (t := 41) hM a1 a2 rfl, bd_s]; rfl
          · intro n k o0 V W0 sy P hn hk h22 hV hW h1 h2
            rw [List.length_cons] at hV hW
            subst hk
            refine ms_push hT (Or.inr rfl) (by rw [List.length_append, List.length_replicate]; omega) h8 ?_
            refine a6 n V _ sy P hn (Or.inr ⟨_, rfl⟩) (by omega) (by simp only [List.length_cons, List.length_append, List.length_replicate]; omega) (fun _ V1 W1 hr => ?_) (fun h => by cases h)
            exact ms_right hT hr h22 (by omega) (by omega) ho (h1 rfl)
        · refine ⟨false, v, j1, L2, a1, a2, by rw [List.length_cons]; omega, fun h => (by cases h), ?_, ?_⟩
          · rw [e1, expect_n _ _ _ _ _ (show ¬ tkc true L2 = (41 : Int32) from fun z => h24 ((hd_eq hh2.2 (t := 41) (by decide) (cC_41 _ hh2.2)).mp z)), bd_s]; rfl
          · intro n k o0 V W0 sy P hn hk h22 hV hW h1 h2
            rw [List.length_cons] at hV hW
            refine ms_push hT (Or.inr rfl) (by rw [List.length_append, List.length_replicate]; omega) h8 ?_
            refine a6 n V _ sy P hn (Or.inr ⟨_, rfl⟩) (by omega) (by simp only [List.length_cons, List.length_append, List.length_replicate]; omega) (fun _ V1 W1 hr => ?_) (fun h => by cases h)
            have hm := RedO_mem hr
            simp only [List.length_cons, List.length_append, List.length_replicate] at hm
            exact ms_fail0 hn a4'.2.1 a4'.2.2 h24 (by omega) (hm.1.mpr (by simp)) (h2 rfl)
    · obtain rfl : o = 8 := by omega
      exact bad (cone_bad8 one _ _ _).2 (by rw [hc]; decide) (fun _ => rfl)
  · refine bad (cone_bad one _ _ _ _ hc) hc2 (fun h => ?_)
    rcases h with h | h
    · rw [h] at hc; exact absurd hc (by decide)
    · rw [h] at hc; exact absurd hc (by decide)
theorem one_sim {tx : Nat → Nat} {N : Nat} {tt tk pl : Nat → Int32} {M : Nat} (hT : TXm tx N tt) (hM : M ≤ 400) : ∀ (d o : Nat), o + d = 8 → OneS tx N tt tk pl M (f_one (d + 1)) o
  | 0, o, h => one_step hT hM (by omega) (fun h8 => by omega)
  | d + 1, o, h => one_step hT hM (by omega) (fun h8 => one_sim hT hM d (o + 1) (by omega))
/-- a whole saying, both sides -/
theorem say_both {tx : Nat → Nat} {N : Nat} {tt tk pl : Nat → Int32} {M : Nat} (hT : TXm tx N tt) (hM : M ≤ 400) (L : List (Nat × Nat)) (j : Nat) (hj : j + L.length = M) (hR : repT N tk pl j L) :
    ∃ (ok : Bool) (v : Int64) (j' : Nat) (L' : List (Nat × Nat)), j' + L'.length = M ∧ repT N tk pl j' L' ∧ L'.length ≤ L.length ∧ (ok = true → L'.length < L.length) ∧
      f_X3_saying (f_one 9) (nI (M + 1)) (nI j) (nI (hd L)) tk (0 : Int32) = some (v, nI j', tkc ok L') ∧
      ∀ (a k s vm wm op : Int32) (sy : Int64) (vals : Nat → Int64) (waits : Nat → Int32), Cur tx N a k s L → ∃ r : RT, f_X8_says (nI N) a k s vm wm op sy tt vals waits = some r ∧ r.1 = (if ok = true then 1 else 0) ∧ Cur tx N r.2.1 r.2.2.1 r.2.2.2.1 L' ∧ (ok = true → r.2.2.2.2.2.2.2.1 = v) := by
  obtain ⟨ok, v, j', L', a1, a2, a3, a4, a5, a6⟩ := say_sim hT hM (one_sim (tk := tk) (pl := pl) hT hM 8 0 rfl) L j hj hR
  refine ⟨ok, v, j', L', a1, a2, a3, fun h => (a4 h).1, a5, ?_⟩
  intro a k s vm wm op sy vals waits hC
  have := a6 (fu - L.length) [] [] sy (fun r => r.1 = (if ok = true then 1 else 0) ∧ Cur tx N r.2.1 r.2.2.1 r.2.2.2.1 L' ∧ (ok = true → r.2.2.2.2.2.2.2.1 = v)) (by rw [fu_eq]; omega) (Or.inl rfl) (by simp; omega) (by simp; omega) (fun h V1 W1 hr => ?_) (fun h => ?_)
  · have h2 := this a k s vals waits hC trivial trivial
    rw [show fu - L.length + L.length = fu by rw [fu_eq]; omega] at h2
    exact h2
  · have h4 := a4 h
    exact ms_done (by rw [fu_eq]; omega) h4.2.1 h4.2.2 hr (fun r r1 r2 r3 => ⟨by rw [r1, if_pos h], r2, fun _ => r3⟩)
  · intro r r1 r2
    exact ⟨by rw [r1, h]; rfl, r2, fun hh => by rw [h] at hh; cases hh⟩
/-- once refused, refused -/
theorem say_X (sz nx : Int32) (tk : Nat → Int32) : f_X3_saying (f_one 9) sz nx (nI 257) tk (0 : Int32) = some (0, nx, nI 257) := by
  have h1 : f_one 9 sz nx (nI 257) tk 0 = some (0, nx, nI 257) := cone_bad (f_one 8) sz nx tk 0 (t := 257) (by decide)
  have h2 : f_X3_both (f_one 9) sz nx (nI 257) tk 0 = some (0, nx, nI 257) := by
    unfold f_X3_both
    rw [h1, bd_s, fu_eq, lp_X3_both_9, if_neg (by decide), if_neg (show ¬ nI 257 = (38 : Int32) by decide)]
  unfold f_X3_saying
  rw [h2, bd_s, fu_eq, lp_X3_saying_9, if_neg (by decide), if_neg (show ¬ nI 257 = (124 : Int32) by decide)]
