-- ===== the reference's reading of a saying, step by step =====
abbrev RT : Type := Int32 × Int32 × Int32 × Int32 × Int32 × Int32 × Int32 × Int64 × (Nat → Int64) × (Nat → Int32)
def TXm (tx : Nat → Nat) (N : Nat) (tt : Nat → Int32) : Prop := N ≤ 400 ∧ (∀ i, i < N → tt i = nI (tx i)) ∧ ∀ i, i < N → tx i < 256
def MS17 (tx : Nat → Nat) (N : Nat) (tt : Nat → Int32) (sy : Int64) (n : Nat) (L : List (Nat × Nat)) (V : List Int64) (W : List Nat) (o : Nat) (nd : Int32) (P : RT → Prop) : Prop :=
  ∀ a k s vals waits, Cur tx N a k s L → rpV vals V → rpW waits W → ∃ r, lp_X8_says_17 (nI N) tt sy (n + L.length) a k s (nI V.length) (nI W.length) (nI o) vals waits nd = some r ∧ P r
def FP (tx : Nat → Nat) (N : Nat) (L : List (Nat × Nat)) (P : RT → Prop) : Prop := ∀ r : RT, r.1 = 0 → Cur tx N r.2.1 r.2.2.1 r.2.2.2.1 L → P r
def opd (c : Nat) : Bool := decide ((10 ≤ c ∧ c ≤ 15) ∨ c = 17 ∨ c = 18)
def vl (c : Nat) : Int64 := if c = 17 then 0 else if c = 18 then -1 else ltW (c - 10)
theorem isOne_eq : ∀ c, c < 25 → f_X8_isOne (nI c) = some (if opd c = true then 1 else 0) := by decide +kernel
theorem letter_eq : ∀ c, c < 6 → f_X8_letter (nI c) = some (ltW c) := by decide +kernel
theorem ncu {c d : Nat} (hc : c < 25) (hd : d < 25) (h : ¬ c = d) : ¬ nI c = nI d := by rw [neq (by omega) (by omega)]; exact h
theorem ms_opd {tx : Nat → Nat} {N : Nat} {tt : Nat → Int32} {sy : Int64} (hT : TXm tx N tt) {n c q k o0 : Nat} {L : List (Nat × Nat)} {V : List Int64} {W0 : List Nat} {P : RT → Prop} (hc : c < 25) (ho : opd c = true) (hn : no22 W0) (hV : V.length ≤ 400) (hW : k + W0.length ≤ 400) (ho2 : o0 + k ≤ 8)
    (h : MS17 tx N tt sy n L (negk k (vl c) :: V) W0 o0 0 P) : MS17 tx N tt sy n ((c, q) :: L) V (List.replicate k 22 ++ W0) (o0 + k) 1 P := by
  intro a kk s vals waits hC hv hw
  have hCc := hC
  obtain ⟨_, rfl, rfl, f, p, rfl, hl⟩ := hC
  obtain ⟨a', k', s', es, hC'⟩ := scan_next hT.1 tt hT.2.1 hT.2.2 hCc
  have hb := of_decide_eq_true ho
  have fin : ∃ r, jn_X8_says_139 (nI N) tt sy (fun a k s vm wm op vs ws v1 => lp_X8_says_17 (nI N) tt sy (n + L.length) a k s vm wm op vs ws v1) (nI p) (nI c) (nI q) (nI V.length) (nI (List.replicate k 22 ++ W0).length) (nI (o0 + k)) vals waits (nI V.length) (vl c) = some r ∧ P r := by
    unfold jn_X8_says_139
    obtain ⟨vals', g1, g2⟩ := turns_lp (V := V) (W0 := W0) (waits := waits) hn (by omega) k o0 fu (vl c) (vp_updL vals V.length (vl c)) ⟨updL_at _ _ _, rpV_upd hv (Nat.le_refl _)⟩ hw (by omega) (by rw [fu_eq]; omega) (by omega)
    have g2' : f_X8_turns (nI (V.length + 1)) (nI (List.replicate k 22 ++ W0).length) (nI (o0 + k)) (vp_updL vals V.length (vl c)) waits = some (nI W0.length, nI o0, vals') := by
      rw [List.length_append, List.length_replicate]; exact g2
    rw [gdi (by omega) (by decide), nI_s, lt_y, clp (by omega), g2', bd_s, es, bd_s]
    exact h a' k' s' vals' waits hC' g1 (rpW_suf hw)
  show ∃ r, lp_X8_says_17 (nI N) tt sy ((n + L.length) + 1) _ _ _ _ _ _ _ _ _ = some r ∧ P r
  rw [lp_X8_says_17, if_neg z10, if_neg (show ¬ nI c = (22 : Int32) from ncu (d := 22) hc (by decide) (by omega)), if_neg (show ¬ nI c = (23 : Int32) from ncu (d := 23) hc (by decide) (by omega)), isOne_eq c hc, bd_s, if_pos ho, if_neg z10]
  by_cases h17 : c = 17
  · rw [if_pos (show nI c = (17 : Int32) by rw [h17]; rfl)]
    rw [show vl c = 0 from by unfold vl; rw [if_pos h17]] at fin
    exact fin
  · rw [if_neg (show ¬ nI c = (17 : Int32) from ncu hc (by decide) h17)]
    by_cases h18 : c = 18
    · rw [if_pos (show nI c = (18 : Int32) by rw [h18]; rfl)]
      rw [show vl c = -1 from by unfold vl; rw [if_neg h17, if_pos h18]] at fin
      exact fin
    · rw [if_neg (show ¬ nI c = (18 : Int32) from ncu hc (by decide) h18), show nI c - (10 : Int32) = nI (c - 10) from nI_sub (a := c) (b := 10) (by omega), letter_eq _ (by omega), bd_s]
      rw [show vl c = ltW (c - 10) from by unfold vl; rw [if_neg h17, if_neg h18]] at fin
      exact fin
theorem ms_push {tx : Nat → Nat} {N : Nat} {tt : Nat → Int32} {sy : Int64} (hT : TXm tx N tt) {n c q o : Nat} {L : List (Nat × Nat)} {V : List Int64} {W : List Nat} {P : RT → Prop} (hc : c = 22 ∨ c = 23) (hW : W.length ≤ 400) (ho : o < 8)
    (h : MS17 tx N tt sy n L V (c :: W) (o + 1) 1 P) : MS17 tx N tt sy n ((c, q) :: L) V W o 1 P := by
  intro a kk s vals waits hC hv hw
  have hCc := hC
  obtain ⟨_, rfl, rfl, f, p, rfl, hl⟩ := hC
  obtain ⟨a', k', s', es, hC'⟩ := scan_next hT.1 tt hT.2.1 hT.2.2 hCc
  have hc25 : c < 25 := by omega
  have fin : ∃ r, jn_X8_says_39 (nI N) tt sy (fun a k s vm wm op vs ws v1 => lp_X8_says_17 (nI N) tt sy (n + L.length) a k s vm wm op vs ws v1) (nI p) (nI c) (nI q) (nI V.length) (nI W.length) (nI o) vals waits 1 = some r ∧ P r := by
    unfold jn_X8_says_39
    rw [if_neg (by rw [i8, neq (by omega) (by decide)]; omega), nI_s, lt_y, gdi (by omega) (by decide), nI_s, lt_y, es, bd_s, clp (by omega)]
    exact h a' k' s' vals (upd waits W.length (nI c)) hC' hv ⟨hc25, upd_at _ _ _, rpW_upd hw (Nat.le_refl _)⟩
  show ∃ r, lp_X8_says_17 (nI N) tt sy ((n + L.length) + 1) _ _ _ _ _ _ _ _ _ = some r ∧ P r
  rw [lp_X8_says_17, if_neg z10]
  rcases hc with rfl | rfl
  · rw [if_pos (by decide)]; exact fin
  · rw [if_neg (by decide), if_pos (by decide)]; exact fin
/-- code of the token that stands next -/
def hdc : List (Nat × Nat) → Nat
  | [] => 0
  | (c, _) :: _ => c
theorem Cur_k {tx : Nat → Nat} {N : Nat} {a k s : Int32} {L : List (Nat × Nat)} (h : Cur tx N a k s L) : k = nI (hdc L) ∧ hdc L < 25 := by
  cases L with
  | nil => exact ⟨h.2.1, by decide⟩
  | cons x L => obtain ⟨c, q⟩ := x; exact ⟨h.2.1, h.1.2⟩
theorem ms_fail1 {tx : Nat → Nat} {N : Nat} {tt : Nat → Int32} {sy : Int64} {n o : Nat} {L : List (Nat × Nat)} {V : List Int64} {W : List Nat} {P : RT → Prop} (hn : 1 ≤ n) (ho : opd (hdc L) = false) (h2 : (hdc L = 22 ∨ hdc L = 23) → o = 8)
    (h : FP tx N L P) : MS17 tx N tt sy n L V W o 1 P := by
  intro a kk s vals waits hC hv hw
  obtain ⟨rfl, hc⟩ := Cur_k hC
  obtain ⟨m, hm⟩ : ∃ m, n + L.length = m + 1 := ⟨n + L.length - 1, by omega⟩
  rw [hm, lp_X8_says_17, if_neg z10]
  have fin : (hdc L = 22 ∨ hdc L = 23) → ∃ r, jn_X8_says_39 (nI N) tt sy (fun a k s vm wm op vs ws v1 => lp_X8_says_17 (nI N) tt sy m a k s vm wm op vs ws v1) a (nI (hdc L)) s (nI V.length) (nI W.length) (nI o) vals waits 1 = some r ∧ P r := by
    intro h3
    unfold jn_X8_says_39
    rw [if_pos (by rw [h2 h3]; rfl)]
    exact ⟨_, rfl, h _ rfl hC⟩
  by_cases h22 : hdc L = 22
  · rw [if_pos (show nI (hdc L) = (22 : Int32) by rw [h22]; rfl)]; exact fin (Or.inl h22)
  · rw [if_neg (show ¬ nI (hdc L) = (22 : Int32) from ncu hc (by decide) h22)]
    by_cases h23 : hdc L = 23
    · rw [if_pos (show nI (hdc L) = (23 : Int32) by rw [h23]; rfl)]; exact fin (Or.inr h23)
    · rw [if_neg (show ¬ nI (hdc L) = (23 : Int32) from ncu hc (by decide) h23), isOne_eq _ hc, bd_s, ho, if_pos f10]
      exact ⟨_, rfl, h _ rfl hC⟩
theorem ms_and {tx : Nat → Nat} {N : Nat} {tt : Nat → Int32} {sy : Int64} (hT : TXm tx N tt) {n q o : Nat} {L : List (Nat × Nat)} {acc : Int64} {V V1 : List Int64} {W W1 : List Nat} {P : RT → Prop} (hr : RedA acc V W V1 W1) (hs : stp20 21 W) (hV : V.length ≤ 400) (hW : W.length ≤ 400)
    (h : MS17 tx N tt sy n L (acc :: V) (21 :: W) o 1 P) : MS17 tx N tt sy n ((21, q) :: L) V1 W1 o 0 P := by
  intro a kk s vals waits hC hv hw
  have hCc := hC
  obtain ⟨_, rfl, rfl, f, p, rfl, hl⟩ := hC
  obtain ⟨a', k', s', es, hC'⟩ := scan_next hT.1 tt hT.2.1 hT.2.2 hCc
  obtain ⟨vals', g1, g2, g3⟩ := wk21 hr hs hv hw (by omega) (by omega)
  show ∃ r, lp_X8_says_17 (nI N) tt sy ((n + L.length) + 1) _ _ _ _ _ _ _ _ _ = some r ∧ P r
  rw [lp_X8_says_17, if_pos rfl, if_pos (show nI 21 = (21 : Int32) from rfl)]
  unfold jn_X8_says_179
  rw [show nI 21 = (21 : Int32) from rfl, g3, bd_s, gdi (by omega) (by decide), nI_s, lt_y, show (21 : Int32) = nI 21 from rfl, es, bd_s, clp (by omega)]
  exact h a' k' s' vals' (upd waits W.length (nI 21)) hC' g1 ⟨by decide, upd_at _ _ _, rpW_upd g2 (Nat.le_refl _)⟩
theorem ms_or {tx : Nat → Nat} {N : Nat} {tt : Nat → Int32} {sy : Int64} (hT : TXm tx N tt) {n q o : Nat} {L : List (Nat × Nat)} {acc : Int64} {V V1 : List Int64} {W W1 : List Nat} {P : RT → Prop} (hr : RedO acc V W V1 W1) (hs : stp20 20 W) (hV : V.length ≤ 400) (hW : W.length ≤ 400)
    (h : MS17 tx N tt sy n L (acc :: V) (20 :: W) o 1 P) : MS17 tx N tt sy n ((20, q) :: L) V1 W1 o 0 P := by
  intro a kk s vals waits hC hv hw
  have hCc := hC
  obtain ⟨_, rfl, rfl, f, p, rfl, hl⟩ := hC
  obtain ⟨a', k', s', es, hC'⟩ := scan_next hT.1 tt hT.2.1 hT.2.2 hCc
  obtain ⟨vals', g1, g2, g3⟩ := wk20 hr hs hv hw (by omega) (by omega)
  show ∃ r, lp_X8_says_17 (nI N) tt sy ((n + L.length) + 1) _ _ _ _ _ _ _ _ _ = some r ∧ P r
  rw [lp_X8_says_17, if_pos rfl, if_neg (show ¬ nI 20 = (21 : Int32) by decide), if_pos (show nI 20 = (20 : Int32) from rfl)]
  unfold jn_X8_says_179
  rw [show nI 20 = (20 : Int32) from rfl, g3, bd_s, gdi (by omega) (by decide), nI_s, lt_y, show (20 : Int32) = nI 20 from rfl, es, bd_s, clp (by omega)]
  exact h a' k' s' vals' (upd waits W.length (nI 20)) hC' g1 ⟨by decide, upd_at _ _ _, rpW_upd g2 (Nat.le_refl _)⟩
theorem RedA_mem {acc : Int64} {V V1 : List Int64} {W W1 : List Nat} (h : RedA acc V W V1 W1) : (23 ∈ W1 ↔ 23 ∈ W) ∧ W1.length ≤ W.length + 1 := by
  rcases h with ⟨_, rfl⟩ | ⟨_, _, _, rfl, _⟩
  · exact ⟨Iff.rfl, by omega⟩
  · exact ⟨by simp, by simp⟩
theorem RedO_mem {acc : Int64} {V V1 : List Int64} {W W1 : List Nat} (h : RedO acc V W V1 W1) : (23 ∈ W1 ↔ 23 ∈ W) ∧ W1.length ≤ W.length + 2 := by
  rcases h with h | ⟨a, b, h, _⟩
  · exact ⟨(RedA_mem h).1, by have := (RedA_mem h).2; omega⟩
  · obtain ⟨h1, h2⟩ := RedA_mem h
    exact ⟨by rw [h1]; simp, by simp only [List.length_cons] at h2; omega⟩
theorem ms_right {tx : Nat → Nat} {N : Nat} {tt : Nat → Int32} {sy : Int64} (hT : TXm tx N tt) {n q o0 k : Nat} {L : List (Nat × Nat)} {acc : Int64} {V V1 : List Int64} {W0 W1 : List Nat} {P : RT → Prop} (hr : RedO acc V (23 :: (List.replicate k 22 ++ W0)) V1 W1) (hn : no22 W0) (hV : V.length ≤ 400) (hW : k + W0.length ≤ 400) (ho : o0 + k ≤ 8)
    (h : MS17 tx N tt sy n L (negk k acc :: V) W0 o0 0 P) : MS17 tx N tt sy n ((24, q) :: L) V1 W1 (o0 + k + 1) 0 P := by
  intro a kk s vals waits hC hv hw
  have hCc := hC
  obtain ⟨_, rfl, rfl, f, p, rfl, hl⟩ := hC
  obtain ⟨a', k', s', es, hC'⟩ := scan_next hT.1 tt hT.2.1 hT.2.2 hCc
  have hlen : (23 :: (List.replicate k 22 ++ W0)).length = (k + W0.length) + 1 := by simp
  obtain ⟨vals', g1, g2, g3⟩ := wk20 hr (Or.inr (by decide)) hv hw (by omega) (by rw [hlen]; omega)
  have hm := RedO_mem hr
  rw [hlen] at hm g3
  obtain ⟨vals'', g4, g5⟩ := turns_lp (V := V) (W0 := W0) (waits := waits) hn (by omega) k o0 fu acc vals' g1 g2.2.2 (by omega) (by rw [fu_eq]; omega) (by omega)
  show ∃ r, lp_X8_says_17 (nI N) tt sy ((n + L.length) + 1) _ _ _ _ _ _ _ _ _ = some r ∧ P r
  rw [lp_X8_says_17, if_pos rfl, if_neg (show ¬ nI 24 = (21 : Int32) by decide), if_neg (show ¬ nI 24 = (20 : Int32) by decide), if_pos (show nI 24 = (24 : Int32) from rfl), inner_y hw (by omega) (hm.1.mpr (by simp)), bd_s, if_neg z10, g3, bd_s, nI_m1, lt_y, nI_m1, lt_y]
  have g5' : f_X8_turns (nI (V.length + 1)) (nI (k + W0.length)) (nI (o0 + k)) vals' waits = some (nI W0.length, nI o0, vals'') := g5
  rw [g5', bd_s, es, bd_s]
  have g6 : rpW waits (List.replicate k 22 ++ W0) := g2.2.2
  exact h a' k' s' vals'' waits hC' g4 (rpW_suf g6)
theorem ms_fail0 {tx : Nat → Nat} {N : Nat} {tt : Nat → Int32} {sy : Int64} {n o : Nat} {L : List (Nat × Nat)} {V : List Int64} {W : List Nat} {P : RT → Prop} (hn : 1 ≤ n) (h20 : ¬ hdc L = 20) (h21 : ¬ hdc L = 21) (h24 : ¬ hdc L = 24) (hW : W.length ≤ 409) (hi : 23 ∈ W)
    (h : FP tx N L P) : MS17 tx N tt sy n L V W o 0 P := by
  intro a kk s vals waits hC hv hw
  obtain ⟨rfl, hc⟩ := Cur_k hC
  obtain ⟨m, hm⟩ : ∃ m, n + L.length = m + 1 := ⟨n + L.length - 1, by omega⟩
  rw [hm, lp_X8_says_17, if_pos rfl, if_neg (show ¬ nI (hdc L) = (21 : Int32) from ncu hc (by decide) h21), if_neg (show ¬ nI (hdc L) = (20 : Int32) from ncu hc (by decide) h20), if_neg (show ¬ nI (hdc L) = (24 : Int32) from ncu hc (by decide) h24)]
  unfold jn_X8_says_264
  rw [inner_y hw hW hi, bd_s, if_neg z10]
  exact ⟨_, rfl, h _ rfl hC⟩
theorem ms_done {tx : Nat → Nat} {N : Nat} {tt : Nat → Int32} {sy : Int64} {n o : Nat} {L : List (Nat × Nat)} {acc : Int64} {V1 : List Int64} {W1 : List Nat} {P : RT → Prop} (hn : 1 ≤ n) (h20 : ¬ hdc L = 20) (h21 : ¬ hdc L = 21) (hr : RedO acc [] [] V1 W1)
    (h : ∀ r : RT, r.1 = 1 → Cur tx N r.2.1 r.2.2.1 r.2.2.2.1 L → r.2.2.2.2.2.2.2.1 = acc → P r) : MS17 tx N tt sy n L V1 W1 o 0 P := by
  intro a kk s vals waits hC hv hw
  obtain ⟨rfl, hc⟩ := Cur_k hC
  obtain ⟨m, hm⟩ : ∃ m, n + L.length = m + 1 := ⟨n + L.length - 1, by omega⟩
  obtain ⟨vals', g1, g2, g3⟩ := wk20 hr trivial hv hw (by decide) (by decide)
  have hmem := RedO_mem hr
  have hni : f_X8_isInner (nI W1.length) waits = some 0 := inner_n hw (by have := hmem.2; simp only [List.length_nil] at this; omega) (fun z => by have := hmem.1.mp z; cases this)
  have e : ∃ r, jn_X8_says_264 (nI N) tt a (nI (hdc L)) s (nI V1.length) (nI W1.length) (nI o) sy vals waits = some r ∧ P r := by
    unfold jn_X8_says_264
    rw [hni, bd_s, if_pos rfl, g3, bd_s, gd_y (by decide), lt_y]
    exact ⟨_, rfl, h _ rfl hC g1.1⟩
  rw [hm, lp_X8_says_17, if_pos rfl, if_neg (show ¬ nI (hdc L) = (21 : Int32) from ncu hc (by decide) h21), if_neg (show ¬ nI (hdc L) = (20 : Int32) from ncu hc (by decide) h20)]
  by_cases h24 : hdc L = 24
  · rw [if_pos (show nI (hdc L) = (24 : Int32) by rw [h24]; rfl), hni, bd_s, if_pos rfl]; exact e
  · rw [if_neg (show ¬ nI (hdc L) = (24 : Int32) from ncu hc (by decide) h24)]; exact e
