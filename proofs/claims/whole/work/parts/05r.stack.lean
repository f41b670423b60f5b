-- ===== stacks =====
def rpV (f : Nat → Int64) : List Int64 → Prop
  | [] => True
  | x :: V => f V.length = x ∧ rpV f V
def rpW (f : Nat → Int32) : List Nat → Prop
  | [] => True
  | c :: W => c < 25 ∧ f W.length = nI c ∧ rpW f W
theorem updL_at (f : Nat → Int64) (j : Nat) (v : Int64) : vp_updL f j v j = v := if_pos rfl
theorem updL_ne (f : Nat → Int64) {j i : Nat} (h : ¬ i = j) (v : Int64) : vp_updL f j v i = f i := if_neg h
theorem rpV_upd {f : Nat → Int64} {m : Nat} {x : Int64} : ∀ {V : List Int64}, rpV f V → V.length ≤ m → rpV (vp_updL f m x) V
  | [], _, _ => trivial
  | y :: V, h, hm => by
    have hm' : V.length + 1 ≤ m := hm
    exact ⟨by rw [updL_ne _ (by omega)]; exact h.1, rpV_upd h.2 (by omega)⟩
theorem rpW_upd {f : Nat → Int32} {m : Nat} {x : Int32} : ∀ {W : List Nat}, rpW f W → W.length ≤ m → rpW (upd f m x) W
  | [], _, _ => trivial
  | y :: W, h, hm => by
    have hm' : W.length + 1 ≤ m := hm
    exact ⟨h.1, by rw [upd_ne _ (by omega)]; exact h.2.1, rpW_upd h.2.2 (by omega)⟩
theorem rpW_suf {f : Nat → Int32} : ∀ {A W : List Nat}, rpW f (A ++ W) → rpW f W
  | [], _, h => h
  | _ :: A, _, h => rpW_suf (A := A) h.2.2
theorem nI_m1 {a : Nat} : nI (a + 1) - (1 : Int32) = nI a := nI_pred a
theorem nI_m2 {a : Nat} : nI (a + 2) - (2 : Int32) = nI a := nI_sub (a := a + 2) (b := 2) (by omega)
def stp20 (a : Nat) : List Nat → Prop
  | [] => True
  | c :: _ => c < a ∨ 22 ≤ c
theorem wk_stop {a : Nat} (ha : a = 20 ∨ a = 21) {waits : Nat → Int32} {W : List Nat} (hW : rpW waits W) (hl : W.length ≤ 409) (hs : stp20 a W) (n : Nat) (vm : Int32) (vals : Nat → Int64) : lp_X8_works_0 waits (nI a) (n + 1) vm (nI W.length) vals = some (vm, nI W.length, vals) := by
  rw [lp_X8_works_0]
  cases W with
  | nil => rw [if_pos (by decide)]
  | cons c W =>
    have hl' : W.length + 1 ≤ 409 := hl
    obtain ⟨hc, e, _⟩ := hW
    rw [List.length_cons, if_neg (by rw [i0, nle (by omega) (by decide)]; omega), nI_m1, gdi (by omega) (by decide), clp (by omega), e]
    by_cases h1 : c < a
    · rw [if_pos (by rw [nlt (by omega) (by omega)]; exact h1)]
    · have h2 : 22 ≤ c := by rcases hs with h | h; exact absurd h h1; exact h
      rw [if_neg (by rw [nlt (by omega) (by omega)]; exact h1), gdi (by omega) (by decide), if_pos (by rw [show (22 : Int32) = nI 22 from rfl, nle (by decide) (by omega)]; exact h2)]
theorem wk_step {a op : Nat} (ha : a = 20 ∨ a = 21) (hop : op = 20 ∨ op = 21) (hao : a ≤ op) {waits : Nat → Int32} {vals : Nat → Int64} {v w : Nat} (hv : v + 2 ≤ 409) (hw : w + 1 ≤ 409) (e : waits w = nI op) (n : Nat) : lp_X8_works_0 waits (nI a) (n + 1) (nI (v + 2)) (nI (w + 1)) vals = lp_X8_works_0 waits (nI a) n (nI (v + 1)) (nI w) (vp_updL vals v (if op = 20 then vals v ||| vals (v + 1) else vals v &&& vals (v + 1))) := by
  rw [lp_X8_works_0, if_neg (by rw [i0, nle (by omega) (by decide)]; omega), nI_m1, gdi (by omega) (by decide), clp (by omega), e, if_neg (by rw [nlt (by omega) (by omega)]; omega), gdi (by omega) (by decide), if_neg (by rw [show (22 : Int32) = nI 22 from rfl, nle (by decide) (by omega)]; omega), nI_m2, gdi (by omega) (by decide), clp (by omega), lt_y, show nI (v + 2) - (1 : Int32) = nI (v + 1) from nI_m1, gdi (by omega) (by decide), clp (by omega), lt_y, lt_y, gdi (by omega) (by decide), nI_m1, gdi (by omega) (by decide), gdi (by omega) (by decide), clp (by omega), lt_y, lt_y]
  rcases hop with rfl | rfl
  · rw [if_pos (by decide), if_pos rfl]
  · rw [if_neg (by decide), if_neg (by decide)]
def RedA (acc : Int64) (V : List Int64) (W : List Nat) (V1 : List Int64) (W1 : List Nat) : Prop := (V1 = acc :: V ∧ W1 = W) ∨ (∃ a b, V1 = b :: a :: V ∧ W1 = 21 :: W ∧ acc = a &&& b)
def RedO (acc : Int64) (V : List Int64) (W : List Nat) (V1 : List Int64) (W1 : List Nat) : Prop := RedA acc V W V1 W1 ∨ ∃ a b, RedA b (a :: V) (20 :: W) V1 W1 ∧ acc = a ||| b
theorem wk_redA {a : Nat} (ha : a = 20 ∨ a = 21) {acc : Int64} {V : List Int64} {W : List Nat} {V1 : List Int64} {W1 : List Nat} (h : RedA acc V W V1 W1) {waits : Nat → Int32} {vals : Nat → Int64} (hV : rpV vals V1) (hW : rpW waits W1) (hlV : V.length ≤ 406) (hlW : W.length ≤ 407) (n : Nat) : ∃ n' vals', n ≤ n' ∧ rpV vals' (acc :: V) ∧ rpW waits W ∧ lp_X8_works_0 waits (nI a) (n + 1) (nI V1.length) (nI W1.length) vals = lp_X8_works_0 waits (nI a) n' (nI (V.length + 1)) (nI W.length) vals' := by
  rcases h with ⟨rfl, rfl⟩ | ⟨x, y, rfl, rfl, rfl⟩
  · exact ⟨n + 1, vals, by omega, hV, hW, rfl⟩
  · obtain ⟨e1, e2, e3⟩ := hV
    obtain ⟨_, e4, e5⟩ := hW
    refine ⟨n, _, Nat.le_refl _, ?_, e5, wk_step (op := 21) (v := V.length) (w := W.length) ha (Or.inr rfl) (by omega) (by omega) (by omega) e4 n⟩
    rw [if_neg (by decide)]
    have e1' : vals (V.length + 1) = y := e1
    refine ⟨?_, rpV_upd e3 (Nat.le_refl _)⟩
    rw [updL_at, e2, e1']
theorem wk21 {acc : Int64} {V : List Int64} {W : List Nat} {V1 : List Int64} {W1 : List Nat} (h : RedA acc V W V1 W1) (hs : stp20 21 W) {waits : Nat → Int32} {vals : Nat → Int64} (hV : rpV vals V1) (hW : rpW waits W1) (hlV : V.length ≤ 406) (hlW : W.length ≤ 407) : ∃ vals', rpV vals' (acc :: V) ∧ rpW waits W ∧ f_X8_works (nI V1.length) (nI W1.length) vals waits (21 : Int32) = some (nI (V.length + 1), nI W.length, vals') := by
  obtain ⟨n', vals', hn, h1, h2, h3⟩ := wk_redA (Or.inr rfl) h hV hW hlV hlW 999
  obtain ⟨n', rfl⟩ : ∃ q, n' = q + 1 := ⟨n' - 1, by omega⟩
  exact ⟨vals', h1, h2, h3.trans (wk_stop (Or.inr rfl) h2 (by omega) hs n' _ _)⟩
theorem wk20 {acc : Int64} {V : List Int64} {W : List Nat} {V1 : List Int64} {W1 : List Nat} (h : RedO acc V W V1 W1) (hs : stp20 20 W) {waits : Nat → Int32} {vals : Nat → Int64} (hV : rpV vals V1) (hW : rpW waits W1) (hlV : V.length ≤ 405) (hlW : W.length ≤ 406) : ∃ vals', rpV vals' (acc :: V) ∧ rpW waits W ∧ f_X8_works (nI V1.length) (nI W1.length) vals waits (20 : Int32) = some (nI (V.length + 1), nI W.length, vals') := by
  rcases h with h | ⟨x, y, h, rfl⟩
  · obtain ⟨n', vals', hn, h1, h2, h3⟩ := wk_redA (Or.inl rfl) h hV hW (by omega) (by omega) 999
    obtain ⟨n', rfl⟩ : ∃ q, n' = q + 1 := ⟨n' - 1, by omega⟩
    exact ⟨vals', h1, h2, h3.trans (wk_stop (Or.inl rfl) h2 (by omega) hs n' _ _)⟩
  · obtain ⟨n', vals', hn, h1, h2, h3⟩ := wk_redA (Or.inl rfl) h hV hW (by show V.length + 1 ≤ 406; omega) (by show W.length + 1 ≤ 407; omega) 999
    obtain ⟨n', rfl⟩ : ∃ q, n' = q + 2 := ⟨n' - 2, by omega⟩
    obtain ⟨e1, e2, e3⟩ := h1
    obtain ⟨_, e4, e5⟩ := h2
    refine ⟨_, ?_, e5, h3.trans ((wk_step (op := 20) (v := V.length) (w := W.length) (Or.inl rfl) (Or.inl rfl) (by omega) (by omega) (by omega) e4 (n' + 1)).trans (wk_stop (Or.inl rfl) e5 (by omega) hs n' _ _))⟩
    rw [if_pos rfl]
    have e1' : vals' (V.length + 1) = y := e1
    refine ⟨?_, rpV_upd e3 (Nat.le_refl _)⟩
    rw [updL_at, e2, e1']
def negk : Nat → Int64 → Int64
  | 0, v => v
  | k + 1, v => negk k (v ^^^ (-1))
def no22 : List Nat → Prop
  | [] => True
  | c :: _ => ¬ c = 22
theorem turns_lp {V : List Int64} {W0 : List Nat} {waits : Nat → Int32} (hn : no22 W0) (hlV : V.length ≤ 408) : ∀ (k o0 n : Nat) (v : Int64) (vals : Nat → Int64), rpV vals (v :: V) → rpW waits (List.replicate k 22 ++ W0) → k + W0.length ≤ 409 → k < n → o0 + k ≤ 100 → ∃ vals', rpV vals' (negk k v :: V) ∧ lp_X8_turns_0 (nI (V.length + 1)) waits n (nI (k + W0.length)) (nI (o0 + k)) vals = some (nI W0.length, nI o0, vals') := by
  intro k
  induction k with
  | zero =>
    intro o0 n v vals hV hW hl hk ho
    obtain ⟨n, rfl⟩ : ∃ q, n = q + 1 := ⟨n - 1, by omega⟩
    refine ⟨vals, hV, ?_⟩
    rw [Nat.zero_add, lp_X8_turns_0]
    cases W0 with
    | nil => rw [if_pos (by decide)]; rfl
    | cons c W =>
      have hl' : 0 + (W.length + 1) ≤ 409 := hl
      obtain ⟨hc, e, _⟩ := hW
      have e' : waits W.length = nI c := e
      rw [List.length_cons, if_neg (by rw [i0, nle (by omega) (by decide)]; omega), nI_m1, gdi (by omega) (by decide), clp (by omega), e', if_neg (by rw [show (22 : Int32) = nI 22 from rfl, neq (by omega) (by decide)]; exact hn)]; rfl
  | succ k ih =>
    intro o0 n v vals hV hW hl hk ho
    obtain ⟨n, rfl⟩ : ∃ q, n = q + 1 := ⟨n - 1, by omega⟩
    rw [List.replicate_succ, List.cons_append] at hW
    obtain ⟨_, e, hW'⟩ := hW
    rw [List.length_append, List.length_replicate] at e
    obtain ⟨e1, e2⟩ := hV
    obtain ⟨vals', h1, h2⟩ := ih o0 n (v ^^^ (-1)) (vp_updL vals V.length (v ^^^ (-1))) ⟨updL_at _ _ _, rpV_upd e2 (Nat.le_refl _)⟩ hW' (by omega) (by omega) (by omega)
    refine ⟨vals', h1, ?_⟩
    rw [lp_X8_turns_0, if_neg (by rw [i0, nle (by omega) (by decide)]; omega), show k + 1 + W0.length = (k + W0.length) + 1 by omega, nI_m1, gdi (by omega) (by decide), clp (by omega), e, if_pos (by decide), nI_m1, gdi (by omega) (by decide), gdi (by omega) (by decide), lt_y, show o0 + (k + 1) = (o0 + k) + 1 by omega, nI_m1, lt_y, clp (by omega), e1]
    exact h2
theorem inn_mem {waits : Nat → Int32} : ∀ {W : List Nat}, rpW waits W → W.length ≤ 409 → ((∃ t, t < W.length ∧ waits t = nI 23) ↔ 23 ∈ W)
  | [], _, _ => ⟨fun ⟨t, h, _⟩ => absurd h (Nat.not_lt_zero t), fun h => absurd h (List.not_mem_nil)⟩
  | c :: W, h, hl => by
    have hl' : W.length + 1 ≤ 409 := hl
    obtain ⟨hc, e, h'⟩ := h
    have ih := inn_mem h' (by omega)
    rw [List.mem_cons]
    constructor
    · rintro ⟨t, ht, et⟩
      have ht' : t < W.length + 1 := ht
      by_cases hq : t = W.length
      · subst hq
        rw [e, neq (by omega) (by decide)] at et
        exact Or.inl et.symm
      · exact Or.inr (ih.mp ⟨t, by omega, et⟩)
    · rintro (rfl | h)
      · exact ⟨W.length, Nat.lt_succ_self _, e⟩
      · obtain ⟨t, ht, et⟩ := ih.mpr h
        exact ⟨t, Nat.lt_succ_of_lt ht, et⟩
theorem inner1 {waits : Nat → Int32} {m : Nat} (hm : m ≤ 409) : ∀ (c i n : Nat), i + c = m → c < n → lp_X8_isInner_4 (nI m) waits n 1 (nI i) = some 1
  | 0, i, n, h, hn => by
    obtain ⟨n, rfl⟩ : ∃ q, n = q + 1 := ⟨n - 1, by omega⟩
    rw [lp_X8_isInner_4, if_pos (by rw [nle (by omega) (by omega)]; omega), gd_y zb_1]
  | c + 1, i, n, h, hn => by
    obtain ⟨n, rfl⟩ : ∃ q, n = q + 1 := ⟨n - 1, by omega⟩
    rw [lp_X8_isInner_4, if_neg (by rw [nle (by omega) (by omega)]; omega), if_neg z10, lt_y, nI_s]
    exact inner1 hm c (i + 1) n (by omega) (by omega)
theorem inner0 {waits : Nat → Int32} {m : Nat} (hm : m ≤ 409) : ∀ (c i n : Nat), i + c = m → c < n → ((∃ t, i ≤ t ∧ t < m ∧ waits t = nI 23) → lp_X8_isInner_4 (nI m) waits n 0 (nI i) = some 1) ∧ ((¬ ∃ t, i ≤ t ∧ t < m ∧ waits t = nI 23) → lp_X8_isInner_4 (nI m) waits n 0 (nI i) = some 0)
  | 0, i, n, h, hn => by
    obtain ⟨n, rfl⟩ : ∃ q, n = q + 1 := ⟨n - 1, by omega⟩
    refine ⟨fun ⟨t, h1, h2, _⟩ => by omega, fun _ => ?_⟩
    rw [lp_X8_isInner_4, if_pos (by rw [nle (by omega) (by omega)]; omega), gd_y zb_0]
  | c + 1, i, n, h, hn => by
    obtain ⟨n, rfl⟩ : ∃ q, n = q + 1 := ⟨n - 1, by omega⟩
    rw [lp_X8_isInner_4, if_neg (by rw [nle (by omega) (by omega)]; omega), if_pos rfl, gdi (by omega) (by decide), clp (by omega)]
    by_cases e : waits i = nI 23
    · rw [if_pos (by rw [e]; rfl), lt_y, nI_s]
      exact ⟨fun _ => inner1 hm c (i + 1) n (by omega) (by omega), fun h => absurd ⟨i, Nat.le_refl _, by omega, e⟩ h⟩
    · rw [if_neg (show ¬ waits i = (23 : Int32) from e), lt_y, nI_s]
      obtain ⟨h1, h2⟩ := inner0 (waits := waits) hm c (i + 1) n (by omega) (by omega)
      refine ⟨fun ⟨t, a1, a2, a3⟩ => h1 ⟨t, ?_, a2, a3⟩, fun hh => h2 (fun ⟨t, a1, a2, a3⟩ => hh ⟨t, by omega, a2, a3⟩)⟩
      by_cases q : t = i
      · subst q; exact absurd a3 e
      · omega
theorem inner_y {waits : Nat → Int32} {W : List Nat} (hW : rpW waits W) (hl : W.length ≤ 409) (h : 23 ∈ W) : f_X8_isInner (nI W.length) waits = some 1 := by
  obtain ⟨t, ht, et⟩ := (inn_mem hW hl).mpr h
  exact (inner0 hl W.length 0 fu (by omega) (by rw [fu_eq]; omega)).1 ⟨t, Nat.zero_le _, ht, et⟩
theorem inner_n {waits : Nat → Int32} {W : List Nat} (hW : rpW waits W) (hl : W.length ≤ 409) (h : ¬ 23 ∈ W) : f_X8_isInner (nI W.length) waits = some 0 :=
  (inner0 hl W.length 0 fu (by omega) (by rw [fu_eq]; omega)).2 (fun ⟨t, _, h1, h2⟩ => h ((inn_mem hW hl).mp ⟨t, h1, h2⟩))
