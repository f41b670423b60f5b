-- ===== all items, side by side =====
def IR (k0 k1 k3 k4 : Nat) (ak wk tq fk gk : Nat → Int64) (fresh : Nat → Int64) (fm : Nat → Int32) : Prop :=
  (k0 ≤ 4 ∧ k1 ≤ 8 ∧ k3 ≤ 4 ∧ k4 ≤ 6) ∧ (fm 0 = nI k0 ∧ fm 1 = nI k1 ∧ fm 3 = nI k3 ∧ fm 4 = nI k4) ∧ (∀ i, i < k0 → ak i = fresh i) ∧ (∀ i, i < k1 → wk i = fresh (9 + i)) ∧ (∀ i, i < k1 → tq i = fresh (18 + i)) ∧ (∀ i, i < k3 → fk i = fresh (27 + i)) ∧ (∀ i, i < k4 → gk i = fresh (36 + i))
theorem IR_a {k0 k1 k3 k4 : Nat} {ak wk tq fk gk : Nat → Int64} {fresh : Nat → Int64} {fm : Nat → Int32} (h : IR k0 k1 k3 k4 ak wk tq fk gk fresh fm) (hk : k0 < 4) (v : Int64) : IR (k0 + 1) k1 k3 k4 (vp_updL ak k0 v) wk tq fk gk (vp_updL fresh (9 * 0 + k0) v) (upd fm 0 (nI (k0 + 1))) := by
  obtain ⟨⟨b0, b1, b3, b4⟩, ⟨f0, f1, f3, f4⟩, ha, hw, ht, hf, hg⟩ := h
  refine ⟨⟨by omega, by omega, by omega, by omega⟩, ⟨upd_at _ _ _, by rw [upd_ne _ (by decide)]; exact f1, by rw [upd_ne _ (by decide)]; exact f3, by rw [upd_ne _ (by decide)]; exact f4⟩, fun i hi => ?_, fun i hi => ?_, fun i hi => ?_, fun i hi => ?_, fun i hi => ?_⟩
  · by_cases e : i = k0
    · subst e; rw [updL_at, show 9 * 0 + i = i by omega, updL_at]
    · rw [updL_ne _ e, updL_ne _ (by omega)]; exact ha i (by omega)
  · rw [updL_ne _ (by omega)]; exact hw i hi
  · rw [updL_ne _ (by omega)]; exact ht i hi
  · rw [updL_ne _ (by omega)]; exact hf i hi
  · rw [updL_ne _ (by omega)]; exact hg i hi
theorem IR_f {k0 k1 k3 k4 : Nat} {ak wk tq fk gk : Nat → Int64} {fresh : Nat → Int64} {fm : Nat → Int32} (h : IR k0 k1 k3 k4 ak wk tq fk gk fresh fm) (hk : k3 < 4) (v : Int64) : IR k0 k1 (k3 + 1) k4 ak wk tq (vp_updL fk k3 v) gk (vp_updL fresh (9 * 3 + k3) v) (upd fm 3 (nI (k3 + 1))) := by
  obtain ⟨⟨b0, b1, b3, b4⟩, ⟨f0, f1, f3, f4⟩, ha, hw, ht, hf, hg⟩ := h
  refine ⟨⟨by omega, by omega, by omega, by omega⟩, ⟨by rw [upd_ne _ (by decide)]; exact f0, by rw [upd_ne _ (by decide)]; exact f1, upd_at _ _ _, by rw [upd_ne _ (by decide)]; exact f4⟩, fun i hi => ?_, fun i hi => ?_, fun i hi => ?_, fun i hi => ?_, fun i hi => ?_⟩
  · rw [updL_ne _ (by omega)]; exact ha i hi
  · rw [updL_ne _ (by omega)]; exact hw i hi
  · rw [updL_ne _ (by omega)]; exact ht i hi
  · by_cases e : i = k3
    · subst e; rw [updL_at, show 9 * 3 + i = 27 + i by omega, updL_at]
    · rw [updL_ne _ e, updL_ne _ (by omega)]; exact hf i (by omega)
  · rw [updL_ne _ (by omega)]; exact hg i hi
theorem IR_g {k0 k1 k3 k4 : Nat} {ak wk tq fk gk : Nat → Int64} {fresh : Nat → Int64} {fm : Nat → Int32} (h : IR k0 k1 k3 k4 ak wk tq fk gk fresh fm) (hk : k4 < 6) (v : Int64) : IR k0 k1 k3 (k4 + 1) ak wk tq fk (vp_updL gk k4 v) (vp_updL fresh (9 * 4 + k4) v) (upd fm 4 (nI (k4 + 1))) := by
  obtain ⟨⟨b0, b1, b3, b4⟩, ⟨f0, f1, f3, f4⟩, ha, hw, ht, hf, hg⟩ := h
  refine ⟨⟨by omega, by omega, by omega, by omega⟩, ⟨by rw [upd_ne _ (by decide)]; exact f0, by rw [upd_ne _ (by decide)]; exact f1, by rw [upd_ne _ (by decide)]; exact f3, upd_at _ _ _⟩, fun i hi => ?_, fun i hi => ?_, fun i hi => ?_, fun i hi => ?_, fun i hi => ?_⟩
  · rw [updL_ne _ (by omega)]; exact ha i hi
  · rw [updL_ne _ (by omega)]; exact hw i hi
  · rw [updL_ne _ (by omega)]; exact ht i hi
  · rw [updL_ne _ (by omega)]; exact hf i hi
  · by_cases e : i = k4
    · subst e; rw [updL_at, show 9 * 4 + i = 36 + i by omega, updL_at]
    · rw [updL_ne _ e, updL_ne _ (by omega)]; exact hg i (by omega)
theorem IR_r {k0 k1 k3 k4 : Nat} {ak wk tq fk gk : Nat → Int64} {fresh : Nat → Int64} {fm : Nat → Int32} (h : IR k0 k1 k3 k4 ak wk tq fk gk fresh fm) (hk : k1 < 8) (v1 v2 : Int64) : IR k0 (k1 + 1) k3 k4 ak (vp_updL wk k1 v1) (vp_updL tq k1 v2) fk gk (vp_updL (vp_updL fresh (9 + k1) v1) (18 + k1) v2) (upd fm 1 (nI (k1 + 1))) := by
  obtain ⟨⟨b0, b1, b3, b4⟩, ⟨f0, f1, f3, f4⟩, ha, hw, ht, hf, hg⟩ := h
  refine ⟨⟨by omega, by omega, by omega, by omega⟩, ⟨by rw [upd_ne _ (by decide)]; exact f0, upd_at _ _ _, by rw [upd_ne _ (by decide)]; exact f3, by rw [upd_ne _ (by decide)]; exact f4⟩, fun i hi => ?_, fun i hi => ?_, fun i hi => ?_, fun i hi => ?_, fun i hi => ?_⟩
  · rw [updL_ne _ (by omega), updL_ne _ (by omega)]; exact ha i hi
  · rw [updL_ne _ (show ¬ 9 + i = 18 + k1 by omega)]
    by_cases e : i = k1
    · subst e; rw [updL_at, updL_at]
    · rw [updL_ne _ e, updL_ne _ (by omega)]; exact hw i (by omega)
  · by_cases e : i = k1
    · subst e; rw [updL_at, updL_at]
    · rw [updL_ne _ e, updL_ne _ (by omega), updL_ne _ (by omega)]; exact ht i (by omega)
  · rw [updL_ne _ (by omega), updL_ne _ (by omega)]; exact hf i hi
  · rw [updL_ne _ (by omega), updL_ne _ (by omega)]; exact hg i hi
theorem ri_exit (sz : Int32) (tk : Nat → Int32) (m0 m1 m2 m3 m4 : Int32) (f : Nat) (nx : Int32) (s0 s1 s2 s3 s4 : Int32) (ak wk tq fk gk : Nat → Int64) (v : Int32) : lp_X3_readItems_6 sz tk m0 m1 m2 m3 m4 (f + 1) nx (nI 257) s0 ak s1 wk s2 tq s3 fk s4 gk v = some (nx, nI 257, s0, ak, s1, wk, s2, tq, s3, fk, s4, gk) := by
  rw [lp_X3_readItems_6]
  by_cases h : (400 : Int32) ≤ v
  · rw [if_pos h]
  · rw [if_neg h, if_neg (by decide), if_pos (by decide)]
theorem item_no {N : Nat} (a kk s vm wm op : Int32) (sy : Int64) (tt : Nat → Int32) (vals : Nat → Int64) (waits : Nat → Int32) (fresh : Nat → Int64) (fm : Nat → Int32) (h : f_X8_sortOf kk = some (-9)) : f_X8_item (nI N) a kk s vm wm op sy tt vals waits fresh fm = some (0, a, kk, s, vm, wm, op, sy, vals, waits, fresh, fm) := by
  unfold f_X8_item
  rw [h, bd_s, if_pos (by decide)]
theorem item_full {N : Nat} (a kk s vm wm op : Int32) (sy : Int64) (tt : Nat → Int32) (vals : Nat → Int64) (waits : Nat → Int32) (fresh : Nat → Int64) (fm : Nat → Int32) {st m : Nat} (h : f_X8_sortOf kk = some (nI st)) (hst : st < 5) (hm : f_X8_mostOf (nI st) = some (nI m)) (hf : fm st = nI m) : f_X8_item (nI N) a kk s vm wm op sy tt vals waits fresh fm = some (0, a, kk, s, vm, wm, op, sy, vals, waits, fresh, fm) := by
  unfold f_X8_item
  rw [h, bd_s, if_neg (lnn (by omega)), gdi hst (by decide), hm, bd_s, clp (by omega), if_pos hf]
theorem listed_full {m : Nat} (hm : m ≤ 9) (sz nx k : Int32) (tk : Nat → Int32) (kept : Nat → Int64) : f_X3_readListed sz nx k tk (nI m) (nI m) kept = some (nx, nI 257, nI m, kept) := by
  unfold f_X3_readListed
  rw [full_yes hm, bd_s, if_neg z10]
  rfl
theorem rule_full (sz nx k : Int32) (tk : Nat → Int32) (wk tq : Nat → Int64) : f_X3_readRule sz nx k tk (nI 8) (nI 8) wk (nI 8) (nI 8) tq = some (nx, nI 257, nI 8, wk, nI 8, tq) := by
  unfold f_X3_readRule
  rw [show f_X4_isFull (nI 8) (nI 8) = some 1 from rfl, bd_s, if_neg z10]
  rfl
abbrev RX : Type := Int32 × (Nat → Int64) × Int32 × (Nat → Int64) × Int32 × (Nat → Int64) × Int32 × (Nat → Int64) × Int32 × (Nat → Int64)
abbrev RTl : Type := Int32 × Int32 × Int32 × Int32 × Int32 × Int32 × Int32 × Int32 × Int64 × Int32 × (Nat → Int64) × (Nat → Int32) × (Nat → Int32) × (Nat → Int32) × (Nat → Int64) × (Nat → Int32) × (Nat → Int64) × (Nat → Int32)
/-- how both loops over items end -/
def Ended (tx : Nat → Nat) (N : Nat) (tt tk pl : Nat → Int32) (M : Nat) (qu : Int32) (said : Nat → Int64) (many gr db : Nat → Int32) (c : Option (Int32 × Int32 × RX)) (m : Option RTl) : Prop :=
  (∃ (j' : Nat) (L' : List (Nat × Nat)), (∃ x : RX, c = some (nI j', nI 257, x)) ∧ j' + L'.length = M ∧ repT N tk pl j' L' ∧ ∃ (a' k' s' vm' wm' op' : Int32) (sy' : Int64) (vals' : Nat → Int64) (waits' : Nat → Int32) (fresh' : Nat → Int64) (fm' : Nat → Int32), m = some ((-10 : Int32) - s', nI N, a', k', s', vm', wm', op', sy', qu, said, many, gr, db, vals', waits', fresh', fm') ∧ Cur tx N a' k' s' L') ∨
  (∃ (j' k0 k1 k3 k4 : Nat) (ak wk tq fk gk : Nat → Int64) (fresh' : Nat → Int64) (fm' : Nat → Int32), c = some (nI j', nI 256, nI k0, ak, nI k1, wk, nI k1, tq, nI k3, fk, nI k4, gk) ∧ IR k0 k1 k3 k4 ak wk tq fk gk fresh' fm' ∧ ∃ (a' k' s' vm' wm' op' : Int32) (sy' : Int64) (vals' : Nat → Int64) (waits' : Nat → Int32), m = lp_X8_tell_61 tt (nI N) a' k' s' vm' wm' op' sy' qu many gr db vals' waits' fresh' fm' (nI (k0 + k1 + k3 + k4)) fu said (0 : Int32))
theorem sort_bad0 : ∀ c, c < 25 → (c = 2 ∨ c = 3 ∨ c = 5 ∨ c = 6 ∨ f_X8_sortOf (nI c) = some (-9)) := by decide +kernel
theorem sort_bad (c : Nat) (h : c < 25) (h2 : ¬ c = 2) (h3 : ¬ c = 3) (h5 : ¬ c = 5) (h6 : ¬ c = 6) : f_X8_sortOf (nI c) = some (-9) := by
  rcases sort_bad0 c h with e | e | e | e | e
  · exact absurd e h2
  · exact absurd e h3
  · exact absurd e h5
  · exact absurd e h6
  · exact e
theorem tok_bad0 : ∀ c, c < 25 → ((c = 0 ∨ c = 2 ∨ c = 3 ∨ c = 5 ∨ c = 6) ∨ (cC c = 257 ∨ cC c = 260 ∨ cC c < 256)) := by decide +kernel
theorem tok_bad (c : Nat) (h : c < 25) (h0 : ¬ c = 0) (h2 : ¬ c = 2) (h3 : ¬ c = 3) (h5 : ¬ c = 5) (h6 : ¬ c = 6) : cC c = 257 ∨ cC c = 260 ∨ cC c < 256 := by
  rcases tok_bad0 c h with (e | e | e | e | e) | e
  · exact absurd e h0
  · exact absurd e h2
  · exact absurd e h3
  · exact absurd e h5
  · exact absurd e h6
  · exact e
theorem ri_bad (sz : Int32) (tk : Nat → Int32) (m0 m1 m2 m3 m4 : Int32) (f : Nat) (nx : Int32) (s0 s1 s2 s3 s4 : Int32) (ak wk tq fk gk : Nat → Int64) {i c : Nat} (hi : i < 400) (hc : c < 25) (h0 : ¬ c = 0) (h2 : ¬ c = 2) (h3 : ¬ c = 3) (h5 : ¬ c = 5) (h6 : ¬ c = 6) : lp_X3_readItems_6 sz tk m0 m1 m2 m3 m4 (f + 2) nx (nI (cC c)) s0 ak s1 wk s2 tq s3 fk s4 gk (nI i) = some (nx, nI 257, s0, ak, s1, wk, s2, tq, s3, fk, s4, gk) := by
  have hb := tok_bad c hc h0 h2 h3 h5 h6
  generalize cC c = t at hb
  have h4 : ¬ (400 : Int32) ≤ nI i := by rw [i400, nle (by decide) (by omega)]; omega
  rcases hb with rfl | rfl | hb
  · exact ri_exit sz tk m0 m1 m2 m3 m4 (f + 1) nx s0 s1 s2 s3 s4 ak wk tq fk gk (nI i)
  · rw [lp_X3_readItems_6, if_neg h4, if_neg (by decide), if_neg (by decide), if_neg (by decide), if_neg (by decide), if_pos (by decide), show f_X3_refuse (nI 260) = some (nI 257) from rfl, bd_s, lt_y]
    exact ri_exit sz tk m0 m1 m2 m3 m4 f nx s0 s1 s2 s3 s4 ak wk tq fk gk _
  · have ht : t < 256 := by omega
    have nt : ∀ d : Nat, ¬ t = d → d < 1000 → ¬ nI t = nI d := fun d h1 h2 => by rw [neq (by omega) (by omega)]; exact h1
    rw [lp_X3_readItems_6, if_neg h4, if_neg (show ¬ nI t = (256 : Int32) from nt 256 (by omega) (by decide)), if_neg (show ¬ nI t = (257 : Int32) from nt 257 (by omega) (by decide)), if_neg (show ¬ nI t = (258 : Int32) from nt 258 (by omega) (by decide)), if_neg (show ¬ nI t = (259 : Int32) from nt 259 (by omega) (by decide)), if_neg (show ¬ nI t = (260 : Int32) from nt 260 (by omega) (by decide)), if_neg (show ¬ nI t = (261 : Int32) from nt 261 (by omega) (by decide)), if_neg (show ¬ nI t = (262 : Int32) from nt 262 (by omega) (by decide)), show f_X3_refuse (nI t) = some (nI 257) from rfl, bd_s, lt_y]
    exact ri_exit sz tk m0 m1 m2 m3 m4 f nx s0 s1 s2 s3 s4 ak wk tq fk gk _
theorem items_sim {tx : Nat → Nat} {N : Nat} {tt tk pl : Nat → Int32} {M : Nat} (hT : TXm tx N tt) (hM : M ≤ 400) (qu : Int32) (said : Nat → Int64) (many gr db : Nat → Int32) : ∀ (m : Nat) (L : List (Nat × Nat)) (j i f n k0 k1 k3 k4 : Nat) (ak wk tq fk gk fresh : Nat → Int64) (fm : Nat → Int32) (a k s vm wm op : Int32) (sy : Int64) (vals : Nat → Int64) (waits : Nat → Int32), L.length ≤ m → j + L.length = M → repT N tk pl j L → Cur tx N a k s L → i + L.length ≤ 400 → L.length + 1 < f → L.length < n → IR k0 k1 k3 k4 ak wk tq fk gk fresh fm →
    Ended tx N tt tk pl M qu said many gr db (lp_X3_readItems_6 (nI (M + 1)) tk (nI 4) (nI 8) (nI 8) (nI 4) (nI 6) f (nI j) (nI (hd L)) (nI k0) ak (nI k1) wk (nI k1) tq (nI k3) fk (nI k4) gk (nI i)) (lp_X8_tell_31 tt (nI N) qu said many gr db n a k s vm wm op sy vals waits fresh fm (nI (k0 + k1 + k3 + k4))) := by
  intro m
  induction m with
  | zero =>
    intro L j i f n k0 k1 k3 k4 ak wk tq fk gk fresh fm a k s vm wm op sy vals waits hm hj hR hC hi hf hn hI
    obtain rfl : L = [] := by cases L with | nil => rfl | cons x L => simp at hm
    obtain ⟨f, rfl⟩ : ∃ q, f = q + 1 := ⟨f - 1, by omega⟩
    obtain ⟨n, rfl⟩ : ∃ q, n = q + 1 := ⟨n - 1, by omega⟩
    right
    refine ⟨j, k0, k1, k3, k4, ak, wk, tq, fk, gk, fresh, fm, ?_, hI, a, k, s, vm, wm, op, sy, vals, waits, ?_⟩
    · rw [show hd [] = 256 from rfl, lp_X3_readItems_6]
      by_cases h : (400 : Int32) ≤ nI i
      · rw [if_pos h]
      · rw [if_neg h, if_pos (by decide)]
    · rw [lp_X8_tell_31, if_pos (show k = (0 : Int32) from hC.2.1)]
  | succ m ih =>
    intro L j i f n k0 k1 k3 k4 ak wk tq fk gk fresh fm a k s vm wm op sy vals waits hm hj hR hC hi hf hn hI
    cases hL : L with
    | nil =>
      subst hL
      obtain ⟨f, rfl⟩ : ∃ q, f = q + 1 := ⟨f - 1, by omega⟩
      obtain ⟨n, rfl⟩ : ∃ q, n = q + 1 := ⟨n - 1, by omega⟩
      right
      refine ⟨j, k0, k1, k3, k4, ak, wk, tq, fk, gk, fresh, fm, ?_, hI, a, k, s, vm, wm, op, sy, vals, waits, ?_⟩
      · rw [show hd [] = 256 from rfl, lp_X3_readItems_6]
        by_cases h : (400 : Int32) ≤ nI i
        · rw [if_pos h]
        · rw [if_neg h, if_pos (by decide)]
      · rw [lp_X8_tell_31, if_pos (show k = (0 : Int32) from hC.2.1)]
    | cons x L1 =>
      subst hL
      obtain ⟨c, q⟩ := x
      have hck := Cur_k hC
      have hc25 : c < 25 := hck.2
      have hc0 : ¬ c = 0 := by have := hC.1.1; omega
      have hk0 : ¬ k = (0 : Int32) := by rw [hck.1]; exact ncu (d := 0) hc25 (by decide) hc0
      rw [List.length_cons] at hm hi hf hn
      have hj' := hj
      rw [List.length_cons] at hj'
      obtain ⟨f, rfl⟩ : ∃ q, f = q + 3 := ⟨f - 3, by omega⟩
      obtain ⟨n, rfl⟩ : ∃ q, n = q + 1 := ⟨n - 1, by omega⟩
      have h4 : ¬ (400 : Int32) ≤ nI i := by rw [i400, nle (by decide) (by omega)]; omega
      have hI' := hI
      obtain ⟨⟨b0, b1, b3, b4⟩, ⟨f0, f1, f3, f4⟩, _⟩ := hI'
      rw [lp_X8_tell_31, if_neg hk0]

      by_cases h2 : c = 2
      · subst h2
        rw [show nI (hd ((2, q) :: L1)) = nI 258 from rfl]
        by_cases hful : k0 = 4
        · subst hful
          rw [item_full a k s vm wm op sy tt vals waits fresh fm (st := 0) (m := 4) (by rw [hck.1]; rfl) (by decide) rfl f0, bd_s, if_pos rfl]
          left
          refine ⟨j, (2, q) :: L1, ?_, hj, hR, a, k, s, vm, wm, op, sy, vals, waits, fresh, fm, rfl, hC⟩
          rw [lp_X3_readItems_6, if_neg h4, if_neg (by decide), if_neg (by decide), if_pos (by decide), listed_full (by decide), bd_s, lt_y]
          exact ⟨_, ri_exit _ _ _ _ _ _ _ _ _ _ _ _ _ _ _ _ _ _ _ _⟩
        · obtain ⟨ok, v, j', L', a1, a2, a3, a5, a6⟩ := item_list (st := 0) (m := 4) (k := k0) hT hM L1 j hj hR rfl (by decide) (by decide) rfl (by decide) (by omega) ak
          obtain ⟨r, e, r1, r2, r3⟩ := a6 a k s vm wm op sy vals waits fresh fm f0 hC
          have a5' : f_X3_readListed (nI (M + 1)) (nI j) (nI 258) tk (nI 4) (nI k0) ak = some (nI j', tkc ok L', nI (k0 + 1), vp_updL ak k0 v) := a5
          rw [lp_X3_readItems_6, if_neg h4, if_neg (by decide), if_neg (by decide), if_pos (by decide), a5', bd_s, nI_s, lt_y, e, bd_s, r1]
          cases ok with
          | false =>
            rw [if_pos f10]
            left
            refine ⟨j', L', ?_, a1, a2, r.2.1, r.2.2.1, r.2.2.2.1, r.2.2.2.2.1, r.2.2.2.2.2.1, r.2.2.2.2.2.2.1, r.2.2.2.2.2.2.2.1, r.2.2.2.2.2.2.2.2.1, r.2.2.2.2.2.2.2.2.2.1, r.2.2.2.2.2.2.2.2.2.2.1, r.2.2.2.2.2.2.2.2.2.2.2, rfl, r2⟩
            exact ⟨_, ri_exit _ _ _ _ _ _ _ _ _ _ _ _ _ _ _ _ _ _ _ _⟩
          | true =>
            rw [if_neg (show ¬ (if true = true then (1 : Int32) else 0) = 0 from z10), nI_s, lt_y, (r3 rfl).1, (r3 rfl).2, show k0 + k1 + k3 + k4 + 1 = (k0 + 1) + k1 + k3 + k4 by omega]
            exact ih L' j' (i + 1) (f + 2) n (k0 + 1) k1 k3 k4 _ _ _ _ _ _ _ _ _ _ _ _ _ _ _ _ (by omega) a1 a2 r2 (by omega) (by omega) (by omega) (IR_a hI (by omega) v)
      by_cases h5 : c = 5
      · subst h5
        rw [show nI (hd ((5, q) :: L1)) = nI 261 from rfl]
        by_cases hful : k3 = 4
        · subst hful
          rw [item_full a k s vm wm op sy tt vals waits fresh fm (st := 3) (m := 4) (by rw [hck.1]; rfl) (by decide) rfl f3, bd_s, if_pos rfl]
          left
          refine ⟨j, (5, q) :: L1, ?_, hj, hR, a, k, s, vm, wm, op, sy, vals, waits, fresh, fm, rfl, hC⟩
          rw [lp_X3_readItems_6, if_neg h4, if_neg (by decide), if_neg (by decide), if_neg (by decide), if_neg (by decide), if_neg (by decide), if_pos (by decide), listed_full (by decide), bd_s, lt_y]
          exact ⟨_, ri_exit _ _ _ _ _ _ _ _ _ _ _ _ _ _ _ _ _ _ _ _⟩
        · obtain ⟨ok, v, j', L', a1, a2, a3, a5, a6⟩ := item_list (st := 3) (m := 4) (k := k3) hT hM L1 j hj hR rfl (by decide) (by decide) rfl (by decide) (by omega) fk
          obtain ⟨r, e, r1, r2, r3⟩ := a6 a k s vm wm op sy vals waits fresh fm f3 hC
          have a5' : f_X3_readListed (nI (M + 1)) (nI j) (nI 261) tk (nI 4) (nI k3) fk = some (nI j', tkc ok L', nI (k3 + 1), vp_updL fk k3 v) := a5
          rw [lp_X3_readItems_6, if_neg h4, if_neg (by decide), if_neg (by decide), if_neg (by decide), if_neg (by decide), if_neg (by decide), if_pos (by decide), a5', bd_s, nI_s, lt_y, e, bd_s, r1]
          cases ok with
          | false =>
            rw [if_pos f10]
            left
            refine ⟨j', L', ?_, a1, a2, r.2.1, r.2.2.1, r.2.2.2.1, r.2.2.2.2.1, r.2.2.2.2.2.1, r.2.2.2.2.2.2.1, r.2.2.2.2.2.2.2.1, r.2.2.2.2.2.2.2.2.1, r.2.2.2.2.2.2.2.2.2.1, r.2.2.2.2.2.2.2.2.2.2.1, r.2.2.2.2.2.2.2.2.2.2.2, rfl, r2⟩
            exact ⟨_, ri_exit _ _ _ _ _ _ _ _ _ _ _ _ _ _ _ _ _ _ _ _⟩
          | true =>
            rw [if_neg (show ¬ (if true = true then (1 : Int32) else 0) = 0 from z10), nI_s, lt_y, (r3 rfl).1, (r3 rfl).2, show k0 + k1 + k3 + k4 + 1 = k0 + k1 + (k3 + 1) + k4 by omega]
            exact ih L' j' (i + 1) (f + 2) n k0 k1 (k3 + 1) k4 _ _ _ _ _ _ _ _ _ _ _ _ _ _ _ _ (by omega) a1 a2 r2 (by omega) (by omega) (by omega) (IR_f hI (by omega) v)
      by_cases h6 : c = 6
      · subst h6
        rw [show nI (hd ((6, q) :: L1)) = nI 262 from rfl]
        by_cases hful : k4 = 6
        · subst hful
          rw [item_full a k s vm wm op sy tt vals waits fresh fm (st := 4) (m := 6) (by rw [hck.1]; rfl) (by decide) rfl f4, bd_s, if_pos rfl]
          left
          refine ⟨j, (6, q) :: L1, ?_, hj, hR, a, k, s, vm, wm, op, sy, vals, waits, fresh, fm, rfl, hC⟩
          rw [lp_X3_readItems_6, if_neg h4, if_neg (by decide), if_neg (by decide), if_neg (by decide), if_neg (by decide), if_neg (by decide), if_neg (by decide), if_pos (by decide), listed_full (by decide), bd_s, lt_y]
          exact ⟨_, ri_exit _ _ _ _ _ _ _ _ _ _ _ _ _ _ _ _ _ _ _ _⟩
        · obtain ⟨ok, v, j', L', a1, a2, a3, a5, a6⟩ := item_list (st := 4) (m := 6) (k := k4) hT hM L1 j hj hR rfl (by decide) (by decide) rfl (by decide) (by omega) gk
          obtain ⟨r, e, r1, r2, r3⟩ := a6 a k s vm wm op sy vals waits fresh fm f4 hC
          have a5' : f_X3_readListed (nI (M + 1)) (nI j) (nI 262) tk (nI 6) (nI k4) gk = some (nI j', tkc ok L', nI (k4 + 1), vp_updL gk k4 v) := a5
          rw [lp_X3_readItems_6, if_neg h4, if_neg (by decide), if_neg (by decide), if_neg (by decide), if_neg (by decide), if_neg (by decide), if_neg (by decide), if_pos (by decide), a5', bd_s, nI_s, lt_y, e, bd_s, r1]
          cases ok with
          | false =>
            rw [if_pos f10]
            left
            refine ⟨j', L', ?_, a1, a2, r.2.1, r.2.2.1, r.2.2.2.1, r.2.2.2.2.1, r.2.2.2.2.2.1, r.2.2.2.2.2.2.1, r.2.2.2.2.2.2.2.1, r.2.2.2.2.2.2.2.2.1, r.2.2.2.2.2.2.2.2.2.1, r.2.2.2.2.2.2.2.2.2.2.1, r.2.2.2.2.2.2.2.2.2.2.2, rfl, r2⟩
            exact ⟨_, ri_exit _ _ _ _ _ _ _ _ _ _ _ _ _ _ _ _ _ _ _ _⟩
          | true =>
            rw [if_neg (show ¬ (if true = true then (1 : Int32) else 0) = 0 from z10), nI_s, lt_y, (r3 rfl).1, (r3 rfl).2, show k0 + k1 + k3 + k4 + 1 = k0 + k1 + k3 + (k4 + 1) by omega]
            exact ih L' j' (i + 1) (f + 2) n k0 k1 k3 (k4 + 1) _ _ _ _ _ _ _ _ _ _ _ _ _ _ _ _ (by omega) a1 a2 r2 (by omega) (by omega) (by omega) (IR_g hI (by omega) v)
      by_cases h3 : c = 3
      · subst h3
        rw [show nI (hd ((3, q) :: L1)) = nI 259 from rfl]
        by_cases hful : k1 = 8
        · subst hful
          rw [item_full a k s vm wm op sy tt vals waits fresh fm (st := 1) (m := 8) (by rw [hck.1]; rfl) (by decide) rfl f1, bd_s, if_pos rfl]
          left
          refine ⟨j, (3, q) :: L1, ?_, hj, hR, a, k, s, vm, wm, op, sy, vals, waits, fresh, fm, rfl, hC⟩
          rw [lp_X3_readItems_6, if_neg h4, if_neg (by decide), if_neg (by decide), if_neg (by decide), if_pos (by decide), rule_full, bd_s, lt_y]
          exact ⟨_, ri_exit _ _ _ _ _ _ _ _ _ _ _ _ _ _ _ _ _ _ _ _⟩
        · obtain ⟨ok, v1, v2, j', L', a1, a2, a3, a5, a6⟩ := item_rule (k := k1) hT hM L1 j hj hR (by omega) wk tq
          obtain ⟨r, e, r1, r2, r3⟩ := a6 a k s vm wm op sy vals waits fresh fm f1 hC
          have a5' : f_X3_readRule (nI (M + 1)) (nI j) (nI 259) tk (nI 8) (nI k1) wk (nI 8) (nI k1) tq = some (nI j', tkc ok L', nI (k1 + 1), vp_updL wk k1 v1, nI (k1 + 1), vp_updL tq k1 v2) := a5
          rw [lp_X3_readItems_6, if_neg h4, if_neg (by decide), if_neg (by decide), if_neg (by decide), if_pos (by decide), a5', bd_s, nI_s, lt_y, e, bd_s, r1]
          cases ok with
          | false =>
            rw [if_pos f10]
            left
            refine ⟨j', L', ?_, a1, a2, r.2.1, r.2.2.1, r.2.2.2.1, r.2.2.2.2.1, r.2.2.2.2.2.1, r.2.2.2.2.2.2.1, r.2.2.2.2.2.2.2.1, r.2.2.2.2.2.2.2.2.1, r.2.2.2.2.2.2.2.2.2.1, r.2.2.2.2.2.2.2.2.2.2.1, r.2.2.2.2.2.2.2.2.2.2.2, rfl, r2⟩
            exact ⟨_, ri_exit _ _ _ _ _ _ _ _ _ _ _ _ _ _ _ _ _ _ _ _⟩
          | true =>
            rw [if_neg (show ¬ (if true = true then (1 : Int32) else 0) = 0 from z10), nI_s, lt_y, (r3 rfl).1, (r3 rfl).2, show k0 + k1 + k3 + k4 + 1 = k0 + (k1 + 1) + k3 + k4 by omega]
            exact ih L' j' (i + 1) (f + 2) n k0 (k1 + 1) k3 k4 _ _ _ _ _ _ _ _ _ _ _ _ _ _ _ _ (by omega) a1 a2 r2 (by omega) (by omega) (by omega) (IR_r hI (by omega) v1 v2)
      rw [item_no a k s vm wm op sy tt vals waits fresh fm (by rw [hck.1]; exact sort_bad c hc25 h2 h3 h5 h6), bd_s, if_pos rfl]
      left
      exact ⟨j, (c, q) :: L1, ⟨_, ri_bad _ _ _ _ _ _ _ (f + 1) _ _ _ _ _ _ _ _ _ _ _ (by omega) hc25 hc0 h2 h3 h5 h6⟩, hj, hR, a, k, s, vm, wm, op, sy, vals, waits, fresh, fm, rfl, hC⟩
