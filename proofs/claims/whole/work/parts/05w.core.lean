-- ===== what stands told, both sides =====
def Core (k0 k1 k3 k4 : Nat) (th gd : Int64) (ak : Nat → Int64) (q : Int32) (wk tq : Nat → Int64) (gr : Nat → Int32) (fk gk : Nat → Int64) (ez : Int32) (es : Nat → Int32) (el : Nat → Int64) (mq : Int32) (said : Nat → Int64) (many mgr : Nat → Int32) : Prop :=
  IR k0 k1 k3 k4 ak wk tq fk gk said many ∧ many 2 = nI k1 ∧ th = meet ak k0 ∧ gd = (meet ak k0 &&& meet fk k3) ∧ q = (if QU th wk tq k1 = 0 then 0 else 1) ∧ mq = q ∧ (∀ r, r < k1 → gr r = GR th wk tq k1 r) ∧ (∀ r, r < k1 → mgr r = GR th wk tq k1 r) ∧ ez = nI (EL k1 wk tq gd).length ∧ (∀ j, j < (EL k1 wk tq gd).length → es j = nI ((EL k1 wk tq gd).getD j 0) ∧ el j = LB k1 wk tq gd ((EL k1 wk tq gd).getD j 0))
theorem ir_th {k0 k1 k3 k4 : Nat} {ak wk tq fk gk said : Nat → Int64} {many : Nat → Int32} (h : IR k0 k1 k3 k4 ak wk tq fk gk said many) : meet said k0 = meet ak k0 ∧ f_X8_thereNow said many = some (meet ak k0) ∧ f_X8_groundNow said many = some (meet ak k0 &&& meet fk k3) := by
  obtain ⟨⟨b0, b1, b3, b4⟩, ⟨f0, f1, f3, f4⟩, ha, hw, ht, hf, hg⟩ := h
  have e : meet said k0 = meet ak k0 := meet_congr (fun i hi => (ha i hi).symm)
  have e3 : meet (fun i => said (27 + i)) k3 = meet fk k3 := meet_congr (fun i hi => (hf i hi).symm)
  refine ⟨e, ?_, ?_⟩
  · rw [thereNow_eq (by omega) said many f0, e]
  · rw [groundNow_eq (by omega) (by omega) said many f0 f3, e, e3]
theorem grOK_of {th : Int64} {wk tq : Nat → Int64} {k : Nat} {gr : Nat → Int32} (h : ∀ r, r < k → gr r = GR th wk tq k r) : grOK gr k := fun r hr => by rw [h r hr]; exact GR_rng r
theorem settle_core {k0 k1 k3 k4 : Nat} {ak wk tq fk gk said : Nat → Int64} {many : Nat → Int32} (hI : IR k0 k1 k3 k4 ak wk tq fk gk said many) (h2 : many 2 = nI k1) (th0 gd0 : Int64) (q0 : Int32) (gr0 : Nat → Int32) (ez : Int32) (es : Nat → Int32) (el : Nat → Int64) (dk0 : Nat → Int32) (mq0 : Int32) (mgr0 md0 : Nat → Int32) :
    ∃ (th gd : Int64) (q : Int32) (gr : Nat → Int32) (ez' : Int32) (es' : Nat → Int32) (el' : Nat → Int64) (dk' mgr' md' : Nat → Int32), f_X7_settle th0 gd0 (nI k0) ak q0 (nI k1) wk (nI k1) tq gr0 (nI k3) fk ez es el dk0 = some (th, gd, q, gr, ez', es', el', dk') ∧ f_X8_rates mq0 said many mgr0 = some (q, mgr') ∧ f_X8_forgets said many mgr' md0 = some md' ∧ Core k0 k1 k3 k4 th gd ak q wk tq gr fk gk ez' es' el' q said many mgr' ∧ dOK th dk' ∧ ∀ w, w < 64 → md' w = dk' w := by
  have hIc := hI
  obtain ⟨hth, hT, hG⟩ := ir_th hI
  obtain ⟨⟨b0, b1, b3, b4⟩, ⟨f0, f1, f3, f4⟩, ha, hw, ht, hf, hg⟩ := hI
  have hs := sort_eq (k := k1) (by omega) wk tq (meet ak k0) q0 gr0
  obtain ⟨r1, r2⟩ := run_grades (th := meet ak k0) (w := wk) (t := tq) (k := k1) (by omega) gr0
  obtain ⟨mgr', m1, m2⟩ := mrates_eq (n := k1) (k0 := k0) (by omega) (by omega) mq0 said many f0 f1 mgr0
  have eQ : QU (meet said k0) (fun i => said (9 + i)) (fun i => said (18 + i)) k1 = QU (meet ak k0) wk tq k1 := by rw [hth]; exact (QU_congr hw ht _).symm
  have eG : GR (meet said k0) (fun i => said (9 + i)) (fun i => said (18 + i)) k1 = GR (meet ak k0) wk tq k1 := by rw [hth]; exact (GR_congr hw ht _).symm
  rw [eQ] at m1
  rw [eG] at m2
  have hTk : ∀ s, s < 2 ^ k1 → f_X1_takenOn (nI k1) wk (nI k1) tq (nI s) (meet ak k0 &&& meet fk k3) = some (LB k1 wk tq (meet ak k0 &&& meet fk k3) s) := fun s h => (LB_eq b1 f1 hw ht h hG).1
  obtain ⟨es', el', e1, e2⟩ := find_eq b1 wk tq (meet ak k0 &&& meet fk k3) hTk ez es el
  have hgr : grOK (stp (run (meet ak k0) wk tq k1 gr0).2 (run (meet ak k0) wk tq k1 gr0).1 (-9)) k1 := grOK_of r2
  have hmgr : grOK mgr' k1 := grOK_of m2
  have hF := forgets_eq (k := k1) (k0 := k0) (by omega) (by omega) said many f0 f1 mgr' md0 hmgr
  refine ⟨_, _, _, _, _, es', el', (fun j => if j < 64 then WG (meet ak k0) wk tq k1 (stp (run (meet ak k0) wk tq k1 gr0).2 (run (meet ak k0) wk tq k1 gr0).1 (-9)) j else dk0 j), mgr', _, ?_, m1, hF, ⟨hIc, h2, rfl, rfl, rfl, rfl, r2, m2, rfl, e2⟩, ?_, ?_⟩
  · unfold f_X7_settle f_X2_settle
    rw [meet_eq (by omega), bd_s, meet_eq (by omega), bd_s, lt_y, hs, bd_s, bd_s, r1]
    show bd (some (meet ak k0 &&& meet fk k3)) _ = _
    rw [bd_s, e1, bd_s, restart_eq (by omega), bd_s]
  · intro w hw'
    have := WG_ok (th := meet ak k0) (w := wk) (t := tq) hgr w hw'
    show (bl _ w = true → ∃ d, d ≤ 99 ∧ (if w < 64 then _ else _) = nI d) ∧ (_ → (if w < 64 then _ else _) = _)
    rw [if_pos hw']
    exact this
  · intro w hw'
    show (if w < 64 then _ else _) = (if w < 64 then _ else _)
    rw [if_pos hw', if_pos hw', hth]
    exact (WG_congr hw ht (fun r hr => by rw [r2 r hr, m2 r hr]) _ _).symm
