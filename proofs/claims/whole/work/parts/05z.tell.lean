-- ===== tell =====
def RelM (am wm tm fm gm : Int32) : Prop := am = nI 4 ∧ wm = nI 8 ∧ tm = nI 8 ∧ fm = nI 4 ∧ gm = nI 6
def zer (fm : Nat → Int32) : Nat → Int32 := upd (upd (upd (upd (upd fm 0 0) 1 0) 2 0) 3 0) 4 0
theorem tell7_eq (tt : Nat → Int32) (zt mat mtk mst vm wtm op : Int32) (sy : Int64) (mq : Int32) (said : Nat → Int64) (many mgr md : Nat → Int32) (vals : Nat → Int64) (waits : Nat → Int32) (fresh : Nat → Int64) (frm : Nat → Int32) : lp_X8_tell_7 tt zt mat mtk mst vm wtm op sy mq said many mgr md vals waits fresh fu frm 0 = bd (f_X8_scans zt mat mtk mst tt) (fun o12 => lp_X8_tell_31 tt zt mq said many mgr md fu o12.1 o12.2.1 o12.2.2 vm wtm op sy vals waits fresh (zer frm) (0 : Int32)) := by
  rw [show fu = 994 + 6 from rfl]
  rw [lp_X8_tell_7, if_neg (by decide), gd_y (by decide), lt_y]
  rw [lp_X8_tell_7, if_neg (by decide), gd_y (by decide), lt_y]
  rw [lp_X8_tell_7, if_neg (by decide), gd_y (by decide), lt_y]
  rw [lp_X8_tell_7, if_neg (by decide), gd_y (by decide), lt_y]
  rw [lp_X8_tell_7, if_neg (by decide), gd_y (by decide), lt_y]
  rw [lp_X8_tell_7, if_pos (by decide)]
  rfl
theorem fo_putL (g : Nat → Int64) (f : Nat → Int64) : ∀ c, fo (fun i (x : Nat → Int64) => vp_updL x i (g i)) c 0 f = fun j => if j < c then g j else f j
  | 0 => by funext j; rw [if_neg (Nat.not_lt_zero j)]; rfl
  | c + 1 => by
    rw [fo_last, fo_putL g f c, Nat.zero_add]
    funext j
    show (if j = c then g c else (if j < c then g j else f j)) = (if j < c + 1 then g j else f j)
    by_cases e : j = c
    · subst e; rw [if_pos rfl, if_pos (by omega)]
    · rw [if_neg e]
      by_cases h : j < c
      · rw [if_pos h, if_pos (by omega)]
      · rw [if_neg h, if_neg (by omega)]
theorem tell61_eq (tt : Nat → Int32) (zt mat mtk mst vm wtm op : Int32) (sy : Int64) (mq : Int32) (said : Nat → Int64) (many mgr md : Nat → Int32) (vals : Nat → Int64) (waits : Nat → Int32) (fresh : Nat → Int64) (frm : Nat → Int32) (v1 : Int32) : lp_X8_tell_61 tt zt mat mtk mst vm wtm op sy mq many mgr md vals waits fresh frm v1 fu said 0 = jn_X8_tell_110 tt zt mat mtk mst vm wtm op sy mq (fun j => if j < 45 then fresh j else said j) (fun j => if j < 5 then frm j else many j) mgr md vals waits fresh frm v1 := by
  rw [← fo_putL fresh said 45, ← fo_put (fun j _ => frm j) many 5]
  refine (lp_fo0 (fun n a i => lp_X8_tell_61 tt zt mat mtk mst vm wtm op sy mq many mgr md vals waits fresh frm v1 n a i) 45 (fun i (x : Nat → Int64) => vp_updL x i (fresh i)) (fun a => lp_X8_tell_87 tt zt mat mtk mst vm wtm op sy mq a mgr md vals waits fresh frm v1 fu many 0) (by decide) (fun n a => ?_) (fun n a i hi => ?_) said).trans ?_
  · show lp_X8_tell_61 _ _ _ _ _ _ _ _ _ _ _ _ _ _ _ _ _ _ (n + 1) _ _ = _
    rw [lp_X8_tell_61, if_pos (by decide)]
  · show lp_X8_tell_61 _ _ _ _ _ _ _ _ _ _ _ _ _ _ _ _ _ _ (n + 1) _ _ = _
    rw [lp_X8_tell_61, if_neg (by rw [i45, nle (by decide) (by omega)]; omega), gdi hi (by decide), gdi hi (by decide), lt_y, nI_s, clp (by omega)]
  · refine lp_fo0 (fun n a i => lp_X8_tell_87 tt zt mat mtk mst vm wtm op sy mq (fo (fun i (x : Nat → Int64) => vp_updL x i (fresh i)) 45 0 said) mgr md vals waits fresh frm v1 n a i) 5 (fun i (x : Nat → Int32) => upd x i (frm i)) (fun a => jn_X8_tell_110 tt zt mat mtk mst vm wtm op sy mq (fo (fun i (x : Nat → Int64) => vp_updL x i (fresh i)) 45 0 said) a mgr md vals waits fresh frm v1) (by decide) (fun n a => ?_) (fun n a i hi => ?_) many
    · show lp_X8_tell_87 _ _ _ _ _ _ _ _ _ _ _ _ _ _ _ _ _ _ (n + 1) _ _ = _
      rw [lp_X8_tell_87, if_pos (by decide)]
    · show lp_X8_tell_87 _ _ _ _ _ _ _ _ _ _ _ _ _ _ _ _ _ _ (n + 1) _ _ = _
      rw [lp_X8_tell_87, if_neg (by rw [i5, nle (by decide) (by omega)]; omega), gdi hi (by decide), gdi hi (by decide), lt_y, nI_s, clp (by omega)]
theorem s_tell {zs : Int32} {bs : Nat → Int32} {th : Int64} {gd : Int64} {am : Int32} {az : Int32} {ak : Nat → Int64} {q : Int32} {wm : Int32} {wz : Int32} {wk : Nat → Int64} {tm : Int32} {tz : Int32} {tq : Nat → Int64} {gr : Nat → Int32} {fm : Int32} {fz : Int32} {fk : Nat → Int64} {gm : Int32} {gz : Int32} {gk : Nat → Int64} {sam : Int32} {swm : Int32} {stm : Int32} {sfm : Int32} {sgm : Int32} {ez : Int32} {es : Nat → Int32} {el : Nat → Int64} {dk : Nat → Int32} {zt : Int32} {mq : Int32} {tt : Nat → Int32} {said : Nat → Int64} {many : Nat → Int32} {mgr : Nat → Int32} {md : Nat → Int32} (hT0 : RelT zs bs zt tt) (hM0 : RelM am wm tm fm gm) (hS0 : RelM sam swm stm sfm sgm) (hI0 : RelI th gd az ak q wz wk tz tq gr fz fk gz gk ez es el dk mq said many mgr md) (rs : Int32) (rn : Int32) (rt : Int32) (rtk : Nat → Int32) (rpl : Nat → Int32) (sth : Int64) (sgd : Int64) (saz : Int32) (sak : Nat → Int64) (sq : Int32) (swz : Int32) (swk : Nat → Int64) (stz : Int32) (stq : Nat → Int64) (sgr : Nat → Int32) (sfz : Int32) (sfk : Nat → Int64) (sgz : Int32) (sgk : Nat → Int64) (mat : Int32) (mtk : Int32) (mst : Int32) (vm : Int32) (wtm : Int32) (op : Int32) (sy : Int64) (vals : Nat → Int64) (waits : Nat → Int32) (fresh : Nat → Int64) (frm : Nat → Int32) :
    ∃ (o1 : (Int32) × (Int32) × (Int32) × (Int32) × (Int32) × (Nat → Int32) × (Nat → Int32) × (Int64) × (Int64) × (Int32) × (Int32) × (Nat → Int64) × (Int32) × (Int32) × (Int32) × (Nat → Int64) × (Int32) × (Int32) × (Nat → Int64) × (Nat → Int32) × (Int32) × (Int32) × (Nat → Int64) × (Int32) × (Int32) × (Nat → Int64) × (Int64) × (Int64) × (Int32) × (Int32) × (Nat → Int64) × (Int32) × (Int32) × (Int32) × (Nat → Int64) × (Int32) × (Int32) × (Nat → Int64) × (Nat → Int32) × (Int32) × (Int32) × (Nat → Int64) × (Int32) × (Int32) × (Nat → Int64) × (Int32) × (Nat → Int32) × (Nat → Int64) × (Nat → Int32)) (o2 : (Int32) × (Int32) × (Int32) × (Int32) × (Int32) × (Int32) × (Int32) × (Int32) × (Int64) × (Int32) × (Nat → Int64) × (Nat → Int32) × (Nat → Int32) × (Nat → Int32) × (Nat → Int64) × (Nat → Int32) × (Nat → Int64) × (Nat → Int32)), f_X7_tell zs bs rs rn rt rtk rpl th gd am az ak q wm wz wk tm tz tq gr fm fz fk gm gz gk sth sgd sam saz sak sq swm swz swk stm stz stq sgr sfm sfz sfk sgm sgz sgk ez es el dk = some o1 ∧ f_X8_tell zt mat mtk mst vm wtm op sy mq tt said many mgr md vals waits fresh frm = some o2 ∧ o1.1 = o2.1 ∧ RelT o1.2.1 bs o2.2.1 tt ∧ RelM o1.2.2.2.2.2.2.2.2.2.1 o1.2.2.2.2.2.2.2.2.2.2.2.2.2.1 o1.2.2.2.2.2.2.2.2.2.2.2.2.2.2.2.2.1 o1.2.2.2.2.2.2.2.2.2.2.2.2.2.2.2.2.2.2.2.2.1 o1.2.2.2.2.2.2.2.2.2.2.2.2.2.2.2.2.2.2.2.2.2.2.2.1 ∧ RelM o1.2.2.2.2.2.2.2.2.2.2.2.2.2.2.2.2.2.2.2.2.2.2.2.2.2.2.2.2.1 o1.2.2.2.2.2.2.2.2.2.2.2.2.2.2.2.2.2.2.2.2.2.2.2.2.2.2.2.2.2.2.2.2.1 o1.2.2.2.2.2.2.2.2.2.2.2.2.2.2.2.2.2.2.2.2.2.2.2.2.2.2.2.2.2.2.2.2.2.2.2.1 o1.2.2.2.2.2.2.2.2.2.2.2.2.2.2.2.2.2.2.2.2.2.2.2.2.2.2.2.2.2.2.2.2.2.2.2.2.2.2.2.1 o1.2.2.2.2.2.2.2.2.2.2.2.2.2.2.2.2.2.2.2.2.2.2.2.2.2.2.2.2.2.2.2.2.2.2.2.2.2.2.2.2.2.2.1 ∧ RelI o1.2.2.2.2.2.2.2.1 o1.2.2.2.2.2.2.2.2.1 o1.2.2.2.2.2.2.2.2.2.2.1 o1.2.2.2.2.2.2.2.2.2.2.2.1 o1.2.2.2.2.2.2.2.2.2.2.2.2.1 o1.2.2.2.2.2.2.2.2.2.2.2.2.2.2.1 o1.2.2.2.2.2.2.2.2.2.2.2.2.2.2.2.1 o1.2.2.2.2.2.2.2.2.2.2.2.2.2.2.2.2.2.1 o1.2.2.2.2.2.2.2.2.2.2.2.2.2.2.2.2.2.2.1 o1.2.2.2.2.2.2.2.2.2.2.2.2.2.2.2.2.2.2.2.1 o1.2.2.2.2.2.2.2.2.2.2.2.2.2.2.2.2.2.2.2.2.2.1 o1.2.2.2.2.2.2.2.2.2.2.2.2.2.2.2.2.2.2.2.2.2.2.1 o1.2.2.2.2.2.2.2.2.2.2.2.2.2.2.2.2.2.2.2.2.2.2.2.2.1 o1.2.2.2.2.2.2.2.2.2.2.2.2.2.2.2.2.2.2.2.2.2.2.2.2.2.1 o1.2.2.2.2.2.2.2.2.2.2.2.2.2.2.2.2.2.2.2.2.2.2.2.2.2.2.2.2.2.2.2.2.2.2.2.2.2.2.2.2.2.2.2.2.2.1 o1.2.2.2.2.2.2.2.2.2.2.2.2.2.2.2.2.2.2.2.2.2.2.2.2.2.2.2.2.2.2.2.2.2.2.2.2.2.2.2.2.2.2.2.2.2.2.1 o1.2.2.2.2.2.2.2.2.2.2.2.2.2.2.2.2.2.2.2.2.2.2.2.2.2.2.2.2.2.2.2.2.2.2.2.2.2.2.2.2.2.2.2.2.2.2.2.1 o1.2.2.2.2.2.2.2.2.2.2.2.2.2.2.2.2.2.2.2.2.2.2.2.2.2.2.2.2.2.2.2.2.2.2.2.2.2.2.2.2.2.2.2.2.2.2.2.2 o2.2.2.2.2.2.2.2.2.2.1 o2.2.2.2.2.2.2.2.2.2.2.1 o2.2.2.2.2.2.2.2.2.2.2.2.1 o2.2.2.2.2.2.2.2.2.2.2.2.2.1 o2.2.2.2.2.2.2.2.2.2.2.2.2.2.1 := by
  have hTc := hT0
  have hMc := hM0
  have hSc := hS0
  have hIc := hI0
  obtain ⟨N, tx, rfl, rfl, h1, hT⟩ := hT0
  obtain ⟨rfl, rfl, rfl, rfl, rfl⟩ := hS0
  obtain ⟨f, L, tk, pl, hLX, hM, es_, hR⟩ := start_eq hT.1 h1 hT.2.2 rs rn rt rtk rpl
  obtain ⟨a, k, s, em, hC⟩ := scan_first hT.1 tt hT.2.1 hT.2.2 hLX mtk mst
  have hh := repT_hd hR
  have hI1 : IR 0 0 0 0 sak swk stq sfk sgk fresh (zer frm) := ⟨⟨by decide, by decide, by decide, by decide⟩, ⟨rfl, rfl, rfl, rfl⟩, fun i hi => absurd hi (Nat.not_lt_zero i), fun i hi => absurd hi (Nat.not_lt_zero i), fun i hi => absurd hi (Nat.not_lt_zero i), fun i hi => absurd hi (Nat.not_lt_zero i), fun i hi => absurd hi (Nat.not_lt_zero i)⟩
  have hE := items_sim (M := L.length) hT hM mq said many mgr md L.length L 0 0 fu fu 0 0 0 0 sak swk stq sfk sgk fresh (zer frm) a k s vm wtm op sy vals waits (Nat.le_refl _) (by rw [Nat.zero_add]) hR hC (by rw [Nat.zero_add]; exact hM) (by rw [fu_eq]; omega) (by rw [fu_eq]; omega) hI1
  have eC : f_X3_readItems (nI (L.length + 1)) (nI 0) (nI (hd L)) tk (nI 4) saz sak (nI 8) swz swk (nI 8) stz stq (nI 4) sfz sfk (nI 6) sgz sgk = lp_X3_readItems_6 (nI (L.length + 1)) tk (nI 4) (nI 8) (nI 8) (nI 4) (nI 6) fu (nI 0) (nI (hd L)) (nI 0) sak (nI 0) swk (nI 0) stq (nI 0) sfk (nI 0) sgk (nI 0) := by
    unfold f_X3_readItems
    rw [show f_X2_empty saz swz stz sfz sgz = some (nI 0, nI 0, nI 0, nI 0, nI 0) from rfl, bd_s]
    rfl
  have eM : f_X8_tell (nI N) mat mtk mst vm wtm op sy mq tt said many mgr md vals waits fresh frm = lp_X8_tell_31 tt (nI N) mq said many mgr md fu a k s vm wtm op sy vals waits fresh (zer frm) (nI (0 + 0 + 0 + 0)) := by
    unfold f_X8_tell
    rw [tell7_eq, em, bd_s]
    rfl
  rcases hE with ⟨j', L', ⟨x, ex⟩, hj, hRj, a', k', s', vm', wm', op', sy', vals', waits', fresh', fm', e2, hCj⟩ | ⟨j', k0, k1, k3, k4, ak2, wk2, tq2, fk2, gk2, fresh', fm', ex, hI2, a', k', s', vm', wm', op', sy', vals', waits', e2⟩
  · obtain ⟨x1, x2, x3, x4, x5, x6, x7, x8, x9, x10⟩ := x
    have q1 : f_X7_tell (nI N) bs rs rn rt rtk rpl th gd am az ak q wm wz wk tm tz tq gr fm fz fk gm gz gk sth sgd (nI 4) saz sak sq (nI 8) swz swk (nI 8) stz stq sgr (nI 4) sfz sfk (nI 6) sgz sgk ez es el dk = some ((-10 : Int32) - pl j', nI N, nI (L.length + 1), nI j', nI 257, tk, pl, th, gd, am, az, ak, q, wm, wz, wk, tm, tz, tq, gr, fm, fz, fk, gm, gz, gk, sth, sgd, nI 4, x1, x2, sq, nI 8, x3, x4, nI 8, x5, x6, sgr, nI 4, x7, x8, nI 6, x9, x10, ez, es, el, dk) := by
      unfold f_X7_tell
      rw [es_, bd_s, hh.1, eC, ex, bd_s, show f_X3_isWrong (nI 257) = some 1 from rfl, bd_s, if_neg z10, fault_eq (by omega), bd_s]
    exact ⟨_, _, q1, eM.trans e2, by show (-10 : Int32) - pl j' = (-10 : Int32) - s'; rw [cur_pl hCj hRj], hTc, hMc, hSc, hIc⟩
  · obtain ⟨⟨b0, b1, b3, b4⟩, ⟨f0, f1, f3, f4⟩, ha, hw, ht, hf, hg⟩ := hI2
    have hI3 : IR k0 k1 k3 k4 ak2 wk2 tq2 fk2 gk2 (fun j => if j < 45 then fresh' j else said j) (upd (fun j => if j < 5 then fm' j else many j) 2 (fm' 1)) := by
      refine ⟨⟨b0, b1, b3, b4⟩, ⟨f0, f1, f3, f4⟩, fun i hi => ?_, fun i hi => ?_, fun i hi => ?_, fun i hi => ?_, fun i hi => ?_⟩
      · show ak2 i = (if i < 45 then fresh' i else said i)
        rw [if_pos (by omega)]; exact ha i hi
      · show wk2 i = (if 9 + i < 45 then fresh' (9 + i) else said (9 + i))
        rw [if_pos (by omega)]; exact hw i hi
      · show tq2 i = (if 18 + i < 45 then fresh' (18 + i) else said (18 + i))
        rw [if_pos (by omega)]; exact ht i hi
      · show fk2 i = (if 27 + i < 45 then fresh' (27 + i) else said (27 + i))
        rw [if_pos (by omega)]; exact hf i hi
      · show gk2 i = (if 36 + i < 45 then fresh' (36 + i) else said (36 + i))
        rw [if_pos (by omega)]; exact hg i hi
    obtain ⟨th', gd', q', gr', ez', es', el', dk', mgr', md', c1, c2, c3, c4, c5, c6⟩ := settle_core hI3 f1 sth sgd sq sgr ez es el dk mq mgr md
    have eS : f_X2_size (nI k0) (nI k1) (nI k3) (nI k4) = some (nI (k0 + k1 + k3 + k4)) := by
      show some (nI k0 + nI k1 + nI k3 + nI k4) = _
      rw [nI_add, nI_add, nI_add]
    have eJ : jn_X8_tell_110 tt (nI N) a' k' s' vm' wm' op' sy' mq (fun j => if j < 45 then fresh' j else said j) (fun j => if j < 5 then fm' j else many j) mgr md vals' waits' fresh' fm' (nI (k0 + k1 + k3 + k4)) = some (nI (k0 + k1 + k3 + k4), 0, a', k', s', vm', wm', op', sy', q', (fun j => if j < 45 then fresh' j else said j), upd (fun j => if j < 5 then fm' j else many j) 2 (fm' 1), mgr', md', vals', waits', fresh', fm') := by
      unfold jn_X8_tell_110
      have c2' : f_X8_rates mq (fun j => if j < 45 then fresh' j else said j) (upd (fun j => if j < 5 then fm' j else many j) (2 : Int32).toNatClampNeg ((fun j => if j < 5 then fm' j else many j) (1 : Int32).toNatClampNeg)) mgr = some (q', mgr') := c2
      have c3' : f_X8_forgets (fun j => if j < 45 then fresh' j else said j) (upd (fun j => if j < 5 then fm' j else many j) (2 : Int32).toNatClampNeg ((fun j => if j < 5 then fm' j else many j) (1 : Int32).toNatClampNeg)) mgr' md = some md' := c3
      rw [gd_y (by decide), gd_y (by decide), c2', bd_s, c3', bd_s]
      rfl
    have q1 : f_X7_tell (nI N) bs rs rn rt rtk rpl th gd am az ak q wm wz wk tm tz tq gr fm fz fk gm gz gk sth sgd (nI 4) saz sak sq (nI 8) swz swk (nI 8) stz stq sgr (nI 4) sfz sfk (nI 6) sgz sgk ez es el dk = some (nI (k0 + k1 + k3 + k4), 0, nI (L.length + 1), nI j', nI 256, tk, pl, th', gd', nI 4, nI k0, ak2, q', nI 8, nI k1, wk2, nI 8, nI k1, tq2, gr', nI 4, nI k3, fk2, nI 6, nI k4, gk2, th, gd, am, az, ak, q, wm, wz, wk, tm, tz, tq, gr, fm, fz, fk, gm, gz, gk, ez', es', el', dk') := by
      unfold f_X7_tell
      rw [es_, bd_s, hh.1, eC, ex, bd_s, show f_X3_isWrong (nI 256) = some 0 from rfl, bd_s, if_pos rfl, c1, bd_s, show f_X6_wipe (nI N) = some (nI N, 0) from rfl, bd_s, eS, bd_s]
    exact ⟨_, _, q1, (eM.trans e2).trans ((tell61_eq _ _ _ _ _ _ _ _ _ _ _ _ _ _ _ _ _ _ _).trans eJ), rfl, RelT_0 bs tt, hSc, hMc, k0, k1, k3, k4, rfl, rfl, rfl, rfl, rfl, c4, c5, c6⟩
