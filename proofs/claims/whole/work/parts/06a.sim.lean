-- ===== the relation, and that every call keeps it =====
abbrev Rel (cs : CS) (ms : MS) : Prop := cs.1 = ms.2.2.1 ∧ cs.2.1 = ms.2.2.2.1 ∧ cs.2.2.1 = ms.1 ∧ RelT cs.2.2.2.1 cs.2.2.2.2.1 ms.2.1 ms.2.2.2.2.2.2.2.2.2.2.2.2.1 ∧ RelM cs.2.2.2.2.2.2.2.2.2.2.2.2.2.2.1 cs.2.2.2.2.2.2.2.2.2.2.2.2.2.2.2.2.2.2.1 cs.2.2.2.2.2.2.2.2.2.2.2.2.2.2.2.2.2.2.2.2.2.1 cs.2.2.2.2.2.2.2.2.2.2.2.2.2.2.2.2.2.2.2.2.2.2.2.2.2.1 cs.2.2.2.2.2.2.2.2.2.2.2.2.2.2.2.2.2.2.2.2.2.2.2.2.2.2.2.2.1 ∧ RelM cs.2.2.2.2.2.2.2.2.2.2.2.2.2.2.2.2.2.2.2.2.2.2.2.2.2.2.2.2.2.2.2.2.2.1 cs.2.2.2.2.2.2.2.2.2.2.2.2.2.2.2.2.2.2.2.2.2.2.2.2.2.2.2.2.2.2.2.2.2.2.2.2.2.1 cs.2.2.2.2.2.2.2.2.2.2.2.2.2.2.2.2.2.2.2.2.2.2.2.2.2.2.2.2.2.2.2.2.2.2.2.2.2.2.2.2.1 cs.2.2.2.2.2.2.2.2.2.2.2.2.2.2.2.2.2.2.2.2.2.2.2.2.2.2.2.2.2.2.2.2.2.2.2.2.2.2.2.2.2.2.2.2.1 cs.2.2.2.2.2.2.2.2.2.2.2.2.2.2.2.2.2.2.2.2.2.2.2.2.2.2.2.2.2.2.2.2.2.2.2.2.2.2.2.2.2.2.2.2.2.2.2.1 ∧ (cs.2.2.2.2.2.2.2.2.2.2.2.2.2.2.2.2.2.2.2.2.2.2.2.2.2.2.2.2.2.2.2.2.2.2.2.2.2.2.2.2.2.2.2.2.2.2.2.2.2.2.2.1 = nI 9 ∧ cs.2.2.2.2.2.2.2.2.2.2.2.2.2.2.2.2.2.2.2.2.2.2.2.2.2.2.2.2.2.2.2.2.2.2.2.2.2.2.2.2.2.2.2.2.2.2.2.2.2.2.2.2.2.2.1 = nI 9) ∧ RelI cs.2.2.2.2.2.2.2.2.2.2.2.2.1 cs.2.2.2.2.2.2.2.2.2.2.2.2.2.1 cs.2.2.2.2.2.2.2.2.2.2.2.2.2.2.2.1 cs.2.2.2.2.2.2.2.2.2.2.2.2.2.2.2.2.1 cs.2.2.2.2.2.2.2.2.2.2.2.2.2.2.2.2.2.1 cs.2.2.2.2.2.2.2.2.2.2.2.2.2.2.2.2.2.2.2.1 cs.2.2.2.2.2.2.2.2.2.2.2.2.2.2.2.2.2.2.2.2.1 cs.2.2.2.2.2.2.2.2.2.2.2.2.2.2.2.2.2.2.2.2.2.2.1 cs.2.2.2.2.2.2.2.2.2.2.2.2.2.2.2.2.2.2.2.2.2.2.2.1 cs.2.2.2.2.2.2.2.2.2.2.2.2.2.2.2.2.2.2.2.2.2.2.2.2.1 cs.2.2.2.2.2.2.2.2.2.2.2.2.2.2.2.2.2.2.2.2.2.2.2.2.2.2.1 cs.2.2.2.2.2.2.2.2.2.2.2.2.2.2.2.2.2.2.2.2.2.2.2.2.2.2.2.1 cs.2.2.2.2.2.2.2.2.2.2.2.2.2.2.2.2.2.2.2.2.2.2.2.2.2.2.2.2.2.1 cs.2.2.2.2.2.2.2.2.2.2.2.2.2.2.2.2.2.2.2.2.2.2.2.2.2.2.2.2.2.2.1 cs.2.2.2.2.2.2.2.2.2.2.2.2.2.2.2.2.2.2.2.2.2.2.2.2.2.2.2.2.2.2.2.2.2.2.2.2.2.2.2.2.2.2.2.2.2.2.2.2.2.2.2.2.2.2.2.2.2.2.1 cs.2.2.2.2.2.2.2.2.2.2.2.2.2.2.2.2.2.2.2.2.2.2.2.2.2.2.2.2.2.2.2.2.2.2.2.2.2.2.2.2.2.2.2.2.2.2.2.2.2.2.2.2.2.2.2.2.2.2.2.1 cs.2.2.2.2.2.2.2.2.2.2.2.2.2.2.2.2.2.2.2.2.2.2.2.2.2.2.2.2.2.2.2.2.2.2.2.2.2.2.2.2.2.2.2.2.2.2.2.2.2.2.2.2.2.2.2.2.2.2.2.2.1 cs.2.2.2.2.2.2.2.2.2.2.2.2.2.2.2.2.2.2.2.2.2.2.2.2.2.2.2.2.2.2.2.2.2.2.2.2.2.2.2.2.2.2.2.2.2.2.2.2.2.2.2.2.2.2.2.2.2.2.2.2.2 ms.2.2.2.2.2.2.2.2.2.2.2.1 ms.2.2.2.2.2.2.2.2.2.2.2.2.2.1 ms.2.2.2.2.2.2.2.2.2.2.2.2.2.2.1 ms.2.2.2.2.2.2.2.2.2.2.2.2.2.2.2.1 ms.2.2.2.2.2.2.2.2.2.2.2.2.2.2.2.2.1
theorem k_type : Sim_type Rel := by
  intro cs ms h v x
  obtain ⟨h1, h2, h3, h4, h5, h6, h7, h8⟩ := h
  obtain ⟨o, z, b, z', t', e1, e2, r⟩ := s_type h4 v x
  exact ⟨_, _, e1, e2, rfl, h1, h2, h3, r, h5, h6, h7, h8⟩
theorem k_clear : Sim_clear Rel := by
  intro cs ms h
  obtain ⟨h1, h2, h3, h4, h5, h6, h7, h8⟩ := h
  have h4c := h4
  obtain ⟨N, tx, e1, e2, _⟩ := h4
  exact ⟨_, _, rfl, rfl, e1.trans e2.symm, h1, h2, h3, RelT_0 _ _, h5, h6, h7, h8⟩
theorem k_worlds : Sim_worlds Rel := by
  intro cs ms h x y
  have hc := h
  obtain ⟨h1, h2, h3, h4, h5, h6, h7, h8⟩ := h
  obtain ⟨o, e1, e2⟩ := s_worlds h8 cs.1 cs.2.1 x y
  rw [h1, h2] at e2
  exact ⟨o, o, e1, e2, rfl, hc⟩
theorem k_there : Sim_there Rel := by
  intro cs ms h x
  have hc := h
  obtain ⟨h1, h2, h3, h4, h5, h6, h7, h8⟩ := h
  obtain ⟨o, e1, e2⟩ := s_there h8 x
  exact ⟨o, o, e1, e2, rfl, hc⟩
theorem k_grade : Sim_grade Rel := by
  intro cs ms h x
  have hc := h
  obtain ⟨h1, h2, h3, h4, h5, h6, h7, h8⟩ := h
  obtain ⟨o, e1, e2⟩ := s_grade h8 x
  exact ⟨o, o, e1, e2, rfl, hc⟩
theorem k_gradeOf : Sim_gradeOf Rel := by
  intro cs ms h x
  have hc := h
  obtain ⟨h1, h2, h3, h4, h5, h6, h7, h8⟩ := h
  obtain ⟨o, e1, e2⟩ := s_gradeOf h8 x
  exact ⟨o, o, e1, e2, rfl, hc⟩
theorem k_breaks : Sim_breaks Rel := by
  intro cs ms h x
  have hc := h
  obtain ⟨h1, h2, h3, h4, h5, h6, h7, h8⟩ := h
  obtain ⟨o, e1, e2⟩ := s_breaks h8 x
  exact ⟨o, o, e1, e2, rfl, hc⟩
theorem k_best : Sim_best Rel := by
  intro cs ms h x
  have hc := h
  obtain ⟨h1, h2, h3, h4, h5, h6, h7, h8⟩ := h
  obtain ⟨o, e1, e2⟩ := s_best h8 cs.1 x
  rw [h1] at e2
  exact ⟨o, o, e1, e2, rfl, hc⟩
theorem k_ends : Sim_ends Rel := by
  intro cs ms h x
  have hc := h
  obtain ⟨h1, h2, h3, h4, h5, h6, h7, h8⟩ := h
  obtain ⟨o, e1, e2⟩ := s_ends h8 x
  exact ⟨o, o, e1, e2, rfl, hc⟩
theorem k_leaves : Sim_leaves Rel := by
  intro cs ms h x
  have hc := h
  obtain ⟨h1, h2, h3, h4, h5, h6, h7, h8⟩ := h
  obtain ⟨o, e1, e2⟩ := s_leaves h8 x
  exact ⟨o, o, e1, e2, rfl, hc⟩
theorem k_held : Sim_held Rel := by
  intro cs ms h
  have hc := h
  obtain ⟨h1, h2, h3, h4, h5, h6, h7, h8⟩ := h
  obtain ⟨o, e1, e2⟩ := s_held h8 cs.2.1
  rw [h2] at e2
  exact ⟨o, o, e1, e2, rfl, hc⟩
theorem k_why : Sim_why Rel := by
  intro cs ms h x
  have hc := h
  obtain ⟨h1, h2, h3, h4, h5, h6, h7, h8⟩ := h
  obtain ⟨o, e1, e2⟩ := s_why h8 cs.2.1 x
  rw [h2] at e2
  exact ⟨o, o, e1, e2, rfl, hc⟩
theorem k_doubt : Sim_doubt Rel := by
  intro cs ms h x
  have hc := h
  obtain ⟨h1, h2, h3, h4, h5, h6, h7, h8⟩ := h
  obtain ⟨o, e1, e2⟩ := s_doubt h8 x
  exact ⟨o, o, e1, e2, rfl, hc⟩
theorem k_believed : Sim_believed Rel := by
  intro cs ms h
  have hc := h
  obtain ⟨h1, h2, h3, h4, h5, h6, h7, h8⟩ := h
  obtain ⟨o, e1, e2⟩ := s_believed h8 cs.2.1
  rw [h2] at e2
  exact ⟨o, o, e1, e2, rfl, hc⟩
theorem s_so2 {th gd : Int64} {az : Int32} {ak : Nat → Int64} {q wz : Int32} {wk : Nat → Int64} {tz : Int32} {tq : Nat → Int64} {gr : Nat → Int32} {fz : Int32} {fk : Nat → Int64} {gz : Int32} {gk : Nat → Int64} {ez : Int32} {es : Nat → Int32} {el : Nat → Int64} {dk : Nat → Int32} {mq : Int32} {said : Nat → Int64} {many mgr md : Nat → Int32} (h : RelI th gd az ak q wz wk tz tq gr fz fk gz gk ez es el dk mq said many mgr md) {m1 m2 : Int32} (t1 : m1 = nI 9) (t2 : m2 = nI 9) {mwhen mthen : Int64} (when then_ : Int64) (hw : when = mwhen) (ht : then_ = mthen) (trq trs trs2 : Int32) (trw trt : Nat → Int64) (trg : Nat → Int32) (x : Int32) : ∃ (o1 : Int32 × Int32 × Int32 × (Nat → Int64) × Int32 × (Nat → Int64) × (Nat → Int32)) (o2 : Int32 × Int32 × (Nat → Int64) × (Nat → Int32)), f_X7_so when then_ th wz wk tz tq gr trq m1 trs trw m2 trs2 trt trg x = some o1 ∧ f_X8_so mwhen mthen mq said many mgr x = some o2 ∧ o1.1 = o2.1 ∧ RelI th gd az ak q wz wk tz tq gr fz fk gz gk ez es el dk o2.2.1 o2.2.2.1 many o2.2.2.2 md := by
  subst t1 t2 hw ht
  obtain ⟨o, a1, a2, a3, a4, a5, a6, q', sd, g', e1, e2, r⟩ := s_so h when then_ trq trs trs2 trw trt trg x
  exact ⟨_, _, e1, e2, rfl, r⟩
theorem k_so : Sim_so Rel := by
  intro cs ms h x
  obtain ⟨h1, h2, h3, h4, h5, h6, h7, h8⟩ := h
  obtain ⟨o1, o2, e1, e2, r0, r⟩ := s_so2 h8 h7.1 h7.2 cs.1 cs.2.1 h1 h2 cs.2.2.2.2.2.2.2.2.2.2.2.2.2.2.2.2.2.2.2.2.2.2.2.2.2.2.2.2.2.2.2.2.2.2.2.2.2.2.2.2.2.2.2.2.2.2.2.2.2.2.1 cs.2.2.2.2.2.2.2.2.2.2.2.2.2.2.2.2.2.2.2.2.2.2.2.2.2.2.2.2.2.2.2.2.2.2.2.2.2.2.2.2.2.2.2.2.2.2.2.2.2.2.2.2.1 cs.2.2.2.2.2.2.2.2.2.2.2.2.2.2.2.2.2.2.2.2.2.2.2.2.2.2.2.2.2.2.2.2.2.2.2.2.2.2.2.2.2.2.2.2.2.2.2.2.2.2.2.2.2.2.2.1 cs.2.2.2.2.2.2.2.2.2.2.2.2.2.2.2.2.2.2.2.2.2.2.2.2.2.2.2.2.2.2.2.2.2.2.2.2.2.2.2.2.2.2.2.2.2.2.2.2.2.2.2.2.2.1 cs.2.2.2.2.2.2.2.2.2.2.2.2.2.2.2.2.2.2.2.2.2.2.2.2.2.2.2.2.2.2.2.2.2.2.2.2.2.2.2.2.2.2.2.2.2.2.2.2.2.2.2.2.2.2.2.2.1 cs.2.2.2.2.2.2.2.2.2.2.2.2.2.2.2.2.2.2.2.2.2.2.2.2.2.2.2.2.2.2.2.2.2.2.2.2.2.2.2.2.2.2.2.2.2.2.2.2.2.2.2.2.2.2.2.2.2.1 x
  exact ⟨o1, o2, e1, e2, r0, h1, h2, h3, h4, h5, h6, h7, r⟩
theorem k_learn : Sim_learn Rel := by
  intro cs ms h x
  obtain ⟨h1, h2, h3, h4, h5, h6, h7, h8⟩ := h
  obtain ⟨o, d, m, e1, e2, r⟩ := s_learn h8 cs.2.1 x
  rw [h2] at e2
  exact ⟨_, _, e1, e2, rfl, h1, h2, h3, h4, h5, h6, h7, r⟩
theorem k_forget : Sim_forget Rel := by
  intro cs ms h
  obtain ⟨h1, h2, h3, h4, h5, h6, h7, h8⟩ := h
  obtain ⟨o, d, m, e1, e2, r⟩ := s_forget h8
  exact ⟨_, _, e1, e2, rfl, h1, h2, h3, h4, h5, h6, h7, r⟩
theorem k_weight : Sim_weight Rel := by
  intro cs ms h x y
  obtain ⟨h1, h2, h3, h4, h5, h6, h7, h8⟩ := h
  obtain ⟨o, a, e1, e2⟩ := s_weight h8 cs.2.2.1 x y
  rw [h3] at e2
  exact ⟨_, _, e1, e2, rfl, h1, h2, rfl, h4, h5, h6, h7, h8⟩
theorem k_count : Sim_count Rel := by
  intro cs ms h x
  have hc := h
  obtain ⟨h1, h2, h3, h4, h5, h6, h7, h8⟩ := h
  obtain ⟨N, tx, z1, z2, _⟩ := h4
  obtain ⟨o, e1, e2⟩ := s_count h8 cs.2.2.2.1 x
  rw [z1, ← z2] at e2
  exact ⟨o, o, e1, e2, rfl, hc⟩
theorem k_trace : Sim_trace Rel := by
  intro cs ms h
  have hc := h
  obtain ⟨h1, h2, h3, h4, h5, h6, h7, h8⟩ := h
  exact ⟨_, _, rfl, rfl, h3, hc⟩
theorem k_question : Sim_question Rel := by
  intro cs ms h
  obtain ⟨h1, h2, h3, h4, h5, h6, h7, h8⟩ := h
  obtain ⟨o1, o2, e1, e2, r1, r2, r3, r4⟩ := s_question h4 cs.1 cs.2.1 cs.2.2.2.2.2.1 cs.2.2.2.2.2.2.1 cs.2.2.2.2.2.2.2.1 cs.2.2.2.2.2.2.2.2.1 cs.2.2.2.2.2.2.2.2.2.1 cs.2.2.2.2.2.2.2.2.2.2.1 cs.2.2.2.2.2.2.2.2.2.2.2.1 ms.2.2.2.2.1 ms.2.2.2.2.2.1 ms.2.2.2.2.2.2.1 ms.2.2.2.2.2.2.2.1 ms.2.2.2.2.2.2.2.2.1 ms.2.2.2.2.2.2.2.2.2.1 ms.2.2.2.2.2.2.2.2.2.2.1 ms.2.2.2.2.2.2.2.2.2.2.2.2.2.2.2.2.2.1 ms.2.2.2.2.2.2.2.2.2.2.2.2.2.2.2.2.2.2.1 ms.2.2.2.2.2.2.2.2.2.2.2.2.2.2.2.2.2.2.2.1
  rw [h1, h2] at e2
  exact ⟨o1, o2, e1, e2, r1, r2, r3, h3, r4, h5, h6, h7, h8⟩
theorem k_tell : Sim_tell Rel := by
  intro cs ms h
  obtain ⟨h1, h2, h3, h4, h5, h6, h7, h8⟩ := h
  obtain ⟨o1, o2, e1, e2, r0, r1, r2, r3, r4⟩ := s_tell h4 h5 h6 h8 cs.2.2.2.2.2.1 cs.2.2.2.2.2.2.1 cs.2.2.2.2.2.2.2.1 cs.2.2.2.2.2.2.2.2.2.2.1 cs.2.2.2.2.2.2.2.2.2.2.2.1 cs.2.2.2.2.2.2.2.2.2.2.2.2.2.2.2.2.2.2.2.2.2.2.2.2.2.2.2.2.2.2.2.1 cs.2.2.2.2.2.2.2.2.2.2.2.2.2.2.2.2.2.2.2.2.2.2.2.2.2.2.2.2.2.2.2.2.1 cs.2.2.2.2.2.2.2.2.2.2.2.2.2.2.2.2.2.2.2.2.2.2.2.2.2.2.2.2.2.2.2.2.2.2.1 cs.2.2.2.2.2.2.2.2.2.2.2.2.2.2.2.2.2.2.2.2.2.2.2.2.2.2.2.2.2.2.2.2.2.2.2.1 cs.2.2.2.2.2.2.2.2.2.2.2.2.2.2.2.2.2.2.2.2.2.2.2.2.2.2.2.2.2.2.2.2.2.2.2.2.1 cs.2.2.2.2.2.2.2.2.2.2.2.2.2.2.2.2.2.2.2.2.2.2.2.2.2.2.2.2.2.2.2.2.2.2.2.2.2.2.1 cs.2.2.2.2.2.2.2.2.2.2.2.2.2.2.2.2.2.2.2.2.2.2.2.2.2.2.2.2.2.2.2.2.2.2.2.2.2.2.2.1 cs.2.2.2.2.2.2.2.2.2.2.2.2.2.2.2.2.2.2.2.2.2.2.2.2.2.2.2.2.2.2.2.2.2.2.2.2.2.2.2.2.2.1 cs.2.2.2.2.2.2.2.2.2.2.2.2.2.2.2.2.2.2.2.2.2.2.2.2.2.2.2.2.2.2.2.2.2.2.2.2.2.2.2.2.2.2.1 cs.2.2.2.2.2.2.2.2.2.2.2.2.2.2.2.2.2.2.2.2.2.2.2.2.2.2.2.2.2.2.2.2.2.2.2.2.2.2.2.2.2.2.2.1 cs.2.2.2.2.2.2.2.2.2.2.2.2.2.2.2.2.2.2.2.2.2.2.2.2.2.2.2.2.2.2.2.2.2.2.2.2.2.2.2.2.2.2.2.2.2.1 cs.2.2.2.2.2.2.2.2.2.2.2.2.2.2.2.2.2.2.2.2.2.2.2.2.2.2.2.2.2.2.2.2.2.2.2.2.2.2.2.2.2.2.2.2.2.2.1 cs.2.2.2.2.2.2.2.2.2.2.2.2.2.2.2.2.2.2.2.2.2.2.2.2.2.2.2.2.2.2.2.2.2.2.2.2.2.2.2.2.2.2.2.2.2.2.2.2.1 cs.2.2.2.2.2.2.2.2.2.2.2.2.2.2.2.2.2.2.2.2.2.2.2.2.2.2.2.2.2.2.2.2.2.2.2.2.2.2.2.2.2.2.2.2.2.2.2.2.2.1 ms.2.2.2.2.1 ms.2.2.2.2.2.1 ms.2.2.2.2.2.2.1 ms.2.2.2.2.2.2.2.1 ms.2.2.2.2.2.2.2.2.1 ms.2.2.2.2.2.2.2.2.2.1 ms.2.2.2.2.2.2.2.2.2.2.1 ms.2.2.2.2.2.2.2.2.2.2.2.2.2.2.2.2.2.1 ms.2.2.2.2.2.2.2.2.2.2.2.2.2.2.2.2.2.2.1 ms.2.2.2.2.2.2.2.2.2.2.2.2.2.2.2.2.2.2.2.1 ms.2.2.2.2.2.2.2.2.2.2.2.2.2.2.2.2.2.2.2.2
  exact ⟨o1, o2, e1, e2, r0, h1, h2, h3, r1, r2, r3, h7, r4⟩
theorem k_init : Sim_init Rel := by
  have hI : IR 0 0 0 0 (fun _ => 0) (fun _ => 0) (fun _ => 0) (fun _ => 0) (fun _ => 0) (fun _ => 0) (fun _ => 0) := ⟨⟨by decide, by decide, by decide, by decide⟩, ⟨rfl, rfl, rfl, rfl⟩, fun i hi => absurd hi (Nat.not_lt_zero i), fun i hi => absurd hi (Nat.not_lt_zero i), fun i hi => absurd hi (Nat.not_lt_zero i), fun i hi => absurd hi (Nat.not_lt_zero i), fun i hi => absurd hi (Nat.not_lt_zero i)⟩
  obtain ⟨th, gd, q, gr, ez, es, el, dk, mgr, md, c1, c2, c3, c4, c5, c6⟩ := settle_core hI rfl (-1) (-1) 0 (fun _ => 0) 0 (fun _ => 0) (fun _ => 0) (fun _ => 0) 0 (fun _ => 0) (fun _ => 0)
  have a2 : f_X2_init = some ((-1 : Int64), (-1 : Int64), nI 4, nI 0, (fun _ => 0), (0 : Int32), nI 8, nI 0, (fun _ => 0), nI 8, nI 0, (fun _ => 0), (fun _ => 0), nI 4, nI 0, (fun _ => 0), nI 6, nI 0, (fun _ => 0)) := rfl
  have a4 : f_X4_init (9 : Int32) = some ((0 : Int32), nI 9, nI 0, (fun _ => 0), nI 9, nI 0, (fun _ => 0), (fun _ => 0)) := rfl
  refine ⟨((-1 : Int64), (-1 : Int64), (0 : Int64), (0 : Int32), (fun _ => 0), (0 : Int32), (0 : Int32), (256 : Int32), (-1 : Int64), (-1 : Int64), (fun _ => 0), (fun _ => 0), th, gd, nI 4, nI 0, (fun _ => 0), q, nI 8, nI 0, (fun _ => 0), nI 8, nI 0, (fun _ => 0), gr, nI 4, nI 0, (fun _ => 0), nI 6, nI 0, (fun _ => 0), (-1 : Int64), (-1 : Int64), nI 4, nI 0, (fun _ => 0), (0 : Int32), nI 8, nI 0, (fun _ => 0), nI 8, nI 0, (fun _ => 0), (fun _ => 0), nI 4, nI 0, (fun _ => 0), nI 6, nI 0, (fun _ => 0), (0 : Int32), nI 9, nI 0, (fun _ => 0), nI 9, nI 0, (fun _ => 0), (fun _ => 0), ez, es, el, dk), ((0 : Int64), (0 : Int32), (-1 : Int64), (-1 : Int64), (0 : Int32), (0 : Int32), (0 : Int32), (0 : Int32), (0 : Int32), (0 : Int32), (0 : Int64), q, (fun _ => 0), (fun _ => 0), (fun _ => 0), mgr, md, (fun _ => 0), (fun _ => 0), (fun _ => 0), (fun _ => 0)), ?_, ?_, ?_⟩
  · unfold f_X7_init
    rw [show f_X6_init = some ((0 : Int32), (fun _ => 0)) from rfl, bd_s, show f_X3_init = some ((0 : Int32), (0 : Int32), (256 : Int32), (-1 : Int64), (-1 : Int64), (fun _ => 0), (fun _ => 0)) from rfl, bd_s, a2, bd_s, bd_s, a4, bd_s, show f_X1_init = some ((0 : Int32), (fun _ => 0), (fun _ => 0)) from rfl, bd_s, show f_X0_init = some (fun _ => 0) from rfl, bd_s, c1, bd_s]
  · unfold f_X8_init
    rw [c2, bd_s, c3, bd_s]
  · exact ⟨rfl, rfl, rfl, RelT_0 _ _, ⟨rfl, rfl, rfl, rfl, rfl⟩, ⟨rfl, rfl, rfl, rfl, rfl⟩, ⟨rfl, rfl⟩, 0, 0, 0, 0, rfl, rfl, rfl, rfl, rfl, c4, c5, c6⟩
theorem sim_all : SimAll Rel := ⟨k_init, k_type, k_clear, k_tell, k_question, k_worlds, k_there, k_grade, k_gradeOf, k_breaks, k_so, k_best, k_ends, k_leaves, k_held, k_why, k_doubt, k_learn, k_believed, k_forget, k_weight, k_count, k_trace⟩
