theorem ui_obj : Cond.instanceMethod objectInit ∈ gtbl := tb1 22 (by decide +kernel) (by decide +kernel)
theorem uo_obj : Cond.code objectInit ⟨#[0xb1]⟩ 1 none ∈ gtbl := tb1 23 (by decide +kernel) (by decide +kernel)
/-- what a constructor leaves as it was: all that is told of the old cell b -/
def Fr (b : Nat) (h : Hs) (M : Mm) (u : Hs × Mm) : Prop := b ∈ zL u.1 ∧ zK u.1 b = zK h b ∧ zN u.1 b = zN h b ∧ zR u.1 b = zR h b ∧ zI u.2 b = zI M b ∧ zJ u.2 b = zJ M b
theorem Fr.refl {b : Nat} {h : Hs} {M : Mm} (hb : b ∈ zL h) : Fr b h M (h, M) := ⟨hb, rfl, rfl, rfl, rfl, rfl⟩
theorem Fr.nh {b : Nat} {h h1 : Hs} {M M1 : Mm} {q k n : Nat} (f : Fr b h M (h1, M1)) (hq : b ≠ q) : Fr b h M (nh h1 q k n, nm M1 q) := by
  obtain ⟨f1, f2, f3, f4, f5, f6⟩ := f
  exact ⟨by rw [nh_L]; exact List.mem_append_left _ f1, (nh_Kn hq).trans f2, (nh_Nn hq).trans f3, (nh_Rn hq).trans f4, (nm_In hq).trans f5, (nm_Jn hq).trans f6⟩
theorem zR_setR {b a j : Nat} {h : Hs} {r : Option Nat} (hb : b ≠ a) : zR (setR h a j r) b = zR h b := by funext i; simp [zR, setR, up2, hb]
theorem Fr.setR {b : Nat} {h h1 : Hs} {M M1 : Mm} {a j : Nat} {r : Option Nat} (f : Fr b h M (h1, M1)) (ha : b ≠ a) : Fr b h M (setR h1 a j r, M1) := by
  obtain ⟨f1, f2, f3, f4, f5, f6⟩ := f
  exact ⟨f1, f2, f3, (zR_setR ha).trans f4, f5, f6⟩
theorem Fr.sI {b : Nat} {h h1 : Hs} {M M1 : Mm} {a j : Nat} {v : Int32} (f : Fr b h M (h1, M1)) (ha : b ≠ a) : Fr b h M (h1, sI M1 a j v) := by
  obtain ⟨f1, f2, f3, f4, f5, f6⟩ := f
  exact ⟨f1, f2, f3, f4, (zI_ne ha).trans f5, f6⟩
theorem Fr.trans {b : Nat} {h : Hs} {M : Mm} {u v : Hs × Mm} (f : Fr b h M u) (g : Fr b u.1 u.2 v) : Fr b h M v := by
  obtain ⟨f1, f2, f3, f4, f5, f6⟩ := f
  obtain ⟨g1, g2, g3, g4, g5, g6⟩ := g
  exact ⟨g1, g2.trans f2, g3.trans f3, g4.trans f4, g5.trans f5, g6.trans f6⟩
/-! X4_init: 1 cells, 400 slots -/
def n_X4_init (h : Hs) (a0 : Nat) (M : Mm) (u : Hs × Mm) : Prop :=
  ∃ q1, q1 ∉ zL h ∧
  ∃ h2, h2 = nh h q1 11 400 ∧
  ∃ M3, M3 = nm M q1 ∧
  ∃ h4, h4 = setR h2 a0 0 (some q1) ∧
  ∃ M5, M5 = sI M3 a0 1 (-1 : Int32) ∧
  u = (h4, M5)
theorem e_X4_init {h : Hs} {a0 : Nat} {M : Mm} {u : Hs × Mm} (hn : n_X4_init h a0 M u) {b k : Nat} (g : ok h b k) : ok u.1 b k := by
  unfold n_X4_init at hn
  obtain ⟨q1, hq1, h2, eh2, M3, eM3, h4, eh4, M5, eM5, rfl⟩ := hn
  have g : ok h2 b k := by rw [eh2]; exact ok_nh hq1 g
  have g : ok h4 b k := by rw [eh4]; exact ok_setR g
  exact g
theorem fr_X4_init {h : Hs} {a0 : Nat} {M : Mm} {u : Hs × Mm} (hn : n_X4_init h a0 M u) {b : Nat} (hb : b ∈ zL h) (n_a0 : b ≠ a0) : Fr b h M u := by
  unfold n_X4_init at hn
  obtain ⟨q1, hq1, h2, eh2, M3, eM3, h4, eh4, M5, eM5, rfl⟩ := hn
  have f : Fr b h M (h, M) := Fr.refl hb
  have n_q1 : b ≠ q1 := fun z => hq1 (z ▸ f.1)
  have f : Fr b h M (h2, M3) := by rw [eh2, eM3]; exact f.nh n_q1
  have f : Fr b h M (h4, M3) := by rw [eh4]; exact f.setR n_a0
  have f : Fr b h M (h4, M5) := by rw [eM5]; exact f.sI n_a0
  exact f
set_option maxHeartbeats 4000000 in
set_option maxRecDepth 100000 in
theorem c_X4_init {l : Launch} {D : va_G} {cy : Nat → ClassId} {h : Hs} {a0 : Nat} {M : Mm} (g_a0 : ok h a0 4) : CtN l D cy yX4_init (wu yX4_init cX4_init 1 none) ({ frames := 1, cells := 1, slots := 400, locals := 12 }) [.ref a0] h M (n_X4_init h a0 M) 1 400 := by
  refine enterN (cc := cX4_init) (maxL := 1) (by decide) (Nat.le_of_ble_eq_true rfl) ?_
  intro p e s m args below meth c A ls X hw hr hlk hin hl
  have hl : lv_has ls 1 [(0, .ref a0)] := hl
  refine lv_aload_n X.1.1 X.1.2.1 dX4_init_0 rfl (lv_at hl 0 rfl) ?_
  refine W.objInit X.1.1 X.1.2.1 X.1.2.2.2.1 (X.1.2.2.2.2 _ um_X4_3) (X.1.2.2.2.2 _ ui_obj) (X.1.2.2.2.2 _ uo_obj) rfl (hl.1.trans X.1.2.2.1.symm) rfl dX4_init_1 (Nat.le_of_ble_eq_true rfl) (Nat.le_of_ble_eq_true rfl) ?_
  refine W.eq (g2 := F0 m 4 ls []) rfl ?_
  refine lv_aload_n X.1.1 X.1.2.1 dX4_init_4 rfl (lv_at hl 0 rfl) ?_
  refine lv_sipush (v := (400 : Int32)) X.1.1 X.1.2.1 dX4_init_5 (by decide) ?_
  refine r_newaI (N := 400) X hw (by decide) (by decide) (by decide) (Nat.le_of_ble_eq_true rfl) (Nat.le_of_ble_eq_true rfl) dX4_init_8 (fun q1 H hq1 hw => ?_)
  obtain ⟨h2, eh2⟩ : ∃ x, x = nh h q1 11 400 := ⟨_, rfl⟩
  have g_a0 : ok h2 a0 4 := by rw [eh2]; exact ok_nh hq1 g_a0
  have g_q1 : ok h2 q1 11 := by rw [eh2]; exact nh_ok
  obtain ⟨M3, eM3⟩ : ∃ x, x = nm M q1 := ⟨_, rfl⟩
  rw [← eh2, ← eM3] at hw
  refine r_putqF (k := 4) (j := 0) X hw rfl inX4 tyX4_ok nmX4 g_a0 rfl (by decide) (by decide) uf_X4_9 rfl rfl hin rfl rfl rfl dX4_init_10 (fun H locs hw => ?_)
  obtain ⟨h4, eh4⟩ : ∃ x, x = setR h2 a0 0 (some q1) := ⟨_, rfl⟩
  have g_a0 : ok h4 a0 4 := by rw [eh4]; exact ok_setR g_a0
  have g_q1 : ok h4 q1 11 := by rw [eh4]; exact ok_setR g_q1
  rw [← eh4] at hw
  refine lv_aload_n X.1.1 X.1.2.1 dX4_init_13 rfl (lv_at hl 0 rfl) ?_
  refine lv_iconst (v := (-1 : Int32)) X.1.1 X.1.2.1 dX4_init_14 (by decide) ?_
  refine r_puti (k := 4) (j := 1) X hw rfl inX4 tyX4_ok nmX4 g_a0 rfl (by decide) (by decide) uf_X4_15 rfl rfl rfl rfl dX4_init_15 (fun H locs hw => ?_)
  obtain ⟨M5, eM5⟩ : ∃ x, x = sI M3 a0 1 (-1 : Int32) := ⟨_, rfl⟩
  rw [← eM5] at hw
  refine W.widen (k := 1) (n := 400) (Nat.le_of_ble_eq_true rfl) (Nat.le_of_ble_eq_true rfl) ?_
  exact r_retN X hw hr hlk ⟨q1, hq1, h2, eh2, M3, eM3, h4, eh4, M5, eM5, rfl⟩ dX4_init_18
/-! X3_init_6: 2 cells, 12 slots -/
def n_X3_init_6 (h : Hs) (a0 : Nat) (M : Mm) (u : Hs × Mm) : Prop :=
  ∃ q2, q2 ∉ zL h ∧
  ∃ h3, h3 = nh h q2 11 6 ∧
  ∃ M4, M4 = nm M q2 ∧
  ∃ h5, h5 = setR h3 a0 0 (some q2) ∧
  ∃ q6, q6 ∉ zL h5 ∧
  ∃ h7, h7 = nh h5 q6 11 6 ∧
  ∃ M8, M8 = nm M4 q6 ∧
  ∃ h9, h9 = setR h7 a0 1 (some q6) ∧
  u = (h9, M8)
theorem e_X3_init_6 {h : Hs} {a0 : Nat} {M : Mm} {u : Hs × Mm} (hn : n_X3_init_6 h a0 M u) {b k : Nat} (g : ok h b k) : ok u.1 b k := by
  unfold n_X3_init_6 at hn
  obtain ⟨q2, hq2, h3, eh3, M4, eM4, h5, eh5, q6, hq6, h7, eh7, M8, eM8, h9, eh9, rfl⟩ := hn
  have g : ok h3 b k := by rw [eh3]; exact ok_nh hq2 g
  have g : ok h5 b k := by rw [eh5]; exact ok_setR g
  have g : ok h7 b k := by rw [eh7]; exact ok_nh hq6 g
  have g : ok h9 b k := by rw [eh9]; exact ok_setR g
  exact g
theorem fr_X3_init_6 {h : Hs} {a0 : Nat} {M : Mm} {u : Hs × Mm} (hn : n_X3_init_6 h a0 M u) {b : Nat} (hb : b ∈ zL h) (n_a0 : b ≠ a0) : Fr b h M u := by
  unfold n_X3_init_6 at hn
  obtain ⟨q2, hq2, h3, eh3, M4, eM4, h5, eh5, q6, hq6, h7, eh7, M8, eM8, h9, eh9, rfl⟩ := hn
  have f : Fr b h M (h, M) := Fr.refl hb
  have n_q2 : b ≠ q2 := fun z => hq2 (z ▸ f.1)
  have f : Fr b h M (h3, M4) := by rw [eh3, eM4]; exact f.nh n_q2
  have f : Fr b h M (h5, M4) := by rw [eh5]; exact f.setR n_a0
  have n_q6 : b ≠ q6 := fun z => hq6 (z ▸ f.1)
  have f : Fr b h M (h7, M8) := by rw [eh7, eM8]; exact f.nh n_q6
  have f : Fr b h M (h9, M8) := by rw [eh9]; exact f.setR n_a0
  exact f
set_option maxHeartbeats 4000000 in
set_option maxRecDepth 100000 in
theorem c_X3_init_6 {l : Launch} {D : va_G} {cy : Nat → ClassId} {h : Hs} {a0 : Nat} {M : Mm} (g_a0 : ok h a0 3) : CtN l D cy yX3_init (wu yX3_init cX3_init 3 none) ({ frames := 1, cells := 2, slots := 12, locals := 12 }) [.ref a0, .int (6 : Int32)] h M (n_X3_init_6 h a0 M) 2 12 := by
  refine enterN (cc := cX3_init) (maxL := 3) (by decide) (Nat.le_of_ble_eq_true rfl) ?_
  intro p e s m args below meth c A ls X hw hr hlk hin hl
  have hl : lv_has ls 3 [(0, .ref a0), (1, .int (6 : Int32))] := hl
  refine lv_aload_n X.1.1 X.1.2.1 dX3_init_0 rfl (lv_at hl 0 rfl) ?_
  refine W.objInit X.1.1 X.1.2.1 X.1.2.2.2.1 (X.1.2.2.2.2 _ um_X3_3) (X.1.2.2.2.2 _ ui_obj) (X.1.2.2.2.2 _ uo_obj) rfl (hl.1.trans X.1.2.2.1.symm) rfl dX3_init_1 (Nat.le_of_ble_eq_true rfl) (Nat.le_of_ble_eq_true rfl) ?_
  refine W.eq (g2 := F0 m 4 ls []) rfl ?_
  refine lv_iload_n X.1.1 X.1.2.1 dX3_init_4 rfl (lv_at hl 1 rfl) ?_
  refine lv_if_ge (tgt := 12) X.1.1 X.1.2.1 dX3_init_5 (by decide) (fun c_1 => ?_) (fun c_1 => ?_)
  rotate_left
  · exact absurd (by decide) c_1
  refine lv_iload_n X.1.1 X.1.2.1 dX3_init_12 rfl (lv_at hl 1 rfl) ?_
  refine lv_istore_n (lv' := [(2, .int (6 : Int32)), (0, .ref a0), (1, .int (6 : Int32))]) X.1.1 X.1.2.1 dX3_init_13 rfl hl (by decide) rfl (fun ls hl => ?_)
  refine lv_aload_n X.1.1 X.1.2.1 dX3_init_14 rfl (lv_at hl 1 rfl) ?_
  refine lv_iload_n X.1.1 X.1.2.1 dX3_init_15 rfl (lv_at hl 0 rfl) ?_
  refine r_newaI (N := 6) X hw (by decide) (by decide) (by decide) (Nat.le_of_ble_eq_true rfl) (Nat.le_of_ble_eq_true rfl) dX3_init_16 (fun q2 H hq2 hw => ?_)
  obtain ⟨h3, eh3⟩ : ∃ x, x = nh h q2 11 6 := ⟨_, rfl⟩
  have g_a0 : ok h3 a0 3 := by rw [eh3]; exact ok_nh hq2 g_a0
  have g_q2 : ok h3 q2 11 := by rw [eh3]; exact nh_ok
  obtain ⟨M4, eM4⟩ : ∃ x, x = nm M q2 := ⟨_, rfl⟩
  rw [← eh3, ← eM4] at hw
  refine r_putqF (k := 3) (j := 0) X hw rfl inX3 tyX3_ok nmX3 g_a0 rfl (by decide) (by decide) uf_X3_9 rfl rfl hin rfl rfl rfl dX3_init_18 (fun H locs hw => ?_)
  obtain ⟨h5, eh5⟩ : ∃ x, x = setR h3 a0 0 (some q2) := ⟨_, rfl⟩
  have g_a0 : ok h5 a0 3 := by rw [eh5]; exact ok_setR g_a0
  have g_q2 : ok h5 q2 11 := by rw [eh5]; exact ok_setR g_q2
  rw [← eh5] at hw
  refine lv_aload_n X.1.1 X.1.2.1 dX3_init_21 rfl (lv_at hl 1 rfl) ?_
  refine lv_iload_n X.1.1 X.1.2.1 dX3_init_22 rfl (lv_at hl 0 rfl) ?_
  refine r_newaI (N := 6) X hw (by decide) (by decide) (by decide) (Nat.le_of_ble_eq_true rfl) (Nat.le_of_ble_eq_true rfl) dX3_init_23 (fun q6 H hq6 hw => ?_)
  obtain ⟨h7, eh7⟩ : ∃ x, x = nh h5 q6 11 6 := ⟨_, rfl⟩
  have g_a0 : ok h7 a0 3 := by rw [eh7]; exact ok_nh hq6 g_a0
  have g_q2 : ok h7 q2 11 := by rw [eh7]; exact ok_nh hq6 g_q2
  have g_q6 : ok h7 q6 11 := by rw [eh7]; exact nh_ok
  obtain ⟨M8, eM8⟩ : ∃ x, x = nm M4 q6 := ⟨_, rfl⟩
  rw [← eh7, ← eM8] at hw
  refine r_putqF (k := 3) (j := 1) X hw rfl inX3 tyX3_ok nmX3 g_a0 rfl (by decide) (by decide) uf_X3_15 rfl rfl hin rfl rfl rfl dX3_init_25 (fun H locs hw => ?_)
  obtain ⟨h9, eh9⟩ : ∃ x, x = setR h7 a0 1 (some q6) := ⟨_, rfl⟩
  have g_a0 : ok h9 a0 3 := by rw [eh9]; exact ok_setR g_a0
  have g_q2 : ok h9 q2 11 := by rw [eh9]; exact ok_setR g_q2
  have g_q6 : ok h9 q6 11 := by rw [eh9]; exact ok_setR g_q6
  rw [← eh9] at hw
  refine W.widen (k := 2) (n := 12) (Nat.le_of_ble_eq_true rfl) (Nat.le_of_ble_eq_true rfl) ?_
  exact r_retN X hw hr hlk ⟨q2, hq2, h3, eh3, M4, eM4, h5, eh5, q6, hq6, h7, eh7, M8, eM8, h9, eh9, rfl⟩ dX3_init_28
/-! X3_init_4: 2 cells, 8 slots -/
def n_X3_init_4 (h : Hs) (a0 : Nat) (M : Mm) (u : Hs × Mm) : Prop :=
  ∃ q2, q2 ∉ zL h ∧
  ∃ h3, h3 = nh h q2 11 4 ∧
  ∃ M4, M4 = nm M q2 ∧
  ∃ h5, h5 = setR h3 a0 0 (some q2) ∧
  ∃ q6, q6 ∉ zL h5 ∧
  ∃ h7, h7 = nh h5 q6 11 4 ∧
  ∃ M8, M8 = nm M4 q6 ∧
  ∃ h9, h9 = setR h7 a0 1 (some q6) ∧
  u = (h9, M8)
theorem e_X3_init_4 {h : Hs} {a0 : Nat} {M : Mm} {u : Hs × Mm} (hn : n_X3_init_4 h a0 M u) {b k : Nat} (g : ok h b k) : ok u.1 b k := by
  unfold n_X3_init_4 at hn
  obtain ⟨q2, hq2, h3, eh3, M4, eM4, h5, eh5, q6, hq6, h7, eh7, M8, eM8, h9, eh9, rfl⟩ := hn
  have g : ok h3 b k := by rw [eh3]; exact ok_nh hq2 g
  have g : ok h5 b k := by rw [eh5]; exact ok_setR g
  have g : ok h7 b k := by rw [eh7]; exact ok_nh hq6 g
  have g : ok h9 b k := by rw [eh9]; exact ok_setR g
  exact g
theorem fr_X3_init_4 {h : Hs} {a0 : Nat} {M : Mm} {u : Hs × Mm} (hn : n_X3_init_4 h a0 M u) {b : Nat} (hb : b ∈ zL h) (n_a0 : b ≠ a0) : Fr b h M u := by
  unfold n_X3_init_4 at hn
  obtain ⟨q2, hq2, h3, eh3, M4, eM4, h5, eh5, q6, hq6, h7, eh7, M8, eM8, h9, eh9, rfl⟩ := hn
  have f : Fr b h M (h, M) := Fr.refl hb
  have n_q2 : b ≠ q2 := fun z => hq2 (z ▸ f.1)
  have f : Fr b h M (h3, M4) := by rw [eh3, eM4]; exact f.nh n_q2
  have f : Fr b h M (h5, M4) := by rw [eh5]; exact f.setR n_a0
  have n_q6 : b ≠ q6 := fun z => hq6 (z ▸ f.1)
  have f : Fr b h M (h7, M8) := by rw [eh7, eM8]; exact f.nh n_q6
  have f : Fr b h M (h9, M8) := by rw [eh9]; exact f.setR n_a0
  exact f
set_option maxHeartbeats 4000000 in
set_option maxRecDepth 100000 in
theorem c_X3_init_4 {l : Launch} {D : va_G} {cy : Nat → ClassId} {h : Hs} {a0 : Nat} {M : Mm} (g_a0 : ok h a0 3) : CtN l D cy yX3_init (wu yX3_init cX3_init 3 none) ({ frames := 1, cells := 2, slots := 8, locals := 12 }) [.ref a0, .int (4 : Int32)] h M (n_X3_init_4 h a0 M) 2 8 := by
  refine enterN (cc := cX3_init) (maxL := 3) (by decide) (Nat.le_of_ble_eq_true rfl) ?_
  intro p e s m args below meth c A ls X hw hr hlk hin hl
  have hl : lv_has ls 3 [(0, .ref a0), (1, .int (4 : Int32))] := hl
  refine lv_aload_n X.1.1 X.1.2.1 dX3_init_0 rfl (lv_at hl 0 rfl) ?_
  refine W.objInit X.1.1 X.1.2.1 X.1.2.2.2.1 (X.1.2.2.2.2 _ um_X3_3) (X.1.2.2.2.2 _ ui_obj) (X.1.2.2.2.2 _ uo_obj) rfl (hl.1.trans X.1.2.2.1.symm) rfl dX3_init_1 (Nat.le_of_ble_eq_true rfl) (Nat.le_of_ble_eq_true rfl) ?_
  refine W.eq (g2 := F0 m 4 ls []) rfl ?_
  refine lv_iload_n X.1.1 X.1.2.1 dX3_init_4 rfl (lv_at hl 1 rfl) ?_
  refine lv_if_ge (tgt := 12) X.1.1 X.1.2.1 dX3_init_5 (by decide) (fun c_1 => ?_) (fun c_1 => ?_)
  rotate_left
  · exact absurd (by decide) c_1
  refine lv_iload_n X.1.1 X.1.2.1 dX3_init_12 rfl (lv_at hl 1 rfl) ?_
  refine lv_istore_n (lv' := [(2, .int (4 : Int32)), (0, .ref a0), (1, .int (4 : Int32))]) X.1.1 X.1.2.1 dX3_init_13 rfl hl (by decide) rfl (fun ls hl => ?_)
  refine lv_aload_n X.1.1 X.1.2.1 dX3_init_14 rfl (lv_at hl 1 rfl) ?_
  refine lv_iload_n X.1.1 X.1.2.1 dX3_init_15 rfl (lv_at hl 0 rfl) ?_
  refine r_newaI (N := 4) X hw (by decide) (by decide) (by decide) (Nat.le_of_ble_eq_true rfl) (Nat.le_of_ble_eq_true rfl) dX3_init_16 (fun q2 H hq2 hw => ?_)
  obtain ⟨h3, eh3⟩ : ∃ x, x = nh h q2 11 4 := ⟨_, rfl⟩
  have g_a0 : ok h3 a0 3 := by rw [eh3]; exact ok_nh hq2 g_a0
  have g_q2 : ok h3 q2 11 := by rw [eh3]; exact nh_ok
  obtain ⟨M4, eM4⟩ : ∃ x, x = nm M q2 := ⟨_, rfl⟩
  rw [← eh3, ← eM4] at hw
  refine r_putqF (k := 3) (j := 0) X hw rfl inX3 tyX3_ok nmX3 g_a0 rfl (by decide) (by decide) uf_X3_9 rfl rfl hin rfl rfl rfl dX3_init_18 (fun H locs hw => ?_)
  obtain ⟨h5, eh5⟩ : ∃ x, x = setR h3 a0 0 (some q2) := ⟨_, rfl⟩
  have g_a0 : ok h5 a0 3 := by rw [eh5]; exact ok_setR g_a0
  have g_q2 : ok h5 q2 11 := by rw [eh5]; exact ok_setR g_q2
  rw [← eh5] at hw
  refine lv_aload_n X.1.1 X.1.2.1 dX3_init_21 rfl (lv_at hl 1 rfl) ?_
  refine lv_iload_n X.1.1 X.1.2.1 dX3_init_22 rfl (lv_at hl 0 rfl) ?_
  refine r_newaI (N := 4) X hw (by decide) (by decide) (by decide) (Nat.le_of_ble_eq_true rfl) (Nat.le_of_ble_eq_true rfl) dX3_init_23 (fun q6 H hq6 hw => ?_)
  obtain ⟨h7, eh7⟩ : ∃ x, x = nh h5 q6 11 4 := ⟨_, rfl⟩
  have g_a0 : ok h7 a0 3 := by rw [eh7]; exact ok_nh hq6 g_a0
  have g_q2 : ok h7 q2 11 := by rw [eh7]; exact ok_nh hq6 g_q2
  have g_q6 : ok h7 q6 11 := by rw [eh7]; exact nh_ok
  obtain ⟨M8, eM8⟩ : ∃ x, x = nm M4 q6 := ⟨_, rfl⟩
  rw [← eh7, ← eM8] at hw
  refine r_putqF (k := 3) (j := 1) X hw rfl inX3 tyX3_ok nmX3 g_a0 rfl (by decide) (by decide) uf_X3_15 rfl rfl hin rfl rfl rfl dX3_init_25 (fun H locs hw => ?_)
  obtain ⟨h9, eh9⟩ : ∃ x, x = setR h7 a0 1 (some q6) := ⟨_, rfl⟩
  have g_a0 : ok h9 a0 3 := by rw [eh9]; exact ok_setR g_a0
  have g_q2 : ok h9 q2 11 := by rw [eh9]; exact ok_setR g_q2
  have g_q6 : ok h9 q6 11 := by rw [eh9]; exact ok_setR g_q6
  rw [← eh9] at hw
  refine W.widen (k := 2) (n := 8) (Nat.le_of_ble_eq_true rfl) (Nat.le_of_ble_eq_true rfl) ?_
  exact r_retN X hw hr hlk ⟨q2, hq2, h3, eh3, M4, eM4, h5, eh5, q6, hq6, h7, eh7, M8, eM8, h9, eh9, rfl⟩ dX3_init_28
/-! X2_init: 9 cells, 37 slots -/
def n_X2_init (h : Hs) (a0 : Nat) (M : Mm) (u : Hs × Mm) : Prop :=
  ∃ q1, q1 ∉ zL h ∧
  ∃ h2, h2 = nh h q1 3 0 ∧
  ∃ M3, M3 = nm M q1 ∧
  ∃ u4 : Hs × Mm, n_X3_init_6 h2 q1 M3 u4 ∧
  ∃ h5, h5 = setR u4.1 a0 0 (some q1) ∧
  ∃ q6, q6 ∉ zL h5 ∧
  ∃ h7, h7 = nh h5 q6 3 0 ∧
  ∃ M8, M8 = nm u4.2 q6 ∧
  ∃ u9 : Hs × Mm, n_X3_init_4 h7 q6 M8 u9 ∧
  ∃ h10, h10 = setR u9.1 a0 1 (some q6) ∧
  ∃ q11, q11 ∉ zL h10 ∧
  ∃ h12, h12 = nh h10 q11 3 0 ∧
  ∃ M13, M13 = nm u9.2 q11 ∧
  ∃ u14 : Hs × Mm, n_X3_init_4 h12 q11 M13 u14 ∧
  ∃ h15, h15 = setR u14.1 a0 2 (some q11) ∧
  ∃ M16, M16 = sI u14.2 a0 3 (-1 : Int32) ∧
  ∃ M17, M17 = sI M16 a0 7 (-1 : Int32) ∧
  u = (h15, M17)
theorem e_X2_init {h : Hs} {a0 : Nat} {M : Mm} {u : Hs × Mm} (hn : n_X2_init h a0 M u) {b k : Nat} (g : ok h b k) : ok u.1 b k := by
  unfold n_X2_init at hn
  obtain ⟨q1, hq1, h2, eh2, M3, eM3, u4, huu4, h5, eh5, q6, hq6, h7, eh7, M8, eM8, u9, huu9, h10, eh10, q11, hq11, h12, eh12, M13, eM13, u14, huu14, h15, eh15, M16, eM16, M17, eM17, rfl⟩ := hn
  have g : ok h2 b k := by rw [eh2]; exact ok_nh hq1 g
  have g : ok u4.1 b k := e_X3_init_6 huu4 g
  have g : ok h5 b k := by rw [eh5]; exact ok_setR g
  have g : ok h7 b k := by rw [eh7]; exact ok_nh hq6 g
  have g : ok u9.1 b k := e_X3_init_4 huu9 g
  have g : ok h10 b k := by rw [eh10]; exact ok_setR g
  have g : ok h12 b k := by rw [eh12]; exact ok_nh hq11 g
  have g : ok u14.1 b k := e_X3_init_4 huu14 g
  have g : ok h15 b k := by rw [eh15]; exact ok_setR g
  exact g
theorem fr_X2_init {h : Hs} {a0 : Nat} {M : Mm} {u : Hs × Mm} (hn : n_X2_init h a0 M u) {b : Nat} (hb : b ∈ zL h) (n_a0 : b ≠ a0) : Fr b h M u := by
  unfold n_X2_init at hn
  obtain ⟨q1, hq1, h2, eh2, M3, eM3, u4, huu4, h5, eh5, q6, hq6, h7, eh7, M8, eM8, u9, huu9, h10, eh10, q11, hq11, h12, eh12, M13, eM13, u14, huu14, h15, eh15, M16, eM16, M17, eM17, rfl⟩ := hn
  have f : Fr b h M (h, M) := Fr.refl hb
  have n_q1 : b ≠ q1 := fun z => hq1 (z ▸ f.1)
  have f : Fr b h M (h2, M3) := by rw [eh2, eM3]; exact f.nh n_q1
  have f : Fr b h M u4 := f.trans (fr_X3_init_6 huu4 f.1 n_q1)
  have f : Fr b h M (h5, u4.2) := by rw [eh5]; exact f.setR n_a0
  have n_q6 : b ≠ q6 := fun z => hq6 (z ▸ f.1)
  have f : Fr b h M (h7, M8) := by rw [eh7, eM8]; exact f.nh n_q6
  have f : Fr b h M u9 := f.trans (fr_X3_init_4 huu9 f.1 n_q6)
  have f : Fr b h M (h10, u9.2) := by rw [eh10]; exact f.setR n_a0
  have n_q11 : b ≠ q11 := fun z => hq11 (z ▸ f.1)
  have f : Fr b h M (h12, M13) := by rw [eh12, eM13]; exact f.nh n_q11
  have f : Fr b h M u14 := f.trans (fr_X3_init_4 huu14 f.1 n_q11)
  have f : Fr b h M (h15, u14.2) := by rw [eh15]; exact f.setR n_a0
  have f : Fr b h M (h15, M16) := by rw [eM16]; exact f.sI n_a0
  have f : Fr b h M (h15, M17) := by rw [eM17]; exact f.sI n_a0
  exact f
set_option maxHeartbeats 4000000 in
set_option maxRecDepth 100000 in
theorem c_X2_init {l : Launch} {D : va_G} {cy : Nat → ClassId} {h : Hs} {a0 : Nat} {M : Mm} (g_a0 : ok h a0 2) : CtN l D cy yX2_init (wu yX2_init cX2_init 1 none) ({ frames := 2, cells := 9, slots := 37, locals := 34 }) [.ref a0] h M (n_X2_init h a0 M) 9 37 := by
  refine enterN (cc := cX2_init) (maxL := 1) (by decide) (Nat.le_of_ble_eq_true rfl) ?_
  intro p e s m args below meth c A ls X hw hr hlk hin hl
  have hl : lv_has ls 1 [(0, .ref a0)] := hl
  refine lv_aload_n X.1.1 X.1.2.1 dX2_init_0 rfl (lv_at hl 0 rfl) ?_
  refine W.objInit X.1.1 X.1.2.1 X.1.2.2.2.1 (X.1.2.2.2.2 _ um_X2_3) (X.1.2.2.2.2 _ ui_obj) (X.1.2.2.2.2 _ uo_obj) rfl (hl.1.trans X.1.2.2.1.symm) rfl dX2_init_1 (Nat.le_of_ble_eq_true rfl) (Nat.le_of_ble_eq_true rfl) ?_
  refine W.eq (g2 := F0 m 4 ls []) rfl ?_
  refine lv_aload_n X.1.1 X.1.2.1 dX2_init_4 rfl (lv_at hl 0 rfl) ?_
  refine r_new (k := 3) X hw rfl inX3 tyX3_ok ul_X2_9 up_X3 un_X3 (by decide) (fun j hj => by rcases (show j = 0 ∨ j = 1 ∨ j = 2 by omega) with rfl | rfl | rfl <;> rfl) (Nat.le_of_ble_eq_true rfl) (Nat.le_of_ble_eq_true rfl) dX2_init_5 (fun q1 H hq1 hw => ?_)
  obtain ⟨h2, eh2⟩ : ∃ x, x = nh h q1 3 0 := ⟨_, rfl⟩
  have g_a0 : ok h2 a0 2 := by rw [eh2]; exact ok_nh hq1 g_a0
  have g_q1 : ok h2 q1 3 := by rw [eh2]; exact nh_ok
  obtain ⟨M3, eM3⟩ : ∃ x, x = nm M q1 := ⟨_, rfl⟩
  rw [← eh2, ← eM3] at hw
  refine lv_dup X.1.1 X.1.2.1 dX2_init_8 rfl ?_
  refine lv_bipush (v := (6 : Int32)) X.1.1 X.1.2.1 dX2_init_9 (by decide) ?_
  refine r_init (As := [.int (6 : Int32)]) (rest := [.ref q1, .ref a0]) X hw (c_X3_init_6 g_q1) (cwI 1 X.1.2.2.2.2 (guN uo_X3_init) rfl rfl rfl (X.1.2.2.2.2 _ un_X3) (X.1.2.2.2.2 _ um_X2_11) (X.1.2.2.2.2 _ ui_X3_init) rfl (by decide +kernel) ⟨Nat.le_of_ble_eq_true rfl, Nat.le_of_ble_eq_true rfl⟩) rfl hl.1 rfl (Nat.le_of_ble_eq_true rfl) dX2_init_11 ⟨Nat.le_of_ble_eq_true rfl, Nat.le_of_ble_eq_true rfl⟩ (fun u4 H locs huu4 hw => ?_)
  have g_a0 : ok u4.1 a0 2 := e_X3_init_6 huu4 g_a0
  have g_q1 : ok u4.1 q1 3 := e_X3_init_6 huu4 g_q1
  refine r_putqF (k := 2) (j := 0) X hw rfl inX2 tyX2_ok nmX2 g_a0 rfl (by decide) (by decide) uf_X2_14 rfl rfl hin rfl rfl rfl dX2_init_14 (fun H locs hw => ?_)
  obtain ⟨h5, eh5⟩ : ∃ x, x = setR u4.1 a0 0 (some q1) := ⟨_, rfl⟩
  have g_a0 : ok h5 a0 2 := by rw [eh5]; exact ok_setR g_a0
  have g_q1 : ok h5 q1 3 := by rw [eh5]; exact ok_setR g_q1
  rw [← eh5] at hw
  refine lv_aload_n X.1.1 X.1.2.1 dX2_init_17 rfl (lv_at hl 0 rfl) ?_
  refine r_new (k := 3) X hw rfl inX3 tyX3_ok ul_X2_9 up_X3 un_X3 (by decide) (fun j hj => by rcases (show j = 0 ∨ j = 1 ∨ j = 2 by omega) with rfl | rfl | rfl <;> rfl) (Nat.le_of_ble_eq_true rfl) (Nat.le_of_ble_eq_true rfl) dX2_init_18 (fun q6 H hq6 hw => ?_)
  obtain ⟨h7, eh7⟩ : ∃ x, x = nh h5 q6 3 0 := ⟨_, rfl⟩
  have g_a0 : ok h7 a0 2 := by rw [eh7]; exact ok_nh hq6 g_a0
  have g_q1 : ok h7 q1 3 := by rw [eh7]; exact ok_nh hq6 g_q1
  have g_q6 : ok h7 q6 3 := by rw [eh7]; exact nh_ok
  obtain ⟨M8, eM8⟩ : ∃ x, x = nm u4.2 q6 := ⟨_, rfl⟩
  rw [← eh7, ← eM8] at hw
  refine lv_dup X.1.1 X.1.2.1 dX2_init_21 rfl ?_
  refine lv_iconst (v := (4 : Int32)) X.1.1 X.1.2.1 dX2_init_22 (by decide) ?_
  refine r_init (As := [.int (4 : Int32)]) (rest := [.ref q6, .ref a0]) X hw (c_X3_init_4 g_q6) (cwI 1 X.1.2.2.2.2 (guN uo_X3_init) rfl rfl rfl (X.1.2.2.2.2 _ un_X3) (X.1.2.2.2.2 _ um_X2_11) (X.1.2.2.2.2 _ ui_X3_init) rfl (by decide +kernel) ⟨Nat.le_of_ble_eq_true rfl, Nat.le_of_ble_eq_true rfl⟩) rfl hl.1 rfl (Nat.le_of_ble_eq_true rfl) dX2_init_23 ⟨Nat.le_of_ble_eq_true rfl, Nat.le_of_ble_eq_true rfl⟩ (fun u9 H locs huu9 hw => ?_)
  have g_a0 : ok u9.1 a0 2 := e_X3_init_4 huu9 g_a0
  have g_q1 : ok u9.1 q1 3 := e_X3_init_4 huu9 g_q1
  have g_q6 : ok u9.1 q6 3 := e_X3_init_4 huu9 g_q6
  refine r_putqF (k := 2) (j := 1) X hw rfl inX2 tyX2_ok nmX2 g_a0 rfl (by decide) (by decide) uf_X2_20 rfl rfl hin rfl rfl rfl dX2_init_26 (fun H locs hw => ?_)
  obtain ⟨h10, eh10⟩ : ∃ x, x = setR u9.1 a0 1 (some q6) := ⟨_, rfl⟩
  have g_a0 : ok h10 a0 2 := by rw [eh10]; exact ok_setR g_a0
  have g_q1 : ok h10 q1 3 := by rw [eh10]; exact ok_setR g_q1
  have g_q6 : ok h10 q6 3 := by rw [eh10]; exact ok_setR g_q6
  rw [← eh10] at hw
  refine lv_aload_n X.1.1 X.1.2.1 dX2_init_29 rfl (lv_at hl 0 rfl) ?_
  refine r_new (k := 3) X hw rfl inX3 tyX3_ok ul_X2_9 up_X3 un_X3 (by decide) (fun j hj => by rcases (show j = 0 ∨ j = 1 ∨ j = 2 by omega) with rfl | rfl | rfl <;> rfl) (Nat.le_of_ble_eq_true rfl) (Nat.le_of_ble_eq_true rfl) dX2_init_30 (fun q11 H hq11 hw => ?_)
  obtain ⟨h12, eh12⟩ : ∃ x, x = nh h10 q11 3 0 := ⟨_, rfl⟩
  have g_a0 : ok h12 a0 2 := by rw [eh12]; exact ok_nh hq11 g_a0
  have g_q1 : ok h12 q1 3 := by rw [eh12]; exact ok_nh hq11 g_q1
  have g_q6 : ok h12 q6 3 := by rw [eh12]; exact ok_nh hq11 g_q6
  have g_q11 : ok h12 q11 3 := by rw [eh12]; exact nh_ok
  obtain ⟨M13, eM13⟩ : ∃ x, x = nm u9.2 q11 := ⟨_, rfl⟩
  rw [← eh12, ← eM13] at hw
  refine lv_dup X.1.1 X.1.2.1 dX2_init_33 rfl ?_
  refine lv_iconst (v := (4 : Int32)) X.1.1 X.1.2.1 dX2_init_34 (by decide) ?_
  refine r_init (As := [.int (4 : Int32)]) (rest := [.ref q11, .ref a0]) X hw (c_X3_init_4 g_q11) (cwI 1 X.1.2.2.2.2 (guN uo_X3_init) rfl rfl rfl (X.1.2.2.2.2 _ un_X3) (X.1.2.2.2.2 _ um_X2_11) (X.1.2.2.2.2 _ ui_X3_init) rfl (by decide +kernel) ⟨Nat.le_of_ble_eq_true rfl, Nat.le_of_ble_eq_true rfl⟩) rfl hl.1 rfl (Nat.le_of_ble_eq_true rfl) dX2_init_35 ⟨Nat.le_of_ble_eq_true rfl, Nat.le_of_ble_eq_true rfl⟩ (fun u14 H locs huu14 hw => ?_)
  have g_a0 : ok u14.1 a0 2 := e_X3_init_4 huu14 g_a0
  have g_q1 : ok u14.1 q1 3 := e_X3_init_4 huu14 g_q1
  have g_q6 : ok u14.1 q6 3 := e_X3_init_4 huu14 g_q6
  have g_q11 : ok u14.1 q11 3 := e_X3_init_4 huu14 g_q11
  refine r_putqF (k := 2) (j := 2) X hw rfl inX2 tyX2_ok nmX2 g_a0 rfl (by decide) (by decide) uf_X2_23 rfl rfl hin rfl rfl rfl dX2_init_38 (fun H locs hw => ?_)
  obtain ⟨h15, eh15⟩ : ∃ x, x = setR u14.1 a0 2 (some q11) := ⟨_, rfl⟩
  have g_a0 : ok h15 a0 2 := by rw [eh15]; exact ok_setR g_a0
  have g_q1 : ok h15 q1 3 := by rw [eh15]; exact ok_setR g_q1
  have g_q6 : ok h15 q6 3 := by rw [eh15]; exact ok_setR g_q6
  have g_q11 : ok h15 q11 3 := by rw [eh15]; exact ok_setR g_q11
  rw [← eh15] at hw
  refine lv_aload_n X.1.1 X.1.2.1 dX2_init_41 rfl (lv_at hl 0 rfl) ?_
  refine lv_iconst (v := (-1 : Int32)) X.1.1 X.1.2.1 dX2_init_42 (by decide) ?_
  refine r_puti (k := 2) (j := 3) X hw rfl inX2 tyX2_ok nmX2 g_a0 rfl (by decide) (by decide) uf_X2_26 rfl rfl rfl rfl dX2_init_43 (fun H locs hw => ?_)
  obtain ⟨M16, eM16⟩ : ∃ x, x = sI u14.2 a0 3 (-1 : Int32) := ⟨_, rfl⟩
  rw [← eM16] at hw
  refine lv_aload_n X.1.1 X.1.2.1 dX2_init_46 rfl (lv_at hl 0 rfl) ?_
  refine lv_iconst (v := (-1 : Int32)) X.1.1 X.1.2.1 dX2_init_47 (by decide) ?_
  refine r_puti (k := 2) (j := 7) X hw rfl inX2 tyX2_ok nmX2 g_a0 rfl (by decide) (by decide) uf_X2_30 rfl rfl rfl rfl dX2_init_48 (fun H locs hw => ?_)
  obtain ⟨M17, eM17⟩ : ∃ x, x = sI M16 a0 7 (-1 : Int32) := ⟨_, rfl⟩
  rw [← eM17] at hw
  refine W.widen (k := 9) (n := 37) (Nat.le_of_ble_eq_true rfl) (Nat.le_of_ble_eq_true rfl) ?_
  exact r_retN X hw hr hlk ⟨q1, hq1, h2, eh2, M3, eM3, u4, huu4, h5, eh5, q6, hq6, h7, eh7, M8, eM8, u9, huu9, h10, eh10, q11, hq11, h12, eh12, M13, eM13, u14, huu14, h15, eh15, M16, eM16, M17, eM17, rfl⟩ dX2_init_51
/-! X6_init: 1 cells, 400 slots -/
def n_X6_init (h : Hs) (a0 : Nat) (M : Mm) (u : Hs × Mm) : Prop :=
  ∃ q1, q1 ∉ zL h ∧
  ∃ h2, h2 = nh h q1 10 400 ∧
  ∃ M3, M3 = nm M q1 ∧
  ∃ h4, h4 = setR h2 a0 0 (some q1) ∧
  u = (h4, M3)
theorem e_X6_init {h : Hs} {a0 : Nat} {M : Mm} {u : Hs × Mm} (hn : n_X6_init h a0 M u) {b k : Nat} (g : ok h b k) : ok u.1 b k := by
  unfold n_X6_init at hn
  obtain ⟨q1, hq1, h2, eh2, M3, eM3, h4, eh4, rfl⟩ := hn
  have g : ok h2 b k := by rw [eh2]; exact ok_nh hq1 g
  have g : ok h4 b k := by rw [eh4]; exact ok_setR g
  exact g
theorem fr_X6_init {h : Hs} {a0 : Nat} {M : Mm} {u : Hs × Mm} (hn : n_X6_init h a0 M u) {b : Nat} (hb : b ∈ zL h) (n_a0 : b ≠ a0) : Fr b h M u := by
  unfold n_X6_init at hn
  obtain ⟨q1, hq1, h2, eh2, M3, eM3, h4, eh4, rfl⟩ := hn
  have f : Fr b h M (h, M) := Fr.refl hb
  have n_q1 : b ≠ q1 := fun z => hq1 (z ▸ f.1)
  have f : Fr b h M (h2, M3) := by rw [eh2, eM3]; exact f.nh n_q1
  have f : Fr b h M (h4, M3) := by rw [eh4]; exact f.setR n_a0
  exact f
set_option maxHeartbeats 4000000 in
set_option maxRecDepth 100000 in
theorem c_X6_init {l : Launch} {D : va_G} {cy : Nat → ClassId} {h : Hs} {a0 : Nat} {M : Mm} (g_a0 : ok h a0 6) : CtN l D cy yX6_init (wu yX6_init cX6_init 1 none) ({ frames := 1, cells := 1, slots := 400, locals := 12 }) [.ref a0] h M (n_X6_init h a0 M) 1 400 := by
  refine enterN (cc := cX6_init) (maxL := 1) (by decide) (Nat.le_of_ble_eq_true rfl) ?_
  intro p e s m args below meth c A ls X hw hr hlk hin hl
  have hl : lv_has ls 1 [(0, .ref a0)] := hl
  refine lv_aload_n X.1.1 X.1.2.1 dX6_init_0 rfl (lv_at hl 0 rfl) ?_
  refine W.objInit X.1.1 X.1.2.1 X.1.2.2.2.1 (X.1.2.2.2.2 _ um_X6_3) (X.1.2.2.2.2 _ ui_obj) (X.1.2.2.2.2 _ uo_obj) rfl (hl.1.trans X.1.2.2.1.symm) rfl dX6_init_1 (Nat.le_of_ble_eq_true rfl) (Nat.le_of_ble_eq_true rfl) ?_
  refine W.eq (g2 := F0 m 4 ls []) rfl ?_
  refine lv_aload_n X.1.1 X.1.2.1 dX6_init_4 rfl (lv_at hl 0 rfl) ?_
  refine lv_sipush (v := (400 : Int32)) X.1.1 X.1.2.1 dX6_init_5 (by decide) ?_
  refine r_newaB (N := 400) X hw (by decide) (by decide) (by decide) (Nat.le_of_ble_eq_true rfl) (Nat.le_of_ble_eq_true rfl) dX6_init_8 (fun q1 H hq1 hw => ?_)
  obtain ⟨h2, eh2⟩ : ∃ x, x = nh h q1 10 400 := ⟨_, rfl⟩
  have g_a0 : ok h2 a0 6 := by rw [eh2]; exact ok_nh hq1 g_a0
  have g_q1 : ok h2 q1 10 := by rw [eh2]; exact nh_ok
  obtain ⟨M3, eM3⟩ : ∃ x, x = nm M q1 := ⟨_, rfl⟩
  rw [← eh2, ← eM3] at hw
  refine r_putqF (k := 6) (j := 0) X hw rfl inX6 tyX6_ok nmX6 g_a0 rfl (by decide) (by decide) uf_X6_9 rfl rfl hin rfl rfl rfl dX6_init_10 (fun H locs hw => ?_)
  obtain ⟨h4, eh4⟩ : ∃ x, x = setR h2 a0 0 (some q1) := ⟨_, rfl⟩
  have g_a0 : ok h4 a0 6 := by rw [eh4]; exact ok_setR g_a0
  have g_q1 : ok h4 q1 10 := by rw [eh4]; exact ok_setR g_q1
  rw [← eh4] at hw
  refine W.widen (k := 1) (n := 400) (Nat.le_of_ble_eq_true rfl) (Nat.le_of_ble_eq_true rfl) ?_
  exact r_retN X hw hr hlk ⟨q1, hq1, h2, eh2, M3, eM3, h4, eh4, rfl⟩ dX6_init_13
/-! X7_init: 1 cells, 7 slots -/
def n_X7_init (h : Hs) (a0 : Nat) (M : Mm) (u : Hs × Mm) : Prop :=
  ∃ q1, q1 ∉ zL h ∧
  ∃ h2, h2 = nh h q1 12 7 ∧
  ∃ M3, M3 = nm M q1 ∧
  ∃ h4, h4 = setR h2 a0 0 (some q1) ∧
  u = (h4, M3)
theorem e_X7_init {h : Hs} {a0 : Nat} {M : Mm} {u : Hs × Mm} (hn : n_X7_init h a0 M u) {b k : Nat} (g : ok h b k) : ok u.1 b k := by
  unfold n_X7_init at hn
  obtain ⟨q1, hq1, h2, eh2, M3, eM3, h4, eh4, rfl⟩ := hn
  have g : ok h2 b k := by rw [eh2]; exact ok_nh hq1 g
  have g : ok h4 b k := by rw [eh4]; exact ok_setR g
  exact g
theorem fr_X7_init {h : Hs} {a0 : Nat} {M : Mm} {u : Hs × Mm} (hn : n_X7_init h a0 M u) {b : Nat} (hb : b ∈ zL h) (n_a0 : b ≠ a0) : Fr b h M u := by
  unfold n_X7_init at hn
  obtain ⟨q1, hq1, h2, eh2, M3, eM3, h4, eh4, rfl⟩ := hn
  have f : Fr b h M (h, M) := Fr.refl hb
  have n_q1 : b ≠ q1 := fun z => hq1 (z ▸ f.1)
  have f : Fr b h M (h2, M3) := by rw [eh2, eM3]; exact f.nh n_q1
  have f : Fr b h M (h4, M3) := by rw [eh4]; exact f.setR n_a0
  exact f
set_option maxHeartbeats 4000000 in
set_option maxRecDepth 100000 in
theorem c_X7_init {l : Launch} {D : va_G} {cy : Nat → ClassId} {h : Hs} {a0 : Nat} {M : Mm} (g_a0 : ok h a0 7) : CtN l D cy yX7_init (wu yX7_init cX7_init 1 none) ({ frames := 1, cells := 1, slots := 7, locals := 12 }) [.ref a0] h M (n_X7_init h a0 M) 1 7 := by
  refine enterN (cc := cX7_init) (maxL := 1) (by decide) (Nat.le_of_ble_eq_true rfl) ?_
  intro p e s m args below meth c A ls X hw hr hlk hin hl
  have hl : lv_has ls 1 [(0, .ref a0)] := hl
  refine lv_aload_n X.1.1 X.1.2.1 dX7_init_0 rfl (lv_at hl 0 rfl) ?_
  refine W.objInit X.1.1 X.1.2.1 X.1.2.2.2.1 (X.1.2.2.2.2 _ um_X7_3) (X.1.2.2.2.2 _ ui_obj) (X.1.2.2.2.2 _ uo_obj) rfl (hl.1.trans X.1.2.2.1.symm) rfl dX7_init_1 (Nat.le_of_ble_eq_true rfl) (Nat.le_of_ble_eq_true rfl) ?_
  refine W.eq (g2 := F0 m 4 ls []) rfl ?_
  refine lv_aload_n X.1.1 X.1.2.1 dX7_init_4 rfl (lv_at hl 0 rfl) ?_
  refine lv_bipush (v := (7 : Int32)) X.1.1 X.1.2.1 dX7_init_5 (by decide) ?_
  refine r_newaJ (N := 7) X hw (by decide) (by decide) (by decide) (Nat.le_of_ble_eq_true rfl) (Nat.le_of_ble_eq_true rfl) dX7_init_7 (fun q1 H hq1 hw => ?_)
  obtain ⟨h2, eh2⟩ : ∃ x, x = nh h q1 12 7 := ⟨_, rfl⟩
  have g_a0 : ok h2 a0 7 := by rw [eh2]; exact ok_nh hq1 g_a0
  have g_q1 : ok h2 q1 12 := by rw [eh2]; exact nh_ok
  obtain ⟨M3, eM3⟩ : ∃ x, x = nm M q1 := ⟨_, rfl⟩
  rw [← eh2, ← eM3] at hw
  refine r_putqF (k := 7) (j := 0) X hw rfl inX7 tyX7_ok nmX7 g_a0 rfl (by decide) (by decide) uf_X7_9 rfl rfl hin rfl rfl rfl dX7_init_9 (fun H locs hw => ?_)
  obtain ⟨h4, eh4⟩ : ∃ x, x = setR h2 a0 0 (some q1) := ⟨_, rfl⟩
  have g_a0 : ok h4 a0 7 := by rw [eh4]; exact ok_setR g_a0
  have g_q1 : ok h4 q1 12 := by rw [eh4]; exact ok_setR g_q1
  rw [← eh4] at hw
  refine W.widen (k := 1) (n := 7) (Nat.le_of_ble_eq_true rfl) (Nat.le_of_ble_eq_true rfl) ?_
  exact r_retN X hw hr hlk ⟨q1, hq1, h2, eh2, M3, eM3, h4, eh4, rfl⟩ dX7_init_12
/-! X1_init: 2 cells, 512 slots -/
def n_X1_init (h : Hs) (a0 : Nat) (M : Mm) (u : Hs × Mm) : Prop :=
  ∃ q1, q1 ∉ zL h ∧
  ∃ h2, h2 = nh h q1 11 256 ∧
  ∃ M3, M3 = nm M q1 ∧
  ∃ h4, h4 = setR h2 a0 0 (some q1) ∧
  ∃ q5, q5 ∉ zL h4 ∧
  ∃ h6, h6 = nh h4 q5 11 256 ∧
  ∃ M7, M7 = nm M3 q5 ∧
  ∃ h8, h8 = setR h6 a0 1 (some q5) ∧
  u = (h8, M7)
theorem e_X1_init {h : Hs} {a0 : Nat} {M : Mm} {u : Hs × Mm} (hn : n_X1_init h a0 M u) {b k : Nat} (g : ok h b k) : ok u.1 b k := by
  unfold n_X1_init at hn
  obtain ⟨q1, hq1, h2, eh2, M3, eM3, h4, eh4, q5, hq5, h6, eh6, M7, eM7, h8, eh8, rfl⟩ := hn
  have g : ok h2 b k := by rw [eh2]; exact ok_nh hq1 g
  have g : ok h4 b k := by rw [eh4]; exact ok_setR g
  have g : ok h6 b k := by rw [eh6]; exact ok_nh hq5 g
  have g : ok h8 b k := by rw [eh8]; exact ok_setR g
  exact g
theorem fr_X1_init {h : Hs} {a0 : Nat} {M : Mm} {u : Hs × Mm} (hn : n_X1_init h a0 M u) {b : Nat} (hb : b ∈ zL h) (n_a0 : b ≠ a0) : Fr b h M u := by
  unfold n_X1_init at hn
  obtain ⟨q1, hq1, h2, eh2, M3, eM3, h4, eh4, q5, hq5, h6, eh6, M7, eM7, h8, eh8, rfl⟩ := hn
  have f : Fr b h M (h, M) := Fr.refl hb
  have n_q1 : b ≠ q1 := fun z => hq1 (z ▸ f.1)
  have f : Fr b h M (h2, M3) := by rw [eh2, eM3]; exact f.nh n_q1
  have f : Fr b h M (h4, M3) := by rw [eh4]; exact f.setR n_a0
  have n_q5 : b ≠ q5 := fun z => hq5 (z ▸ f.1)
  have f : Fr b h M (h6, M7) := by rw [eh6, eM7]; exact f.nh n_q5
  have f : Fr b h M (h8, M7) := by rw [eh8]; exact f.setR n_a0
  exact f
set_option maxHeartbeats 4000000 in
set_option maxRecDepth 100000 in
theorem c_X1_init {l : Launch} {D : va_G} {cy : Nat → ClassId} {h : Hs} {a0 : Nat} {M : Mm} (g_a0 : ok h a0 1) : CtN l D cy yX1_init (wu yX1_init cX1_init 1 none) ({ frames := 1, cells := 2, slots := 512, locals := 12 }) [.ref a0] h M (n_X1_init h a0 M) 2 512 := by
  refine enterN (cc := cX1_init) (maxL := 1) (by decide) (Nat.le_of_ble_eq_true rfl) ?_
  intro p e s m args below meth c A ls X hw hr hlk hin hl
  have hl : lv_has ls 1 [(0, .ref a0)] := hl
  refine lv_aload_n X.1.1 X.1.2.1 dX1_init_0 rfl (lv_at hl 0 rfl) ?_
  refine W.objInit X.1.1 X.1.2.1 X.1.2.2.2.1 (X.1.2.2.2.2 _ um_X1_3) (X.1.2.2.2.2 _ ui_obj) (X.1.2.2.2.2 _ uo_obj) rfl (hl.1.trans X.1.2.2.1.symm) rfl dX1_init_1 (Nat.le_of_ble_eq_true rfl) (Nat.le_of_ble_eq_true rfl) ?_
  refine W.eq (g2 := F0 m 4 ls []) rfl ?_
  refine lv_aload_n X.1.1 X.1.2.1 dX1_init_4 rfl (lv_at hl 0 rfl) ?_
  refine lv_sipush (v := (256 : Int32)) X.1.1 X.1.2.1 dX1_init_5 (by decide) ?_
  refine r_newaI (N := 256) X hw (by decide) (by decide) (by decide) (Nat.le_of_ble_eq_true rfl) (Nat.le_of_ble_eq_true rfl) dX1_init_8 (fun q1 H hq1 hw => ?_)
  obtain ⟨h2, eh2⟩ : ∃ x, x = nh h q1 11 256 := ⟨_, rfl⟩
  have g_a0 : ok h2 a0 1 := by rw [eh2]; exact ok_nh hq1 g_a0
  have g_q1 : ok h2 q1 11 := by rw [eh2]; exact nh_ok
  obtain ⟨M3, eM3⟩ : ∃ x, x = nm M q1 := ⟨_, rfl⟩
  rw [← eh2, ← eM3] at hw
  refine r_putqF (k := 1) (j := 0) X hw rfl inX1 tyX1_ok nmX1 g_a0 rfl (by decide) (by decide) uf_X1_9 rfl rfl hin rfl rfl rfl dX1_init_10 (fun H locs hw => ?_)
  obtain ⟨h4, eh4⟩ : ∃ x, x = setR h2 a0 0 (some q1) := ⟨_, rfl⟩
  have g_a0 : ok h4 a0 1 := by rw [eh4]; exact ok_setR g_a0
  have g_q1 : ok h4 q1 11 := by rw [eh4]; exact ok_setR g_q1
  rw [← eh4] at hw
  refine lv_aload_n X.1.1 X.1.2.1 dX1_init_13 rfl (lv_at hl 0 rfl) ?_
  refine lv_sipush (v := (256 : Int32)) X.1.1 X.1.2.1 dX1_init_14 (by decide) ?_
  refine r_newaI (N := 256) X hw (by decide) (by decide) (by decide) (Nat.le_of_ble_eq_true rfl) (Nat.le_of_ble_eq_true rfl) dX1_init_17 (fun q5 H hq5 hw => ?_)
  obtain ⟨h6, eh6⟩ : ∃ x, x = nh h4 q5 11 256 := ⟨_, rfl⟩
  have g_a0 : ok h6 a0 1 := by rw [eh6]; exact ok_nh hq5 g_a0
  have g_q1 : ok h6 q1 11 := by rw [eh6]; exact ok_nh hq5 g_q1
  have g_q5 : ok h6 q5 11 := by rw [eh6]; exact nh_ok
  obtain ⟨M7, eM7⟩ : ∃ x, x = nm M3 q5 := ⟨_, rfl⟩
  rw [← eh6, ← eM7] at hw
  refine r_putqF (k := 1) (j := 1) X hw rfl inX1 tyX1_ok nmX1 g_a0 rfl (by decide) (by decide) uf_X1_15 rfl rfl hin rfl rfl rfl dX1_init_19 (fun H locs hw => ?_)
  obtain ⟨h8, eh8⟩ : ∃ x, x = setR h6 a0 1 (some q5) := ⟨_, rfl⟩
  have g_a0 : ok h8 a0 1 := by rw [eh8]; exact ok_setR g_a0
  have g_q1 : ok h8 q1 11 := by rw [eh8]; exact ok_setR g_q1
  have g_q5 : ok h8 q5 11 := by rw [eh8]; exact ok_setR g_q5
  rw [← eh8] at hw
  refine W.widen (k := 2) (n := 512) (Nat.le_of_ble_eq_true rfl) (Nat.le_of_ble_eq_true rfl) ?_
  exact r_retN X hw hr hlk ⟨q1, hq1, h2, eh2, M3, eM3, h4, eh4, q5, hq5, h6, eh6, M7, eM7, h8, eh8, rfl⟩ dX1_init_22
/-! X5_init: 6 cells, 1800 slots -/
def n_X5_init (h : Hs) (a0 : Nat) (M : Mm) (u : Hs × Mm) : Prop :=
  ∃ q1, q1 ∉ zL h ∧
  ∃ h2, h2 = nh h q1 11 400 ∧
  ∃ M3, M3 = nm M q1 ∧
  ∃ h4, h4 = setR h2 a0 0 (some q1) ∧
  ∃ q5, q5 ∉ zL h4 ∧
  ∃ h6, h6 = nh h4 q5 11 400 ∧
  ∃ M7, M7 = nm M3 q5 ∧
  ∃ h8, h8 = setR h6 a0 1 (some q5) ∧
  ∃ q9, q9 ∉ zL h8 ∧
  ∃ h10, h10 = nh h8 q9 11 400 ∧
  ∃ M11, M11 = nm M7 q9 ∧
  ∃ h12, h12 = setR h10 a0 2 (some q9) ∧
  ∃ q13, q13 ∉ zL h12 ∧
  ∃ h14, h14 = nh h12 q13 11 200 ∧
  ∃ M15, M15 = nm M11 q13 ∧
  ∃ h16, h16 = setR h14 a0 3 (some q13) ∧
  ∃ q17, q17 ∉ zL h16 ∧
  ∃ h18, h18 = nh h16 q17 11 200 ∧
  ∃ M19, M19 = nm M15 q17 ∧
  ∃ h20, h20 = setR h18 a0 4 (some q17) ∧
  ∃ q21, q21 ∉ zL h20 ∧
  ∃ h22, h22 = nh h20 q21 11 200 ∧
  ∃ M23, M23 = nm M19 q21 ∧
  ∃ h24, h24 = setR h22 a0 5 (some q21) ∧
  u = (h24, M23)
theorem e_X5_init {h : Hs} {a0 : Nat} {M : Mm} {u : Hs × Mm} (hn : n_X5_init h a0 M u) {b k : Nat} (g : ok h b k) : ok u.1 b k := by
  unfold n_X5_init at hn
  obtain ⟨q1, hq1, h2, eh2, M3, eM3, h4, eh4, q5, hq5, h6, eh6, M7, eM7, h8, eh8, q9, hq9, h10, eh10, M11, eM11, h12, eh12, q13, hq13, h14, eh14, M15, eM15, h16, eh16, q17, hq17, h18, eh18, M19, eM19, h20, eh20, q21, hq21, h22, eh22, M23, eM23, h24, eh24, rfl⟩ := hn
  have g : ok h2 b k := by rw [eh2]; exact ok_nh hq1 g
  have g : ok h4 b k := by rw [eh4]; exact ok_setR g
  have g : ok h6 b k := by rw [eh6]; exact ok_nh hq5 g
  have g : ok h8 b k := by rw [eh8]; exact ok_setR g
  have g : ok h10 b k := by rw [eh10]; exact ok_nh hq9 g
  have g : ok h12 b k := by rw [eh12]; exact ok_setR g
  have g : ok h14 b k := by rw [eh14]; exact ok_nh hq13 g
  have g : ok h16 b k := by rw [eh16]; exact ok_setR g
  have g : ok h18 b k := by rw [eh18]; exact ok_nh hq17 g
  have g : ok h20 b k := by rw [eh20]; exact ok_setR g
  have g : ok h22 b k := by rw [eh22]; exact ok_nh hq21 g
  have g : ok h24 b k := by rw [eh24]; exact ok_setR g
  exact g
theorem fr_X5_init {h : Hs} {a0 : Nat} {M : Mm} {u : Hs × Mm} (hn : n_X5_init h a0 M u) {b : Nat} (hb : b ∈ zL h) (n_a0 : b ≠ a0) : Fr b h M u := by
  unfold n_X5_init at hn
  obtain ⟨q1, hq1, h2, eh2, M3, eM3, h4, eh4, q5, hq5, h6, eh6, M7, eM7, h8, eh8, q9, hq9, h10, eh10, M11, eM11, h12, eh12, q13, hq13, h14, eh14, M15, eM15, h16, eh16, q17, hq17, h18, eh18, M19, eM19, h20, eh20, q21, hq21, h22, eh22, M23, eM23, h24, eh24, rfl⟩ := hn
  have f : Fr b h M (h, M) := Fr.refl hb
  have n_q1 : b ≠ q1 := fun z => hq1 (z ▸ f.1)
  have f : Fr b h M (h2, M3) := by rw [eh2, eM3]; exact f.nh n_q1
  have f : Fr b h M (h4, M3) := by rw [eh4]; exact f.setR n_a0
  have n_q5 : b ≠ q5 := fun z => hq5 (z ▸ f.1)
  have f : Fr b h M (h6, M7) := by rw [eh6, eM7]; exact f.nh n_q5
  have f : Fr b h M (h8, M7) := by rw [eh8]; exact f.setR n_a0
  have n_q9 : b ≠ q9 := fun z => hq9 (z ▸ f.1)
  have f : Fr b h M (h10, M11) := by rw [eh10, eM11]; exact f.nh n_q9
  have f : Fr b h M (h12, M11) := by rw [eh12]; exact f.setR n_a0
  have n_q13 : b ≠ q13 := fun z => hq13 (z ▸ f.1)
  have f : Fr b h M (h14, M15) := by rw [eh14, eM15]; exact f.nh n_q13
  have f : Fr b h M (h16, M15) := by rw [eh16]; exact f.setR n_a0
  have n_q17 : b ≠ q17 := fun z => hq17 (z ▸ f.1)
  have f : Fr b h M (h18, M19) := by rw [eh18, eM19]; exact f.nh n_q17
  have f : Fr b h M (h20, M19) := by rw [eh20]; exact f.setR n_a0
  have n_q21 : b ≠ q21 := fun z => hq21 (z ▸ f.1)
  have f : Fr b h M (h22, M23) := by rw [eh22, eM23]; exact f.nh n_q21
  have f : Fr b h M (h24, M23) := by rw [eh24]; exact f.setR n_a0
  exact f
set_option maxHeartbeats 4000000 in
set_option maxRecDepth 100000 in
theorem c_X5_init {l : Launch} {D : va_G} {cy : Nat → ClassId} {h : Hs} {a0 : Nat} {M : Mm} (g_a0 : ok h a0 5) : CtN l D cy yX5_init (wu yX5_init cX5_init 1 none) ({ frames := 1, cells := 6, slots := 1800, locals := 12 }) [.ref a0] h M (n_X5_init h a0 M) 6 1800 := by
  refine enterN (cc := cX5_init) (maxL := 1) (by decide) (Nat.le_of_ble_eq_true rfl) ?_
  intro p e s m args below meth c A ls X hw hr hlk hin hl
  have hl : lv_has ls 1 [(0, .ref a0)] := hl
  refine lv_aload_n X.1.1 X.1.2.1 dX5_init_0 rfl (lv_at hl 0 rfl) ?_
  refine W.objInit X.1.1 X.1.2.1 X.1.2.2.2.1 (X.1.2.2.2.2 _ um_X5_3) (X.1.2.2.2.2 _ ui_obj) (X.1.2.2.2.2 _ uo_obj) rfl (hl.1.trans X.1.2.2.1.symm) rfl dX5_init_1 (Nat.le_of_ble_eq_true rfl) (Nat.le_of_ble_eq_true rfl) ?_
  refine W.eq (g2 := F0 m 4 ls []) rfl ?_
  refine lv_aload_n X.1.1 X.1.2.1 dX5_init_4 rfl (lv_at hl 0 rfl) ?_
  refine lv_sipush (v := (400 : Int32)) X.1.1 X.1.2.1 dX5_init_5 (by decide) ?_
  refine r_newaI (N := 400) X hw (by decide) (by decide) (by decide) (Nat.le_of_ble_eq_true rfl) (Nat.le_of_ble_eq_true rfl) dX5_init_8 (fun q1 H hq1 hw => ?_)
  obtain ⟨h2, eh2⟩ : ∃ x, x = nh h q1 11 400 := ⟨_, rfl⟩
  have g_a0 : ok h2 a0 5 := by rw [eh2]; exact ok_nh hq1 g_a0
  have g_q1 : ok h2 q1 11 := by rw [eh2]; exact nh_ok
  obtain ⟨M3, eM3⟩ : ∃ x, x = nm M q1 := ⟨_, rfl⟩
  rw [← eh2, ← eM3] at hw
  refine r_putqF (k := 5) (j := 0) X hw rfl inX5 tyX5_ok nmX5 g_a0 rfl (by decide) (by decide) uf_X5_9 rfl rfl hin rfl rfl rfl dX5_init_10 (fun H locs hw => ?_)
  obtain ⟨h4, eh4⟩ : ∃ x, x = setR h2 a0 0 (some q1) := ⟨_, rfl⟩
  have g_a0 : ok h4 a0 5 := by rw [eh4]; exact ok_setR g_a0
  have g_q1 : ok h4 q1 11 := by rw [eh4]; exact ok_setR g_q1
  rw [← eh4] at hw
  refine lv_aload_n X.1.1 X.1.2.1 dX5_init_13 rfl (lv_at hl 0 rfl) ?_
  refine lv_sipush (v := (400 : Int32)) X.1.1 X.1.2.1 dX5_init_14 (by decide) ?_
  refine r_newaI (N := 400) X hw (by decide) (by decide) (by decide) (Nat.le_of_ble_eq_true rfl) (Nat.le_of_ble_eq_true rfl) dX5_init_17 (fun q5 H hq5 hw => ?_)
  obtain ⟨h6, eh6⟩ : ∃ x, x = nh h4 q5 11 400 := ⟨_, rfl⟩
  have g_a0 : ok h6 a0 5 := by rw [eh6]; exact ok_nh hq5 g_a0
  have g_q1 : ok h6 q1 11 := by rw [eh6]; exact ok_nh hq5 g_q1
  have g_q5 : ok h6 q5 11 := by rw [eh6]; exact nh_ok
  obtain ⟨M7, eM7⟩ : ∃ x, x = nm M3 q5 := ⟨_, rfl⟩
  rw [← eh6, ← eM7] at hw
  refine r_putqF (k := 5) (j := 1) X hw rfl inX5 tyX5_ok nmX5 g_a0 rfl (by decide) (by decide) uf_X5_15 rfl rfl hin rfl rfl rfl dX5_init_19 (fun H locs hw => ?_)
  obtain ⟨h8, eh8⟩ : ∃ x, x = setR h6 a0 1 (some q5) := ⟨_, rfl⟩
  have g_a0 : ok h8 a0 5 := by rw [eh8]; exact ok_setR g_a0
  have g_q1 : ok h8 q1 11 := by rw [eh8]; exact ok_setR g_q1
  have g_q5 : ok h8 q5 11 := by rw [eh8]; exact ok_setR g_q5
  rw [← eh8] at hw
  refine lv_aload_n X.1.1 X.1.2.1 dX5_init_22 rfl (lv_at hl 0 rfl) ?_
  refine lv_sipush (v := (400 : Int32)) X.1.1 X.1.2.1 dX5_init_23 (by decide) ?_
  refine r_newaI (N := 400) X hw (by decide) (by decide) (by decide) (Nat.le_of_ble_eq_true rfl) (Nat.le_of_ble_eq_true rfl) dX5_init_26 (fun q9 H hq9 hw => ?_)
  obtain ⟨h10, eh10⟩ : ∃ x, x = nh h8 q9 11 400 := ⟨_, rfl⟩
  have g_a0 : ok h10 a0 5 := by rw [eh10]; exact ok_nh hq9 g_a0
  have g_q1 : ok h10 q1 11 := by rw [eh10]; exact ok_nh hq9 g_q1
  have g_q5 : ok h10 q5 11 := by rw [eh10]; exact ok_nh hq9 g_q5
  have g_q9 : ok h10 q9 11 := by rw [eh10]; exact nh_ok
  obtain ⟨M11, eM11⟩ : ∃ x, x = nm M7 q9 := ⟨_, rfl⟩
  rw [← eh10, ← eM11] at hw
  refine r_putqF (k := 5) (j := 2) X hw rfl inX5 tyX5_ok nmX5 g_a0 rfl (by decide) (by decide) uf_X5_18 rfl rfl hin rfl rfl rfl dX5_init_28 (fun H locs hw => ?_)
  obtain ⟨h12, eh12⟩ : ∃ x, x = setR h10 a0 2 (some q9) := ⟨_, rfl⟩
  have g_a0 : ok h12 a0 5 := by rw [eh12]; exact ok_setR g_a0
  have g_q1 : ok h12 q1 11 := by rw [eh12]; exact ok_setR g_q1
  have g_q5 : ok h12 q5 11 := by rw [eh12]; exact ok_setR g_q5
  have g_q9 : ok h12 q9 11 := by rw [eh12]; exact ok_setR g_q9
  rw [← eh12] at hw
  refine lv_aload_n X.1.1 X.1.2.1 dX5_init_31 rfl (lv_at hl 0 rfl) ?_
  refine lv_sipush (v := (200 : Int32)) X.1.1 X.1.2.1 dX5_init_32 (by decide) ?_
  refine r_newaI (N := 200) X hw (by decide) (by decide) (by decide) (Nat.le_of_ble_eq_true rfl) (Nat.le_of_ble_eq_true rfl) dX5_init_35 (fun q13 H hq13 hw => ?_)
  obtain ⟨h14, eh14⟩ : ∃ x, x = nh h12 q13 11 200 := ⟨_, rfl⟩
  have g_a0 : ok h14 a0 5 := by rw [eh14]; exact ok_nh hq13 g_a0
  have g_q1 : ok h14 q1 11 := by rw [eh14]; exact ok_nh hq13 g_q1
  have g_q5 : ok h14 q5 11 := by rw [eh14]; exact ok_nh hq13 g_q5
  have g_q9 : ok h14 q9 11 := by rw [eh14]; exact ok_nh hq13 g_q9
  have g_q13 : ok h14 q13 11 := by rw [eh14]; exact nh_ok
  obtain ⟨M15, eM15⟩ : ∃ x, x = nm M11 q13 := ⟨_, rfl⟩
  rw [← eh14, ← eM15] at hw
  refine r_putqF (k := 5) (j := 3) X hw rfl inX5 tyX5_ok nmX5 g_a0 rfl (by decide) (by decide) uf_X5_21 rfl rfl hin rfl rfl rfl dX5_init_37 (fun H locs hw => ?_)
  obtain ⟨h16, eh16⟩ : ∃ x, x = setR h14 a0 3 (some q13) := ⟨_, rfl⟩
  have g_a0 : ok h16 a0 5 := by rw [eh16]; exact ok_setR g_a0
  have g_q1 : ok h16 q1 11 := by rw [eh16]; exact ok_setR g_q1
  have g_q5 : ok h16 q5 11 := by rw [eh16]; exact ok_setR g_q5
  have g_q9 : ok h16 q9 11 := by rw [eh16]; exact ok_setR g_q9
  have g_q13 : ok h16 q13 11 := by rw [eh16]; exact ok_setR g_q13
  rw [← eh16] at hw
  refine lv_aload_n X.1.1 X.1.2.1 dX5_init_40 rfl (lv_at hl 0 rfl) ?_
  refine lv_sipush (v := (200 : Int32)) X.1.1 X.1.2.1 dX5_init_41 (by decide) ?_
  refine r_newaI (N := 200) X hw (by decide) (by decide) (by decide) (Nat.le_of_ble_eq_true rfl) (Nat.le_of_ble_eq_true rfl) dX5_init_44 (fun q17 H hq17 hw => ?_)
  obtain ⟨h18, eh18⟩ : ∃ x, x = nh h16 q17 11 200 := ⟨_, rfl⟩
  have g_a0 : ok h18 a0 5 := by rw [eh18]; exact ok_nh hq17 g_a0
  have g_q1 : ok h18 q1 11 := by rw [eh18]; exact ok_nh hq17 g_q1
  have g_q5 : ok h18 q5 11 := by rw [eh18]; exact ok_nh hq17 g_q5
  have g_q9 : ok h18 q9 11 := by rw [eh18]; exact ok_nh hq17 g_q9
  have g_q13 : ok h18 q13 11 := by rw [eh18]; exact ok_nh hq17 g_q13
  have g_q17 : ok h18 q17 11 := by rw [eh18]; exact nh_ok
  obtain ⟨M19, eM19⟩ : ∃ x, x = nm M15 q17 := ⟨_, rfl⟩
  rw [← eh18, ← eM19] at hw
  refine r_putqF (k := 5) (j := 4) X hw rfl inX5 tyX5_ok nmX5 g_a0 rfl (by decide) (by decide) uf_X5_24 rfl rfl hin rfl rfl rfl dX5_init_46 (fun H locs hw => ?_)
  obtain ⟨h20, eh20⟩ : ∃ x, x = setR h18 a0 4 (some q17) := ⟨_, rfl⟩
  have g_a0 : ok h20 a0 5 := by rw [eh20]; exact ok_setR g_a0
  have g_q1 : ok h20 q1 11 := by rw [eh20]; exact ok_setR g_q1
  have g_q5 : ok h20 q5 11 := by rw [eh20]; exact ok_setR g_q5
  have g_q9 : ok h20 q9 11 := by rw [eh20]; exact ok_setR g_q9
  have g_q13 : ok h20 q13 11 := by rw [eh20]; exact ok_setR g_q13
  have g_q17 : ok h20 q17 11 := by rw [eh20]; exact ok_setR g_q17
  rw [← eh20] at hw
  refine lv_aload_n X.1.1 X.1.2.1 dX5_init_49 rfl (lv_at hl 0 rfl) ?_
  refine lv_sipush (v := (200 : Int32)) X.1.1 X.1.2.1 dX5_init_50 (by decide) ?_
  refine r_newaI (N := 200) X hw (by decide) (by decide) (by decide) (Nat.le_of_ble_eq_true rfl) (Nat.le_of_ble_eq_true rfl) dX5_init_53 (fun q21 H hq21 hw => ?_)
  obtain ⟨h22, eh22⟩ : ∃ x, x = nh h20 q21 11 200 := ⟨_, rfl⟩
  have g_a0 : ok h22 a0 5 := by rw [eh22]; exact ok_nh hq21 g_a0
  have g_q1 : ok h22 q1 11 := by rw [eh22]; exact ok_nh hq21 g_q1
  have g_q5 : ok h22 q5 11 := by rw [eh22]; exact ok_nh hq21 g_q5
  have g_q9 : ok h22 q9 11 := by rw [eh22]; exact ok_nh hq21 g_q9
  have g_q13 : ok h22 q13 11 := by rw [eh22]; exact ok_nh hq21 g_q13
  have g_q17 : ok h22 q17 11 := by rw [eh22]; exact ok_nh hq21 g_q17
  have g_q21 : ok h22 q21 11 := by rw [eh22]; exact nh_ok
  obtain ⟨M23, eM23⟩ : ∃ x, x = nm M19 q21 := ⟨_, rfl⟩
  rw [← eh22, ← eM23] at hw
  refine r_putqF (k := 5) (j := 5) X hw rfl inX5 tyX5_ok nmX5 g_a0 rfl (by decide) (by decide) uf_X5_27 rfl rfl hin rfl rfl rfl dX5_init_55 (fun H locs hw => ?_)
  obtain ⟨h24, eh24⟩ : ∃ x, x = setR h22 a0 5 (some q21) := ⟨_, rfl⟩
  have g_a0 : ok h24 a0 5 := by rw [eh24]; exact ok_setR g_a0
  have g_q1 : ok h24 q1 11 := by rw [eh24]; exact ok_setR g_q1
  have g_q5 : ok h24 q5 11 := by rw [eh24]; exact ok_setR g_q5
  have g_q9 : ok h24 q9 11 := by rw [eh24]; exact ok_setR g_q9
  have g_q13 : ok h24 q13 11 := by rw [eh24]; exact ok_setR g_q13
  have g_q17 : ok h24 q17 11 := by rw [eh24]; exact ok_setR g_q17
  have g_q21 : ok h24 q21 11 := by rw [eh24]; exact ok_setR g_q21
  rw [← eh24] at hw
  refine W.widen (k := 6) (n := 1800) (Nat.le_of_ble_eq_true rfl) (Nat.le_of_ble_eq_true rfl) ?_
  exact r_retN X hw hr hlk ⟨q1, hq1, h2, eh2, M3, eM3, h4, eh4, q5, hq5, h6, eh6, M7, eM7, h8, eh8, q9, hq9, h10, eh10, M11, eM11, h12, eh12, q13, hq13, h14, eh14, M15, eM15, h16, eh16, q17, hq17, h18, eh18, M19, eM19, h20, eh20, q21, hq21, h22, eh22, M23, eM23, h24, eh24, rfl⟩ dX5_init_58
