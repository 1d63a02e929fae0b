/-! X8_init: 173 cells, 8628 slots -/
def n_X8_init (h : Hs) (a0 : Nat) (M : Mm) (u : Hs × Mm) : Prop :=
  ∃ q1, q1 ∉ zL h ∧
  ∃ h2, h2 = nh h q1 6 0 ∧
  ∃ M3, M3 = nm M q1 ∧
  ∃ u4 : Hs × Mm, n_X6_init h2 q1 M3 u4 ∧
  ∃ h5, h5 = setR u4.1 a0 0 (some q1) ∧
  ∃ q6, q6 ∉ zL h5 ∧
  ∃ h7, h7 = nh h5 q6 0 0 ∧
  ∃ M8, M8 = nm u4.2 q6 ∧
  ∃ u9 : Hs × Mm, n_X0_init h7 q6 M8 u9 ∧
  ∃ h10, h10 = setR u9.1 a0 1 (some q6) ∧
  ∃ q11, q11 ∉ zL h10 ∧
  ∃ h12, h12 = nh h10 q11 5 0 ∧
  ∃ M13, M13 = nm u9.2 q11 ∧
  ∃ u14 : Hs × Mm, n_X5_init h12 q11 M13 u14 ∧
  ∃ h15, h15 = setR u14.1 a0 2 (some q11) ∧
  ∃ q16, q16 ∉ zL h15 ∧
  ∃ h17, h17 = nh h15 q16 7 0 ∧
  ∃ M18, M18 = nm u14.2 q16 ∧
  ∃ u19 : Hs × Mm, n_X7_init h17 q16 M18 u19 ∧
  ∃ h20, h20 = setR u19.1 a0 3 (some q16) ∧
  ∃ q21, q21 ∉ zL h20 ∧
  ∃ h22, h22 = nh h20 q21 1 0 ∧
  ∃ M23, M23 = nm u19.2 q21 ∧
  ∃ u24 : Hs × Mm, n_X1_init h22 q21 M23 u24 ∧
  ∃ h25, h25 = setR u24.1 a0 4 (some q21) ∧
  ∃ q26, q26 ∉ zL h25 ∧
  ∃ h27, h27 = nh h25 q26 4 0 ∧
  ∃ M28, M28 = nm u24.2 q26 ∧
  ∃ u29 : Hs × Mm, n_X4_init h27 q26 M28 u29 ∧
  ∃ h30, h30 = setR u29.1 a0 6 (some q26) ∧
  ∃ q31, q31 ∉ zL h30 ∧
  ∃ h32, h32 = nh h30 q31 2 0 ∧
  ∃ M33, M33 = nm u29.2 q31 ∧
  ∃ u34 : Hs × Mm, n_X2_init h32 q31 M33 u34 ∧
  ∃ h35, h35 = setR u34.1 a0 7 (some q31) ∧
  ∃ M36, M36 = sI u34.2 a0 8 (-1 : Int32) ∧
  ∃ M37, M37 = sI M36 a0 9 (-1 : Int32) ∧
  u = (h35, M37)
theorem e_X8_init {h : Hs} {a0 : Nat} {M : Mm} {u : Hs × Mm} (hn : n_X8_init h a0 M u) {b k : Nat} (g : ok h b k) : ok u.1 b k := by
  unfold n_X8_init at hn
  obtain ⟨q1, hq1, h2, eh2, M3, eM3, u4, huu4, h5, eh5, q6, hq6, h7, eh7, M8, eM8, u9, huu9, h10, eh10, q11, hq11, h12, eh12, M13, eM13, u14, huu14, h15, eh15, q16, hq16, h17, eh17, M18, eM18, u19, huu19, h20, eh20, q21, hq21, h22, eh22, M23, eM23, u24, huu24, h25, eh25, q26, hq26, h27, eh27, M28, eM28, u29, huu29, h30, eh30, q31, hq31, h32, eh32, M33, eM33, u34, huu34, h35, eh35, M36, eM36, M37, eM37, rfl⟩ := hn
  have g : ok h2 b k := by rw [eh2]; exact ok_nh hq1 g
  have g : ok u4.1 b k := e_X6_init huu4 g
  have g : ok h5 b k := by rw [eh5]; exact ok_setR g
  have g : ok h7 b k := by rw [eh7]; exact ok_nh hq6 g
  have g : ok u9.1 b k := e_X0_init huu9 (by rw [eh7]; exact nh_ok) g
  have g : ok h10 b k := by rw [eh10]; exact ok_setR g
  have g : ok h12 b k := by rw [eh12]; exact ok_nh hq11 g
  have g : ok u14.1 b k := e_X5_init huu14 g
  have g : ok h15 b k := by rw [eh15]; exact ok_setR g
  have g : ok h17 b k := by rw [eh17]; exact ok_nh hq16 g
  have g : ok u19.1 b k := e_X7_init huu19 g
  have g : ok h20 b k := by rw [eh20]; exact ok_setR g
  have g : ok h22 b k := by rw [eh22]; exact ok_nh hq21 g
  have g : ok u24.1 b k := e_X1_init huu24 g
  have g : ok h25 b k := by rw [eh25]; exact ok_setR g
  have g : ok h27 b k := by rw [eh27]; exact ok_nh hq26 g
  have g : ok u29.1 b k := e_X4_init huu29 g
  have g : ok h30 b k := by rw [eh30]; exact ok_setR g
  have g : ok h32 b k := by rw [eh32]; exact ok_nh hq31 g
  have g : ok u34.1 b k := e_X2_init huu34 g
  have g : ok h35 b k := by rw [eh35]; exact ok_setR g
  exact g
theorem fr_X8_init {h : Hs} {a0 : Nat} {M : Mm} {u : Hs × Mm} (hn : n_X8_init h a0 M u) {b : Nat} (hb : b ∈ zL h) (n_a0 : b ≠ a0) : Fr b h M u := by
  unfold n_X8_init at hn
  obtain ⟨q1, hq1, h2, eh2, M3, eM3, u4, huu4, h5, eh5, q6, hq6, h7, eh7, M8, eM8, u9, huu9, h10, eh10, q11, hq11, h12, eh12, M13, eM13, u14, huu14, h15, eh15, q16, hq16, h17, eh17, M18, eM18, u19, huu19, h20, eh20, q21, hq21, h22, eh22, M23, eM23, u24, huu24, h25, eh25, q26, hq26, h27, eh27, M28, eM28, u29, huu29, h30, eh30, q31, hq31, h32, eh32, M33, eM33, u34, huu34, h35, eh35, M36, eM36, M37, eM37, rfl⟩ := hn
  have f : Fr b h M (h, M) := Fr.refl hb
  have n_q1 : b ≠ q1 := fun z => hq1 (z ▸ f.1)
  have f : Fr b h M (h2, M3) := by rw [eh2, eM3]; exact f.nh n_q1
  have f : Fr b h M u4 := f.trans (fr_X6_init huu4 f.1 n_q1)
  have f : Fr b h M (h5, u4.2) := by rw [eh5]; exact f.setR n_a0
  have n_q6 : b ≠ q6 := fun z => hq6 (z ▸ f.1)
  have f : Fr b h M (h7, M8) := by rw [eh7, eM8]; exact f.nh n_q6
  have f : Fr b h M u9 := f.trans (fr_X0_init huu9 f.1 n_q6)
  have f : Fr b h M (h10, u9.2) := by rw [eh10]; exact f.setR n_a0
  have n_q11 : b ≠ q11 := fun z => hq11 (z ▸ f.1)
  have f : Fr b h M (h12, M13) := by rw [eh12, eM13]; exact f.nh n_q11
  have f : Fr b h M u14 := f.trans (fr_X5_init huu14 f.1 n_q11)
  have f : Fr b h M (h15, u14.2) := by rw [eh15]; exact f.setR n_a0
  have n_q16 : b ≠ q16 := fun z => hq16 (z ▸ f.1)
  have f : Fr b h M (h17, M18) := by rw [eh17, eM18]; exact f.nh n_q16
  have f : Fr b h M u19 := f.trans (fr_X7_init huu19 f.1 n_q16)
  have f : Fr b h M (h20, u19.2) := by rw [eh20]; exact f.setR n_a0
  have n_q21 : b ≠ q21 := fun z => hq21 (z ▸ f.1)
  have f : Fr b h M (h22, M23) := by rw [eh22, eM23]; exact f.nh n_q21
  have f : Fr b h M u24 := f.trans (fr_X1_init huu24 f.1 n_q21)
  have f : Fr b h M (h25, u24.2) := by rw [eh25]; exact f.setR n_a0
  have n_q26 : b ≠ q26 := fun z => hq26 (z ▸ f.1)
  have f : Fr b h M (h27, M28) := by rw [eh27, eM28]; exact f.nh n_q26
  have f : Fr b h M u29 := f.trans (fr_X4_init huu29 f.1 n_q26)
  have f : Fr b h M (h30, u29.2) := by rw [eh30]; exact f.setR n_a0
  have n_q31 : b ≠ q31 := fun z => hq31 (z ▸ f.1)
  have f : Fr b h M (h32, M33) := by rw [eh32, eM33]; exact f.nh n_q31
  have f : Fr b h M u34 := f.trans (fr_X2_init huu34 f.1 n_q31)
  have f : Fr b h M (h35, u34.2) := by rw [eh35]; exact f.setR n_a0
  have f : Fr b h M (h35, M36) := by rw [eM36]; exact f.sI n_a0
  have f : Fr b h M (h35, M37) := by rw [eM37]; exact f.sI n_a0
  exact f
set_option maxHeartbeats 4000000 in
set_option maxRecDepth 100000 in
theorem c_X8_init {l : Launch} {D : va_G} {cy : Nat → ClassId} {h : Hs} {a0 : Nat} {M : Mm} (g_a0 : ok h a0 8) : CtN l D cy yX8_init (wu yX8_init cX8_init 1 none) ({ frames := 4, cells := 173, slots := 8628, locals := 81 }) [.ref a0] h M (n_X8_init h a0 M) 173 8628 := by
  refine enterN (cc := cX8_init) (maxL := 1) (by decide) (Nat.le_of_ble_eq_true rfl) ?_
  intro p e s m args below meth c A ls X hw hr hlk hin hl
  have hl : lv_has ls 1 [(0, .ref a0)] := hl
  refine lv_aload_n X.1.1 X.1.2.1 dX8_init_0 rfl (lv_at hl 0 rfl) ?_
  refine W.objInit X.1.1 X.1.2.1 X.1.2.2.2.1 (X.1.2.2.2.2 _ um_X8_3) (X.1.2.2.2.2 _ ui_obj) (X.1.2.2.2.2 _ uo_obj) rfl (hl.1.trans X.1.2.2.1.symm) rfl dX8_init_1 (Nat.le_of_ble_eq_true rfl) (Nat.le_of_ble_eq_true rfl) ?_
  refine W.eq (g2 := F0 m 4 ls []) rfl ?_
  refine lv_aload_n X.1.1 X.1.2.1 dX8_init_4 rfl (lv_at hl 0 rfl) ?_
  refine r_new (k := 6) X hw rfl inX6 tyX6_ok ul_X8_9 up_X6 un_X6 (by decide) (fun j hj => by rcases (show j = 0 ∨ j = 1 by omega) with rfl | rfl <;> rfl) (Nat.le_of_ble_eq_true rfl) (Nat.le_of_ble_eq_true rfl) dX8_init_5 (fun q1 H hq1 hw => ?_)
  obtain ⟨h2, eh2⟩ : ∃ x, x = nh h q1 6 0 := ⟨_, rfl⟩
  have g_a0 : ok h2 a0 8 := by rw [eh2]; exact ok_nh hq1 g_a0
  have g_q1 : ok h2 q1 6 := by rw [eh2]; exact nh_ok
  obtain ⟨M3, eM3⟩ : ∃ x, x = nm M q1 := ⟨_, rfl⟩
  rw [← eh2, ← eM3] at hw
  refine lv_dup X.1.1 X.1.2.1 dX8_init_8 rfl ?_
  refine r_initN (host := RX8) (As := []) (rest := [.ref q1, .ref a0]) X hw (c_X6_init g_q1) ⟨va_cnB 0 X.1.2.2.2.2 (guN uo_X6_init) rfl rfl rfl (X.2.2.1.1 _ (List.mem_of_getElem? (i := 0) rfl)) (X.1.2.2.2.2 _ un_X6) (by decide +kernel) ⟨Nat.le_of_ble_eq_true rfl, Nat.le_of_ble_eq_true rfl⟩, rfl, X.1.2.2.2.2 _ ui_X6_init⟩ rfl hl.1 rfl (Nat.le_of_ble_eq_true rfl) dX8_init_9 ⟨Nat.le_of_ble_eq_true rfl, Nat.le_of_ble_eq_true rfl⟩ (fun u4 H locs huu4 hw => ?_)
  have g_a0 : ok u4.1 a0 8 := e_X6_init huu4 g_a0
  have g_q1 : ok u4.1 q1 6 := e_X6_init huu4 g_q1
  refine r_putqF (k := 8) (j := 0) X hw rfl inX8 tyX8_ok nmX8 g_a0 rfl (by decide) (by decide) uf_X8_12 rfl rfl hin rfl rfl rfl dX8_init_12 (fun H locs hw => ?_)
  obtain ⟨h5, eh5⟩ : ∃ x, x = setR u4.1 a0 0 (some q1) := ⟨_, rfl⟩
  have g_a0 : ok h5 a0 8 := by rw [eh5]; exact ok_setR g_a0
  have g_q1 : ok h5 q1 6 := by rw [eh5]; exact ok_setR g_q1
  rw [← eh5] at hw
  refine lv_aload_n X.1.1 X.1.2.1 dX8_init_15 rfl (lv_at hl 0 rfl) ?_
  refine r_new (k := 0) X hw rfl inX0 tyX0_ok ul_X8_16 up_X0 un_X0 (by decide) (fun j hj => by rcases (show j = 0 ∨ j = 1 by omega) with rfl | rfl <;> rfl) (Nat.le_of_ble_eq_true rfl) (Nat.le_of_ble_eq_true rfl) dX8_init_16 (fun q6 H hq6 hw => ?_)
  obtain ⟨h7, eh7⟩ : ∃ x, x = nh h5 q6 0 0 := ⟨_, rfl⟩
  have g_a0 : ok h7 a0 8 := by rw [eh7]; exact ok_nh hq6 g_a0
  have g_q1 : ok h7 q1 6 := by rw [eh7]; exact ok_nh hq6 g_q1
  have g_q6 : ok h7 q6 0 := by rw [eh7]; exact nh_ok
  obtain ⟨M8, eM8⟩ : ∃ x, x = nm u4.2 q6 := ⟨_, rfl⟩
  rw [← eh7, ← eM8] at hw
  refine lv_dup X.1.1 X.1.2.1 dX8_init_19 rfl ?_
  refine r_init (As := []) (rest := [.ref q6, .ref a0]) X hw (c_X0_init g_q6) (cwI 0 X.1.2.2.2.2 (guN uo_X0_init) rfl rfl rfl (X.1.2.2.2.2 _ un_X0) (X.1.2.2.2.2 _ um_X8_18) (X.1.2.2.2.2 _ ui_X0_init) rfl (by decide +kernel) ⟨Nat.le_of_ble_eq_true rfl, Nat.le_of_ble_eq_true rfl⟩) rfl hl.1 rfl (Nat.le_of_ble_eq_true rfl) dX8_init_20 ⟨Nat.le_of_ble_eq_true rfl, Nat.le_of_ble_eq_true rfl⟩ (fun u9 H locs huu9 hw => ?_)
  have gB : ok h7 q6 0 := g_q6
  have g_a0 : ok u9.1 a0 8 := e_X0_init huu9 gB g_a0
  have g_q1 : ok u9.1 q1 6 := e_X0_init huu9 gB g_q1
  have g_q6 : ok u9.1 q6 0 := e_X0_init huu9 gB g_q6
  refine r_putqF (k := 8) (j := 1) X hw rfl inX8 tyX8_ok nmX8 g_a0 rfl (by decide) (by decide) uf_X8_19 rfl rfl hin rfl rfl rfl dX8_init_23 (fun H locs hw => ?_)
  obtain ⟨h10, eh10⟩ : ∃ x, x = setR u9.1 a0 1 (some q6) := ⟨_, rfl⟩
  have g_a0 : ok h10 a0 8 := by rw [eh10]; exact ok_setR g_a0
  have g_q1 : ok h10 q1 6 := by rw [eh10]; exact ok_setR g_q1
  have g_q6 : ok h10 q6 0 := by rw [eh10]; exact ok_setR g_q6
  rw [← eh10] at hw
  refine lv_aload_n X.1.1 X.1.2.1 dX8_init_26 rfl (lv_at hl 0 rfl) ?_
  refine r_new (k := 5) X hw rfl inX5 tyX5_ok ul_X8_23 up_X5 un_X5 (by decide) (fun j hj => by rcases (show j = 0 ∨ j = 1 ∨ j = 2 ∨ j = 3 ∨ j = 4 ∨ j = 5 ∨ j = 6 ∨ j = 7 ∨ j = 8 ∨ j = 9 ∨ j = 10 ∨ j = 11 by omega) with rfl | rfl | rfl | rfl | rfl | rfl | rfl | rfl | rfl | rfl | rfl | rfl <;> rfl) (Nat.le_of_ble_eq_true rfl) (Nat.le_of_ble_eq_true rfl) dX8_init_27 (fun q11 H hq11 hw => ?_)
  obtain ⟨h12, eh12⟩ : ∃ x, x = nh h10 q11 5 0 := ⟨_, rfl⟩
  have g_a0 : ok h12 a0 8 := by rw [eh12]; exact ok_nh hq11 g_a0
  have g_q1 : ok h12 q1 6 := by rw [eh12]; exact ok_nh hq11 g_q1
  have g_q6 : ok h12 q6 0 := by rw [eh12]; exact ok_nh hq11 g_q6
  have g_q11 : ok h12 q11 5 := by rw [eh12]; exact nh_ok
  obtain ⟨M13, eM13⟩ : ∃ x, x = nm u9.2 q11 := ⟨_, rfl⟩
  rw [← eh12, ← eM13] at hw
  refine lv_dup X.1.1 X.1.2.1 dX8_init_30 rfl ?_
  refine r_initN (host := RX8) (As := []) (rest := [.ref q11, .ref a0]) X hw (c_X5_init g_q11) ⟨va_cnB 0 X.1.2.2.2.2 (guN uo_X5_init) rfl rfl rfl (X.2.2.1.1 _ (List.mem_of_getElem? (i := 3) rfl)) (X.1.2.2.2.2 _ un_X5) (by decide +kernel) ⟨Nat.le_of_ble_eq_true rfl, Nat.le_of_ble_eq_true rfl⟩, rfl, X.1.2.2.2.2 _ ui_X5_init⟩ rfl hl.1 rfl (Nat.le_of_ble_eq_true rfl) dX8_init_31 ⟨Nat.le_of_ble_eq_true rfl, Nat.le_of_ble_eq_true rfl⟩ (fun u14 H locs huu14 hw => ?_)
  have g_a0 : ok u14.1 a0 8 := e_X5_init huu14 g_a0
  have g_q1 : ok u14.1 q1 6 := e_X5_init huu14 g_q1
  have g_q6 : ok u14.1 q6 0 := e_X5_init huu14 g_q6
  have g_q11 : ok u14.1 q11 5 := e_X5_init huu14 g_q11
  refine r_putqF (k := 8) (j := 2) X hw rfl inX8 tyX8_ok nmX8 g_a0 rfl (by decide) (by decide) uf_X8_26 rfl rfl hin rfl rfl rfl dX8_init_34 (fun H locs hw => ?_)
  obtain ⟨h15, eh15⟩ : ∃ x, x = setR u14.1 a0 2 (some q11) := ⟨_, rfl⟩
  have g_a0 : ok h15 a0 8 := by rw [eh15]; exact ok_setR g_a0
  have g_q1 : ok h15 q1 6 := by rw [eh15]; exact ok_setR g_q1
  have g_q6 : ok h15 q6 0 := by rw [eh15]; exact ok_setR g_q6
  have g_q11 : ok h15 q11 5 := by rw [eh15]; exact ok_setR g_q11
  rw [← eh15] at hw
  refine lv_aload_n X.1.1 X.1.2.1 dX8_init_37 rfl (lv_at hl 0 rfl) ?_
  refine r_new (k := 7) X hw rfl inX7 tyX7_ok ul_X8_30 up_X7 un_X7 (by decide) (fun j hj => by rcases (show j = 0 ∨ j = 1 ∨ j = 2 ∨ j = 3 by omega) with rfl | rfl | rfl | rfl <;> rfl) (Nat.le_of_ble_eq_true rfl) (Nat.le_of_ble_eq_true rfl) dX8_init_38 (fun q16 H hq16 hw => ?_)
  obtain ⟨h17, eh17⟩ : ∃ x, x = nh h15 q16 7 0 := ⟨_, rfl⟩
  have g_a0 : ok h17 a0 8 := by rw [eh17]; exact ok_nh hq16 g_a0
  have g_q1 : ok h17 q1 6 := by rw [eh17]; exact ok_nh hq16 g_q1
  have g_q6 : ok h17 q6 0 := by rw [eh17]; exact ok_nh hq16 g_q6
  have g_q11 : ok h17 q11 5 := by rw [eh17]; exact ok_nh hq16 g_q11
  have g_q16 : ok h17 q16 7 := by rw [eh17]; exact nh_ok
  obtain ⟨M18, eM18⟩ : ∃ x, x = nm u14.2 q16 := ⟨_, rfl⟩
  rw [← eh17, ← eM18] at hw
  refine lv_dup X.1.1 X.1.2.1 dX8_init_41 rfl ?_
  refine r_initN (host := RX8) (As := []) (rest := [.ref q16, .ref a0]) X hw (c_X7_init g_q16) ⟨va_cnB 0 X.1.2.2.2.2 (guN uo_X7_init) rfl rfl rfl (X.2.2.1.1 _ (List.mem_of_getElem? (i := 4) rfl)) (X.1.2.2.2.2 _ un_X7) (by decide +kernel) ⟨Nat.le_of_ble_eq_true rfl, Nat.le_of_ble_eq_true rfl⟩, rfl, X.1.2.2.2.2 _ ui_X7_init⟩ rfl hl.1 rfl (Nat.le_of_ble_eq_true rfl) dX8_init_42 ⟨Nat.le_of_ble_eq_true rfl, Nat.le_of_ble_eq_true rfl⟩ (fun u19 H locs huu19 hw => ?_)
  have g_a0 : ok u19.1 a0 8 := e_X7_init huu19 g_a0
  have g_q1 : ok u19.1 q1 6 := e_X7_init huu19 g_q1
  have g_q6 : ok u19.1 q6 0 := e_X7_init huu19 g_q6
  have g_q11 : ok u19.1 q11 5 := e_X7_init huu19 g_q11
  have g_q16 : ok u19.1 q16 7 := e_X7_init huu19 g_q16
  refine r_putqF (k := 8) (j := 3) X hw rfl inX8 tyX8_ok nmX8 g_a0 rfl (by decide) (by decide) uf_X8_33 rfl rfl hin rfl rfl rfl dX8_init_45 (fun H locs hw => ?_)
  obtain ⟨h20, eh20⟩ : ∃ x, x = setR u19.1 a0 3 (some q16) := ⟨_, rfl⟩
  have g_a0 : ok h20 a0 8 := by rw [eh20]; exact ok_setR g_a0
  have g_q1 : ok h20 q1 6 := by rw [eh20]; exact ok_setR g_q1
  have g_q6 : ok h20 q6 0 := by rw [eh20]; exact ok_setR g_q6
  have g_q11 : ok h20 q11 5 := by rw [eh20]; exact ok_setR g_q11
  have g_q16 : ok h20 q16 7 := by rw [eh20]; exact ok_setR g_q16
  rw [← eh20] at hw
  refine lv_aload_n X.1.1 X.1.2.1 dX8_init_48 rfl (lv_at hl 0 rfl) ?_
  refine r_new (k := 1) X hw rfl inX1 tyX1_ok ul_X8_37 up_X1 un_X1 (by decide) (fun j hj => by rcases (show j = 0 ∨ j = 1 by omega) with rfl | rfl <;> rfl) (Nat.le_of_ble_eq_true rfl) (Nat.le_of_ble_eq_true rfl) dX8_init_49 (fun q21 H hq21 hw => ?_)
  obtain ⟨h22, eh22⟩ : ∃ x, x = nh h20 q21 1 0 := ⟨_, rfl⟩
  have g_a0 : ok h22 a0 8 := by rw [eh22]; exact ok_nh hq21 g_a0
  have g_q1 : ok h22 q1 6 := by rw [eh22]; exact ok_nh hq21 g_q1
  have g_q6 : ok h22 q6 0 := by rw [eh22]; exact ok_nh hq21 g_q6
  have g_q11 : ok h22 q11 5 := by rw [eh22]; exact ok_nh hq21 g_q11
  have g_q16 : ok h22 q16 7 := by rw [eh22]; exact ok_nh hq21 g_q16
  have g_q21 : ok h22 q21 1 := by rw [eh22]; exact nh_ok
  obtain ⟨M23, eM23⟩ : ∃ x, x = nm u19.2 q21 := ⟨_, rfl⟩
  rw [← eh22, ← eM23] at hw
  refine lv_dup X.1.1 X.1.2.1 dX8_init_52 rfl ?_
  refine r_initN (host := RX8) (As := []) (rest := [.ref q21, .ref a0]) X hw (c_X1_init g_q21) ⟨va_cnB 0 X.1.2.2.2.2 (guN uo_X1_init) rfl rfl rfl (X.2.2.1.1 _ (List.mem_of_getElem? (i := 5) rfl)) (X.1.2.2.2.2 _ un_X1) (by decide +kernel) ⟨Nat.le_of_ble_eq_true rfl, Nat.le_of_ble_eq_true rfl⟩, rfl, X.1.2.2.2.2 _ ui_X1_init⟩ rfl hl.1 rfl (Nat.le_of_ble_eq_true rfl) dX8_init_53 ⟨Nat.le_of_ble_eq_true rfl, Nat.le_of_ble_eq_true rfl⟩ (fun u24 H locs huu24 hw => ?_)
  have g_a0 : ok u24.1 a0 8 := e_X1_init huu24 g_a0
  have g_q1 : ok u24.1 q1 6 := e_X1_init huu24 g_q1
  have g_q6 : ok u24.1 q6 0 := e_X1_init huu24 g_q6
  have g_q11 : ok u24.1 q11 5 := e_X1_init huu24 g_q11
  have g_q16 : ok u24.1 q16 7 := e_X1_init huu24 g_q16
  have g_q21 : ok u24.1 q21 1 := e_X1_init huu24 g_q21
  refine r_putqF (k := 8) (j := 4) X hw rfl inX8 tyX8_ok nmX8 g_a0 rfl (by decide) (by decide) uf_X8_40 rfl rfl hin rfl rfl rfl dX8_init_56 (fun H locs hw => ?_)
  obtain ⟨h25, eh25⟩ : ∃ x, x = setR u24.1 a0 4 (some q21) := ⟨_, rfl⟩
  have g_a0 : ok h25 a0 8 := by rw [eh25]; exact ok_setR g_a0
  have g_q1 : ok h25 q1 6 := by rw [eh25]; exact ok_setR g_q1
  have g_q6 : ok h25 q6 0 := by rw [eh25]; exact ok_setR g_q6
  have g_q11 : ok h25 q11 5 := by rw [eh25]; exact ok_setR g_q11
  have g_q16 : ok h25 q16 7 := by rw [eh25]; exact ok_setR g_q16
  have g_q21 : ok h25 q21 1 := by rw [eh25]; exact ok_setR g_q21
  rw [← eh25] at hw
  refine lv_aload_n X.1.1 X.1.2.1 dX8_init_59 rfl (lv_at hl 0 rfl) ?_
  refine r_new (k := 4) X hw rfl inX4 tyX4_ok ul_X8_44 up_X4 un_X4 (by decide) (fun j hj => by rcases (show j = 0 ∨ j = 1 ∨ j = 2 ∨ j = 3 ∨ j = 4 by omega) with rfl | rfl | rfl | rfl | rfl <;> rfl) (Nat.le_of_ble_eq_true rfl) (Nat.le_of_ble_eq_true rfl) dX8_init_60 (fun q26 H hq26 hw => ?_)
  obtain ⟨h27, eh27⟩ : ∃ x, x = nh h25 q26 4 0 := ⟨_, rfl⟩
  have g_a0 : ok h27 a0 8 := by rw [eh27]; exact ok_nh hq26 g_a0
  have g_q1 : ok h27 q1 6 := by rw [eh27]; exact ok_nh hq26 g_q1
  have g_q6 : ok h27 q6 0 := by rw [eh27]; exact ok_nh hq26 g_q6
  have g_q11 : ok h27 q11 5 := by rw [eh27]; exact ok_nh hq26 g_q11
  have g_q16 : ok h27 q16 7 := by rw [eh27]; exact ok_nh hq26 g_q16
  have g_q21 : ok h27 q21 1 := by rw [eh27]; exact ok_nh hq26 g_q21
  have g_q26 : ok h27 q26 4 := by rw [eh27]; exact nh_ok
  obtain ⟨M28, eM28⟩ : ∃ x, x = nm u24.2 q26 := ⟨_, rfl⟩
  rw [← eh27, ← eM28] at hw
  refine lv_dup X.1.1 X.1.2.1 dX8_init_63 rfl ?_
  refine r_initN (host := RX8) (As := []) (rest := [.ref q26, .ref a0]) X hw (c_X4_init g_q26) ⟨va_cnB 0 X.1.2.2.2.2 (guN uo_X4_init) rfl rfl rfl (X.2.2.1.1 _ (List.mem_of_getElem? (i := 6) rfl)) (X.1.2.2.2.2 _ un_X4) (by decide +kernel) ⟨Nat.le_of_ble_eq_true rfl, Nat.le_of_ble_eq_true rfl⟩, rfl, X.1.2.2.2.2 _ ui_X4_init⟩ rfl hl.1 rfl (Nat.le_of_ble_eq_true rfl) dX8_init_64 ⟨Nat.le_of_ble_eq_true rfl, Nat.le_of_ble_eq_true rfl⟩ (fun u29 H locs huu29 hw => ?_)
  have g_a0 : ok u29.1 a0 8 := e_X4_init huu29 g_a0
  have g_q1 : ok u29.1 q1 6 := e_X4_init huu29 g_q1
  have g_q6 : ok u29.1 q6 0 := e_X4_init huu29 g_q6
  have g_q11 : ok u29.1 q11 5 := e_X4_init huu29 g_q11
  have g_q16 : ok u29.1 q16 7 := e_X4_init huu29 g_q16
  have g_q21 : ok u29.1 q21 1 := e_X4_init huu29 g_q21
  have g_q26 : ok u29.1 q26 4 := e_X4_init huu29 g_q26
  refine r_putqF (k := 8) (j := 6) X hw rfl inX8 tyX8_ok nmX8 g_a0 rfl (by decide) (by decide) uf_X8_47 rfl rfl hin rfl rfl rfl dX8_init_67 (fun H locs hw => ?_)
  obtain ⟨h30, eh30⟩ : ∃ x, x = setR u29.1 a0 6 (some q26) := ⟨_, rfl⟩
  have g_a0 : ok h30 a0 8 := by rw [eh30]; exact ok_setR g_a0
  have g_q1 : ok h30 q1 6 := by rw [eh30]; exact ok_setR g_q1
  have g_q6 : ok h30 q6 0 := by rw [eh30]; exact ok_setR g_q6
  have g_q11 : ok h30 q11 5 := by rw [eh30]; exact ok_setR g_q11
  have g_q16 : ok h30 q16 7 := by rw [eh30]; exact ok_setR g_q16
  have g_q21 : ok h30 q21 1 := by rw [eh30]; exact ok_setR g_q21
  have g_q26 : ok h30 q26 4 := by rw [eh30]; exact ok_setR g_q26
  rw [← eh30] at hw
  refine lv_aload_n X.1.1 X.1.2.1 dX8_init_70 rfl (lv_at hl 0 rfl) ?_
  refine r_new (k := 2) X hw rfl inX2 tyX2_ok ul_X8_51 up_X2 un_X2 (by decide) (fun j hj => by rcases (show j = 0 ∨ j = 1 ∨ j = 2 ∨ j = 3 ∨ j = 4 ∨ j = 5 ∨ j = 6 ∨ j = 7 ∨ j = 8 by omega) with rfl | rfl | rfl | rfl | rfl | rfl | rfl | rfl | rfl <;> rfl) (Nat.le_of_ble_eq_true rfl) (Nat.le_of_ble_eq_true rfl) dX8_init_71 (fun q31 H hq31 hw => ?_)
  obtain ⟨h32, eh32⟩ : ∃ x, x = nh h30 q31 2 0 := ⟨_, rfl⟩
  have g_a0 : ok h32 a0 8 := by rw [eh32]; exact ok_nh hq31 g_a0
  have g_q1 : ok h32 q1 6 := by rw [eh32]; exact ok_nh hq31 g_q1
  have g_q6 : ok h32 q6 0 := by rw [eh32]; exact ok_nh hq31 g_q6
  have g_q11 : ok h32 q11 5 := by rw [eh32]; exact ok_nh hq31 g_q11
  have g_q16 : ok h32 q16 7 := by rw [eh32]; exact ok_nh hq31 g_q16
  have g_q21 : ok h32 q21 1 := by rw [eh32]; exact ok_nh hq31 g_q21
  have g_q26 : ok h32 q26 4 := by rw [eh32]; exact ok_nh hq31 g_q26
  have g_q31 : ok h32 q31 2 := by rw [eh32]; exact nh_ok
  obtain ⟨M33, eM33⟩ : ∃ x, x = nm u29.2 q31 := ⟨_, rfl⟩
  rw [← eh32, ← eM33] at hw
  refine lv_dup X.1.1 X.1.2.1 dX8_init_74 rfl ?_
  refine r_initN (host := RX8) (As := []) (rest := [.ref q31, .ref a0]) X hw (c_X2_init g_q31) ⟨va_cnB 0 X.1.2.2.2.2 (guN uo_X2_init) rfl rfl rfl (X.2.2.1.1 _ (List.mem_of_getElem? (i := 7) rfl)) (X.1.2.2.2.2 _ un_X2) (by decide +kernel) ⟨Nat.le_of_ble_eq_true rfl, Nat.le_of_ble_eq_true rfl⟩, rfl, X.1.2.2.2.2 _ ui_X2_init⟩ rfl hl.1 rfl (Nat.le_of_ble_eq_true rfl) dX8_init_75 ⟨Nat.le_of_ble_eq_true rfl, Nat.le_of_ble_eq_true rfl⟩ (fun u34 H locs huu34 hw => ?_)
  have g_a0 : ok u34.1 a0 8 := e_X2_init huu34 g_a0
  have g_q1 : ok u34.1 q1 6 := e_X2_init huu34 g_q1
  have g_q6 : ok u34.1 q6 0 := e_X2_init huu34 g_q6
  have g_q11 : ok u34.1 q11 5 := e_X2_init huu34 g_q11
  have g_q16 : ok u34.1 q16 7 := e_X2_init huu34 g_q16
  have g_q21 : ok u34.1 q21 1 := e_X2_init huu34 g_q21
  have g_q26 : ok u34.1 q26 4 := e_X2_init huu34 g_q26
  have g_q31 : ok u34.1 q31 2 := e_X2_init huu34 g_q31
  refine r_putqF (k := 8) (j := 7) X hw rfl inX8 tyX8_ok nmX8 g_a0 rfl (by decide) (by decide) uf_X8_54 rfl rfl hin rfl rfl rfl dX8_init_78 (fun H locs hw => ?_)
  obtain ⟨h35, eh35⟩ : ∃ x, x = setR u34.1 a0 7 (some q31) := ⟨_, rfl⟩
  have g_a0 : ok h35 a0 8 := by rw [eh35]; exact ok_setR g_a0
  have g_q1 : ok h35 q1 6 := by rw [eh35]; exact ok_setR g_q1
  have g_q6 : ok h35 q6 0 := by rw [eh35]; exact ok_setR g_q6
  have g_q11 : ok h35 q11 5 := by rw [eh35]; exact ok_setR g_q11
  have g_q16 : ok h35 q16 7 := by rw [eh35]; exact ok_setR g_q16
  have g_q21 : ok h35 q21 1 := by rw [eh35]; exact ok_setR g_q21
  have g_q26 : ok h35 q26 4 := by rw [eh35]; exact ok_setR g_q26
  have g_q31 : ok h35 q31 2 := by rw [eh35]; exact ok_setR g_q31
  rw [← eh35] at hw
  refine lv_aload_n X.1.1 X.1.2.1 dX8_init_81 rfl (lv_at hl 0 rfl) ?_
  refine lv_iconst (v := (-1 : Int32)) X.1.1 X.1.2.1 dX8_init_82 (by decide) ?_
  refine r_puti (k := 8) (j := 8) X hw rfl inX8 tyX8_ok nmX8 g_a0 rfl (by decide) (by decide) uf_X8_58 rfl rfl rfl rfl dX8_init_83 (fun H locs hw => ?_)
  obtain ⟨M36, eM36⟩ : ∃ x, x = sI u34.2 a0 8 (-1 : Int32) := ⟨_, rfl⟩
  rw [← eM36] at hw
  refine lv_aload_n X.1.1 X.1.2.1 dX8_init_86 rfl (lv_at hl 0 rfl) ?_
  refine lv_iconst (v := (-1 : Int32)) X.1.1 X.1.2.1 dX8_init_87 (by decide) ?_
  refine r_puti (k := 8) (j := 9) X hw rfl inX8 tyX8_ok nmX8 g_a0 rfl (by decide) (by decide) uf_X8_62 rfl rfl rfl rfl dX8_init_88 (fun H locs hw => ?_)
  obtain ⟨M37, eM37⟩ : ∃ x, x = sI M36 a0 9 (-1 : Int32) := ⟨_, rfl⟩
  rw [← eM37] at hw
  refine W.widen (k := 173) (n := 8628) (Nat.le_of_ble_eq_true rfl) (Nat.le_of_ble_eq_true rfl) ?_
  exact r_retN X hw hr hlk ⟨q1, hq1, h2, eh2, M3, eM3, u4, huu4, h5, eh5, q6, hq6, h7, eh7, M8, eM8, u9, huu9, h10, eh10, q11, hq11, h12, eh12, M13, eM13, u14, huu14, h15, eh15, q16, hq16, h17, eh17, M18, eM18, u19, huu19, h20, eh20, q21, hq21, h22, eh22, M23, eM23, u24, huu24, h25, eh25, q26, hq26, h27, eh27, M28, eM28, u29, huu29, h30, eh30, q31, hq31, h32, eh32, M33, eM33, u34, huu34, h35, eh35, M36, eM36, M37, eM37, rfl⟩ dX8_init_91
def lp_X9_init_122 (h : Hs) (a0 : Nat) : Nat → Int32 → Mm → Option (Int32 × Mm)
  | 0, _, _ => none
  | n + 1, v1, M =>
    if (12 : Int32) ≤ v1 then
      some (v1, M)
    else
      dq (zR h a0 1) fun q2 =>
      gd (ok h q2 11) <|
      gd (inb ((404 : Int32) * v1) (zN h q2)) <|
      lt_ (sI M q2 ((404 : Int32) * v1).toNatClampNeg (-1 : Int32)) fun M4 =>
      gd (inb (((4848 : Int32) + ((40 : Int32) * v1)) + (0 : Int32)) (zN h q2)) <|
      lt_ (sI M4 q2 (((4848 : Int32) + ((40 : Int32) * v1)) + (0 : Int32)).toNatClampNeg (-1 : Int32)) fun M6 =>
      gd (inb (((4848 : Int32) + ((40 : Int32) * v1)) + (26 : Int32)) (zN h q2)) <|
      lt_ (sI M6 q2 (((4848 : Int32) + ((40 : Int32) * v1)) + (26 : Int32)).toNatClampNeg (-1 : Int32)) fun M8 =>
      lt_ (v1 + (1 : Int32)) fun x9 =>
      lp_X9_init_122 h a0 n x9 M8
set_option maxHeartbeats 4000000 in
set_option maxRecDepth 100000 in
theorem wlp_X9_init_122 {l : Launch} {D : va_G} {cy : Nat → ClassId} {h : Hs} {a0 : Nat} {p : Program} {R : Room} {e : Env} {s : State} {m : MethodId} {args : Array Value} {below : List Frame} {meth : Method} {c : Code} {A : Nat → Prop} {cells slots : Nat} (X : Cx p s m args c cX9_init 2 gtbl RX9 D cy A) {Q : State → Prop} (g_a0 : ok h a0 9) : ∀ (n : Nat) (v1 : Int32) (M : Mm) (z : (Int32 × Mm)) (H : Heap) (locs : List Loc) (ls : Array Slot), lp_X9_init_122 h a0 n v1 M = some z → Wd D cy A s.heap h M H locs → lv_has ls 2 [(1, .int v1), (0, .ref a0)] → (∀ x : (Int32 × Mm), z = x → ∀ (H : Heap) (locs : List Loc) (ls : Array Slot), Wd D cy A s.heap h x.2 H locs → lv_has ls 2 [(1, .int x.1), (0, .ref a0)] → W p l e R s m args below meth c H locs cells slots Q (F0 m 178 ls [])) → W p l e R s m args below meth c H locs cells slots Q (F0 m 122 ls []) := by
  intro n
  induction n with
  | zero => intro v1 M z H locs ls hf hw hl kx; exact absurd hf (by intro q; cases q)
  | succ n ih =>
    intro v1 M z H locs ls hf hw hl kx
    unfold lp_X9_init_122 at hf
    refine lv_iload_n X.1.1 X.1.2.1 dX9_init_122 rfl (lv_at hl 0 rfl) ?_
    refine lv_bipush (v := (12 : Int32)) X.1.1 X.1.2.1 dX9_init_123 (by decide) ?_
    refine lv_icmp_ge (tgt := 178) X.1.1 X.1.2.1 dX9_init_125 (by decide) (fun c_1 => ?_) (fun c_1 => ?_)
    · skip
      rw [if_pos c_1] at hf
      cases hf
      exact kx _ rfl _ _ _ hw (lv_sub hl [0, 1] rfl)
    · skip
      rw [if_neg c_1] at hf
      refine lv_aload_n X.1.1 X.1.2.1 dX9_init_128 rfl (lv_at hl 1 rfl) ?_
      obtain ⟨q2, eq2, hf⟩ := odq hf
      refine r_getq (k := 9) (j := 1) X hw rfl inX9 g_a0 rfl (by decide) (by decide) uf_X9_13 rfl dX9_init_129 eq2 ?_
      refine lv_sipush (v := (404 : Int32)) X.1.1 X.1.2.1 dX9_init_132 (by decide) ?_
      refine lv_iload_n X.1.1 X.1.2.1 dX9_init_135 rfl (lv_at hl 0 rfl) ?_
      refine lv_imul X.1.1 X.1.2.1 dX9_init_136 ?_
      refine lv_iconst (v := (-1 : Int32)) X.1.1 X.1.2.1 dX9_init_137 (by decide) ?_
      obtain ⟨g_q2, hf⟩ := ogd hf
      obtain ⟨i_3, hf⟩ := ogd hf
      refine r_iast X hw g_q2 i_3 dX9_init_138 (fun H locs hw => ?_)
      obtain ⟨M4, eM4, hf⟩ := olt hf
      rw [← eM4] at hw
      refine lv_aload_n X.1.1 X.1.2.1 dX9_init_139 rfl (lv_at hl 1 rfl) ?_
      refine r_getq (k := 9) (j := 1) X hw rfl inX9 g_a0 rfl (by decide) (by decide) uf_X9_13 rfl dX9_init_140 eq2 ?_
      refine lv_sipush (v := (4848 : Int32)) X.1.1 X.1.2.1 dX9_init_143 (by decide) ?_
      refine lv_bipush (v := (40 : Int32)) X.1.1 X.1.2.1 dX9_init_146 (by decide) ?_
      refine lv_iload_n X.1.1 X.1.2.1 dX9_init_148 rfl (lv_at hl 0 rfl) ?_
      refine lv_imul X.1.1 X.1.2.1 dX9_init_149 ?_
      refine lv_iadd X.1.1 X.1.2.1 dX9_init_150 ?_
      refine lv_iconst (v := (0 : Int32)) X.1.1 X.1.2.1 dX9_init_151 (by decide) ?_
      refine lv_iadd X.1.1 X.1.2.1 dX9_init_152 ?_
      refine lv_iconst (v := (-1 : Int32)) X.1.1 X.1.2.1 dX9_init_153 (by decide) ?_
      obtain ⟨i_5, hf⟩ := ogd hf
      refine r_iast X hw g_q2 i_5 dX9_init_154 (fun H locs hw => ?_)
      obtain ⟨M6, eM6, hf⟩ := olt hf
      rw [← eM6] at hw
      refine lv_aload_n X.1.1 X.1.2.1 dX9_init_155 rfl (lv_at hl 1 rfl) ?_
      refine r_getq (k := 9) (j := 1) X hw rfl inX9 g_a0 rfl (by decide) (by decide) uf_X9_13 rfl dX9_init_156 eq2 ?_
      refine lv_sipush (v := (4848 : Int32)) X.1.1 X.1.2.1 dX9_init_159 (by decide) ?_
      refine lv_bipush (v := (40 : Int32)) X.1.1 X.1.2.1 dX9_init_162 (by decide) ?_
      refine lv_iload_n X.1.1 X.1.2.1 dX9_init_164 rfl (lv_at hl 0 rfl) ?_
      refine lv_imul X.1.1 X.1.2.1 dX9_init_165 ?_
      refine lv_iadd X.1.1 X.1.2.1 dX9_init_166 ?_
      refine lv_bipush (v := (26 : Int32)) X.1.1 X.1.2.1 dX9_init_167 (by decide) ?_
      refine lv_iadd X.1.1 X.1.2.1 dX9_init_169 ?_
      refine lv_iconst (v := (-1 : Int32)) X.1.1 X.1.2.1 dX9_init_170 (by decide) ?_
      obtain ⟨i_7, hf⟩ := ogd hf
      refine r_iast X hw g_q2 i_7 dX9_init_171 (fun H locs hw => ?_)
      obtain ⟨M8, eM8, hf⟩ := olt hf
      rw [← eM8] at hw
      obtain ⟨x9, ex9, hf⟩ := olt hf
      refine lv_iinc (v := x9) (lv' := [(1, .int x9), (0, .ref a0)]) X.1.1 X.1.2.1 dX9_init_172 hl (k := 0) rfl (by rw [ex9]; rfl) (by decide) rfl (fun ls hl => ?_)
      refine lv_goto (tgt := 122) X.1.1 X.1.2.1 dX9_init_175 (by decide) ?_
      exact ih _ _ _ _ _ _ hf hw (lv_sub hl [0, 1] rfl) kx
