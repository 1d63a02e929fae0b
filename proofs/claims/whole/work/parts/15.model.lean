theorem zR_setRj {h : Hs} {a j i : Nat} {r : Option Nat} (hj : i ≠ j) : zR (setR h a j r) a i = zR h a i := by simp [zR, setR, up2, hj]
theorem m_init_loop {h : Hs} {a0 q : Nat} (hR : zR h a0 1 = some q) (g : ok h q 11) (hN : zN h q = 5328) : ∀ (n i f : Nat) (M : Mm), i + n = 12 → n < f → ∃ z, lp_X9_init_122 h a0 f (nI i) M = some z := by
  intro n
  induction n with
  | zero =>
    intro i f M hi hf
    obtain ⟨f, rfl⟩ : ∃ k, f = k + 1 := ⟨f - 1, by omega⟩
    obtain rfl : i = 12 := by omega
    exact ⟨_, by unfold lp_X9_init_122; rw [if_pos (by decide)]⟩
  | succ n ih =>
    intro i f M hi hf
    obtain ⟨f, rfl⟩ : ∃ k, f = k + 1 := ⟨f - 1, by omega⟩
    have hlt : i < 12 := by omega
    unfold lp_X9_init_122
    rw [if_neg (show ¬ (12 : Int32) ≤ nI i from nI_ge hlt (by decide)), hR]
    have b1 : inb ((404 : Int32) * nI i) 5328 := by
      rcases (show i = 0 ∨ i = 1 ∨ i = 2 ∨ i = 3 ∨ i = 4 ∨ i = 5 ∨ i = 6 ∨ i = 7 ∨ i = 8 ∨ i = 9 ∨ i = 10 ∨ i = 11 by omega) with rfl | rfl | rfl | rfl | rfl | rfl | rfl | rfl | rfl | rfl | rfl | rfl <;> decide
    have b2 : inb (((4848 : Int32) + ((40 : Int32) * nI i)) + (0 : Int32)) 5328 := by
      rcases (show i = 0 ∨ i = 1 ∨ i = 2 ∨ i = 3 ∨ i = 4 ∨ i = 5 ∨ i = 6 ∨ i = 7 ∨ i = 8 ∨ i = 9 ∨ i = 10 ∨ i = 11 by omega) with rfl | rfl | rfl | rfl | rfl | rfl | rfl | rfl | rfl | rfl | rfl | rfl <;> decide
    have b3 : inb (((4848 : Int32) + ((40 : Int32) * nI i)) + (26 : Int32)) 5328 := by
      rcases (show i = 0 ∨ i = 1 ∨ i = 2 ∨ i = 3 ∨ i = 4 ∨ i = 5 ∨ i = 6 ∨ i = 7 ∨ i = 8 ∨ i = 9 ∨ i = 10 ∨ i = 11 by omega) with rfl | rfl | rfl | rfl | rfl | rfl | rfl | rfl | rfl | rfl | rfl | rfl <;> decide
    simp only [dq, gd, lt_, hN, if_pos g, if_pos b1, if_pos b2, if_pos b3]
    rw [nI_1]
    exact ih (i + 1) f _ (by omega) (by omega)
/-! X9_init: 13 cells, 18991 slots -/
def n_X9_init (h : Hs) (a0 : Nat) (M : Mm) (u : Hs × Mm) : Prop :=
  ∃ q1, q1 ∉ zL h ∧
  ∃ h2, h2 = nh h q1 11 5328 ∧
  ∃ M3, M3 = nm M q1 ∧
  ∃ h4, h4 = setR h2 a0 1 (some q1) ∧
  ∃ q5, q5 ∉ zL h4 ∧
  ∃ h6, h6 = nh h4 q5 11 5328 ∧
  ∃ M7, M7 = nm M3 q5 ∧
  ∃ h8, h8 = setR h6 a0 2 (some q5) ∧
  ∃ q9, q9 ∉ zL h8 ∧
  ∃ h10, h10 = nh h8 q9 11 5328 ∧
  ∃ M11, M11 = nm M7 q9 ∧
  ∃ h12, h12 = setR h10 a0 3 (some q9) ∧
  ∃ q13, q13 ∉ zL h12 ∧
  ∃ h14, h14 = nh h12 q13 10 400 ∧
  ∃ M15, M15 = nm M11 q13 ∧
  ∃ h16, h16 = setR h14 a0 6 (some q13) ∧
  ∃ q17, q17 ∉ zL h16 ∧
  ∃ h18, h18 = nh h16 q17 11 400 ∧
  ∃ M19, M19 = nm M15 q17 ∧
  ∃ h20, h20 = setR h18 a0 8 (some q17) ∧
  ∃ q21, q21 ∉ zL h20 ∧
  ∃ h22, h22 = nh h20 q21 11 400 ∧
  ∃ M23, M23 = nm M19 q21 ∧
  ∃ h24, h24 = setR h22 a0 9 (some q21) ∧
  ∃ q25, q25 ∉ zL h24 ∧
  ∃ h26, h26 = nh h24 q25 11 400 ∧
  ∃ M27, M27 = nm M23 q25 ∧
  ∃ h28, h28 = setR h26 a0 10 (some q25) ∧
  ∃ q29, q29 ∉ zL h28 ∧
  ∃ h30, h30 = nh h28 q29 11 200 ∧
  ∃ M31, M31 = nm M27 q29 ∧
  ∃ h32, h32 = setR h30 a0 13 (some q29) ∧
  ∃ q33, q33 ∉ zL h32 ∧
  ∃ h34, h34 = nh h32 q33 11 200 ∧
  ∃ M35, M35 = nm M31 q33 ∧
  ∃ h36, h36 = setR h34 a0 14 (some q33) ∧
  ∃ q37, q37 ∉ zL h36 ∧
  ∃ h38, h38 = nh h36 q37 11 200 ∧
  ∃ M39, M39 = nm M35 q37 ∧
  ∃ h40, h40 = setR h38 a0 15 (some q37) ∧
  ∃ q41, q41 ∉ zL h40 ∧
  ∃ h42, h42 = nh h40 q41 13 400 ∧
  ∃ M43, M43 = nm M39 q41 ∧
  ∃ h44, h44 = setR h42 a0 17 (some q41) ∧
  ∃ q45, q45 ∉ zL h44 ∧
  ∃ h46, h46 = nh h44 q45 11 400 ∧
  ∃ M47, M47 = nm M43 q45 ∧
  ∃ h48, h48 = setR h46 a0 18 (some q45) ∧
  ∃ q49, q49 ∉ zL h48 ∧
  ∃ h50, h50 = nh h48 q49 12 7 ∧
  ∃ M51, M51 = nm M47 q49 ∧
  ∃ h52, h52 = setR h50 a0 20 (some q49) ∧
  ∃ z, lp_X9_init_122 h52 a0 fuel (0 : Int32) M51 = some z ∧ u = (h52, z.2)
theorem e_X9_init {h : Hs} {a0 : Nat} {M : Mm} {u : Hs × Mm} (hn : n_X9_init h a0 M u) {b k : Nat} (g : ok h b k) : ok u.1 b k := by
  unfold n_X9_init at hn
  obtain ⟨q1, hq1, h2, eh2, M3, eM3, h4, eh4, q5, hq5, h6, eh6, M7, eM7, h8, eh8, q9, hq9, h10, eh10, M11, eM11, h12, eh12, q13, hq13, h14, eh14, M15, eM15, h16, eh16, q17, hq17, h18, eh18, M19, eM19, h20, eh20, q21, hq21, h22, eh22, M23, eM23, h24, eh24, q25, hq25, h26, eh26, M27, eM27, h28, eh28, q29, hq29, h30, eh30, M31, eM31, h32, eh32, q33, hq33, h34, eh34, M35, eM35, h36, eh36, q37, hq37, h38, eh38, M39, eM39, h40, eh40, q41, hq41, h42, eh42, M43, eM43, h44, eh44, q45, hq45, h46, eh46, M47, eM47, h48, eh48, q49, hq49, h50, eh50, M51, eM51, h52, eh52, z, hz, rfl⟩ := hn
  have g : ok h2 b k := by rw [eh2]; exact ok_nh hq1 g
  have g : ok h4 b k := by rw [eh4]; exact ok_setR g
  have g : ok h6 b k := by rw [eh6]; exact ok_nh hq5 g
  have g : ok h8 b k := by rw [eh8]; exact ok_setR g
  have g : ok h10 b k := by rw [eh10]; exact ok_nh hq9 g
  have g : ok h12 b k := by rw [eh12]; exact ok_setR g
  have g : ok h14 b k := by rw [eh14]; exact ok_nh hq13 g
  have g : ok h16 b k := by rw [eh16]; exact ok_setR g
  have g : ok h18 b k := by rw [eh18]; exact ok_nh hq17 g
  have g : ok h20 b k := by rw [eh20]; exact ok_setR g
  have g : ok h22 b k := by rw [eh22]; exact ok_nh hq21 g
  have g : ok h24 b k := by rw [eh24]; exact ok_setR g
  have g : ok h26 b k := by rw [eh26]; exact ok_nh hq25 g
  have g : ok h28 b k := by rw [eh28]; exact ok_setR g
  have g : ok h30 b k := by rw [eh30]; exact ok_nh hq29 g
  have g : ok h32 b k := by rw [eh32]; exact ok_setR g
  have g : ok h34 b k := by rw [eh34]; exact ok_nh hq33 g
  have g : ok h36 b k := by rw [eh36]; exact ok_setR g
  have g : ok h38 b k := by rw [eh38]; exact ok_nh hq37 g
  have g : ok h40 b k := by rw [eh40]; exact ok_setR g
  have g : ok h42 b k := by rw [eh42]; exact ok_nh hq41 g
  have g : ok h44 b k := by rw [eh44]; exact ok_setR g
  have g : ok h46 b k := by rw [eh46]; exact ok_nh hq45 g
  have g : ok h48 b k := by rw [eh48]; exact ok_setR g
  have g : ok h50 b k := by rw [eh50]; exact ok_nh hq49 g
  have g : ok h52 b k := by rw [eh52]; exact ok_setR g
  exact g
set_option maxHeartbeats 4000000 in
set_option maxRecDepth 100000 in
theorem c_X9_init {l : Launch} {D : va_G} {cy : Nat → ClassId} {h : Hs} {a0 : Nat} {M : Mm} (g_a0 : ok h a0 9) : CtN l D cy yX9_init (wu yX9_init cX9_init 2 none) ({ frames := 1, cells := 13, slots := 18991, locals := 12 }) [.ref a0] h M (n_X9_init h a0 M) 13 18991 := by
  refine enterN (cc := cX9_init) (maxL := 2) (by decide) (Nat.le_of_ble_eq_true rfl) ?_
  intro p e s m args below meth c A ls X hw hr hlk hin hl
  have hl : lv_has ls 2 [(0, .ref a0)] := hl
  refine lv_aload_n X.1.1 X.1.2.1 dX9_init_0 rfl (lv_at hl 0 rfl) ?_
  refine W.objInit X.1.1 X.1.2.1 X.1.2.2.2.1 (X.1.2.2.2.2 _ um_X9_7) (X.1.2.2.2.2 _ ui_obj) (X.1.2.2.2.2 _ uo_obj) rfl (hl.1.trans X.1.2.2.1.symm) rfl dX9_init_1 (Nat.le_of_ble_eq_true rfl) (Nat.le_of_ble_eq_true rfl) ?_
  refine W.eq (g2 := F0 m 4 ls []) rfl ?_
  refine lv_aload_n X.1.1 X.1.2.1 dX9_init_4 rfl (lv_at hl 0 rfl) ?_
  refine lv_sipush (v := (5328 : Int32)) X.1.1 X.1.2.1 dX9_init_5 (by decide) ?_
  refine r_newaI (N := 5328) X hw (by decide) (by decide) (by decide) (Nat.le_of_ble_eq_true rfl) (Nat.le_of_ble_eq_true rfl) dX9_init_8 (fun q1 H hq1 hw => ?_)
  obtain ⟨h2, eh2⟩ : ∃ x, x = nh h q1 11 5328 := ⟨_, rfl⟩
  have g_a0 : ok h2 a0 9 := by rw [eh2]; exact ok_nh hq1 g_a0
  have g_q1 : ok h2 q1 11 := by rw [eh2]; exact nh_ok
  have kN : zN h2 q1 = 5328 := by rw [eh2]; exact nh_N
  obtain ⟨M3, eM3⟩ : ∃ x, x = nm M q1 := ⟨_, rfl⟩
  rw [← eh2, ← eM3] at hw
  refine r_putqF (k := 9) (j := 1) X hw rfl inX9 tyX9_ok nmX9 g_a0 rfl (by decide) (by decide) uf_X9_13 rfl rfl hin rfl rfl rfl dX9_init_10 (fun H locs hw => ?_)
  obtain ⟨h4, eh4⟩ : ∃ x, x = setR h2 a0 1 (some q1) := ⟨_, rfl⟩
  have kN : zN h4 q1 = 5328 := by rw [eh4]; exact kN
  have g_a0 : ok h4 a0 9 := by rw [eh4]; exact ok_setR g_a0
  have g_q1 : ok h4 q1 11 := by rw [eh4]; exact ok_setR g_q1
  have kR : zR h4 a0 1 = some q1 := by rw [eh4]; simp [zR, setR, up2]
  rw [← eh4] at hw
  refine lv_aload_n X.1.1 X.1.2.1 dX9_init_13 rfl (lv_at hl 0 rfl) ?_
  refine lv_sipush (v := (5328 : Int32)) X.1.1 X.1.2.1 dX9_init_14 (by decide) ?_
  refine r_newaI (N := 5328) X hw (by decide) (by decide) (by decide) (Nat.le_of_ble_eq_true rfl) (Nat.le_of_ble_eq_true rfl) dX9_init_17 (fun q5 H hq5 hw => ?_)
  obtain ⟨h6, eh6⟩ : ∃ x, x = nh h4 q5 11 5328 := ⟨_, rfl⟩
  have kN : zN h6 q1 = 5328 := by rw [eh6]; exact (nh_Nn (show q1 ≠ q5 from fun z => hq5 (z ▸ g_q1.1))).trans kN
  have kR : zR h6 a0 1 = some q1 := by rw [eh6]; exact (congrFun (nh_Rn (show a0 ≠ q5 from fun z => hq5 (z ▸ g_a0.1))) 1).trans kR
  have g_a0 : ok h6 a0 9 := by rw [eh6]; exact ok_nh hq5 g_a0
  have g_q1 : ok h6 q1 11 := by rw [eh6]; exact ok_nh hq5 g_q1
  have g_q5 : ok h6 q5 11 := by rw [eh6]; exact nh_ok
  obtain ⟨M7, eM7⟩ : ∃ x, x = nm M3 q5 := ⟨_, rfl⟩
  rw [← eh6, ← eM7] at hw
  refine r_putqF (k := 9) (j := 2) X hw rfl inX9 tyX9_ok nmX9 g_a0 rfl (by decide) (by decide) uf_X9_17 rfl rfl hin rfl rfl rfl dX9_init_19 (fun H locs hw => ?_)
  obtain ⟨h8, eh8⟩ : ∃ x, x = setR h6 a0 2 (some q5) := ⟨_, rfl⟩
  have kN : zN h8 q1 = 5328 := by rw [eh8]; exact kN
  have kR : zR h8 a0 1 = some q1 := by rw [eh8]; exact (zR_setRj (by decide)).trans kR
  have g_a0 : ok h8 a0 9 := by rw [eh8]; exact ok_setR g_a0
  have g_q1 : ok h8 q1 11 := by rw [eh8]; exact ok_setR g_q1
  have g_q5 : ok h8 q5 11 := by rw [eh8]; exact ok_setR g_q5
  rw [← eh8] at hw
  refine lv_aload_n X.1.1 X.1.2.1 dX9_init_22 rfl (lv_at hl 0 rfl) ?_
  refine lv_sipush (v := (5328 : Int32)) X.1.1 X.1.2.1 dX9_init_23 (by decide) ?_
  refine r_newaI (N := 5328) X hw (by decide) (by decide) (by decide) (Nat.le_of_ble_eq_true rfl) (Nat.le_of_ble_eq_true rfl) dX9_init_26 (fun q9 H hq9 hw => ?_)
  obtain ⟨h10, eh10⟩ : ∃ x, x = nh h8 q9 11 5328 := ⟨_, rfl⟩
  have kN : zN h10 q1 = 5328 := by rw [eh10]; exact (nh_Nn (show q1 ≠ q9 from fun z => hq9 (z ▸ g_q1.1))).trans kN
  have kR : zR h10 a0 1 = some q1 := by rw [eh10]; exact (congrFun (nh_Rn (show a0 ≠ q9 from fun z => hq9 (z ▸ g_a0.1))) 1).trans kR
  have g_a0 : ok h10 a0 9 := by rw [eh10]; exact ok_nh hq9 g_a0
  have g_q1 : ok h10 q1 11 := by rw [eh10]; exact ok_nh hq9 g_q1
  have g_q5 : ok h10 q5 11 := by rw [eh10]; exact ok_nh hq9 g_q5
  have g_q9 : ok h10 q9 11 := by rw [eh10]; exact nh_ok
  obtain ⟨M11, eM11⟩ : ∃ x, x = nm M7 q9 := ⟨_, rfl⟩
  rw [← eh10, ← eM11] at hw
  refine r_putqF (k := 9) (j := 3) X hw rfl inX9 tyX9_ok nmX9 g_a0 rfl (by decide) (by decide) uf_X9_20 rfl rfl hin rfl rfl rfl dX9_init_28 (fun H locs hw => ?_)
  obtain ⟨h12, eh12⟩ : ∃ x, x = setR h10 a0 3 (some q9) := ⟨_, rfl⟩
  have kN : zN h12 q1 = 5328 := by rw [eh12]; exact kN
  have kR : zR h12 a0 1 = some q1 := by rw [eh12]; exact (zR_setRj (by decide)).trans kR
  have g_a0 : ok h12 a0 9 := by rw [eh12]; exact ok_setR g_a0
  have g_q1 : ok h12 q1 11 := by rw [eh12]; exact ok_setR g_q1
  have g_q5 : ok h12 q5 11 := by rw [eh12]; exact ok_setR g_q5
  have g_q9 : ok h12 q9 11 := by rw [eh12]; exact ok_setR g_q9
  rw [← eh12] at hw
  refine lv_aload_n X.1.1 X.1.2.1 dX9_init_31 rfl (lv_at hl 0 rfl) ?_
  refine lv_sipush (v := (400 : Int32)) X.1.1 X.1.2.1 dX9_init_32 (by decide) ?_
  refine r_newaB (N := 400) X hw (by decide) (by decide) (by decide) (Nat.le_of_ble_eq_true rfl) (Nat.le_of_ble_eq_true rfl) dX9_init_35 (fun q13 H hq13 hw => ?_)
  obtain ⟨h14, eh14⟩ : ∃ x, x = nh h12 q13 10 400 := ⟨_, rfl⟩
  have kN : zN h14 q1 = 5328 := by rw [eh14]; exact (nh_Nn (show q1 ≠ q13 from fun z => hq13 (z ▸ g_q1.1))).trans kN
  have kR : zR h14 a0 1 = some q1 := by rw [eh14]; exact (congrFun (nh_Rn (show a0 ≠ q13 from fun z => hq13 (z ▸ g_a0.1))) 1).trans kR
  have g_a0 : ok h14 a0 9 := by rw [eh14]; exact ok_nh hq13 g_a0
  have g_q1 : ok h14 q1 11 := by rw [eh14]; exact ok_nh hq13 g_q1
  have g_q5 : ok h14 q5 11 := by rw [eh14]; exact ok_nh hq13 g_q5
  have g_q9 : ok h14 q9 11 := by rw [eh14]; exact ok_nh hq13 g_q9
  have g_q13 : ok h14 q13 10 := by rw [eh14]; exact nh_ok
  obtain ⟨M15, eM15⟩ : ∃ x, x = nm M11 q13 := ⟨_, rfl⟩
  rw [← eh14, ← eM15] at hw
  refine r_putqF (k := 9) (j := 6) X hw rfl inX9 tyX9_ok nmX9 g_a0 rfl (by decide) (by decide) uf_X9_23 rfl rfl hin rfl rfl rfl dX9_init_37 (fun H locs hw => ?_)
  obtain ⟨h16, eh16⟩ : ∃ x, x = setR h14 a0 6 (some q13) := ⟨_, rfl⟩
  have kN : zN h16 q1 = 5328 := by rw [eh16]; exact kN
  have kR : zR h16 a0 1 = some q1 := by rw [eh16]; exact (zR_setRj (by decide)).trans kR
  have g_a0 : ok h16 a0 9 := by rw [eh16]; exact ok_setR g_a0
  have g_q1 : ok h16 q1 11 := by rw [eh16]; exact ok_setR g_q1
  have g_q5 : ok h16 q5 11 := by rw [eh16]; exact ok_setR g_q5
  have g_q9 : ok h16 q9 11 := by rw [eh16]; exact ok_setR g_q9
  have g_q13 : ok h16 q13 10 := by rw [eh16]; exact ok_setR g_q13
  rw [← eh16] at hw
  refine lv_aload_n X.1.1 X.1.2.1 dX9_init_40 rfl (lv_at hl 0 rfl) ?_
  refine lv_sipush (v := (400 : Int32)) X.1.1 X.1.2.1 dX9_init_41 (by decide) ?_
  refine r_newaI (N := 400) X hw (by decide) (by decide) (by decide) (Nat.le_of_ble_eq_true rfl) (Nat.le_of_ble_eq_true rfl) dX9_init_44 (fun q17 H hq17 hw => ?_)
  obtain ⟨h18, eh18⟩ : ∃ x, x = nh h16 q17 11 400 := ⟨_, rfl⟩
  have kN : zN h18 q1 = 5328 := by rw [eh18]; exact (nh_Nn (show q1 ≠ q17 from fun z => hq17 (z ▸ g_q1.1))).trans kN
  have kR : zR h18 a0 1 = some q1 := by rw [eh18]; exact (congrFun (nh_Rn (show a0 ≠ q17 from fun z => hq17 (z ▸ g_a0.1))) 1).trans kR
  have g_a0 : ok h18 a0 9 := by rw [eh18]; exact ok_nh hq17 g_a0
  have g_q1 : ok h18 q1 11 := by rw [eh18]; exact ok_nh hq17 g_q1
  have g_q5 : ok h18 q5 11 := by rw [eh18]; exact ok_nh hq17 g_q5
  have g_q9 : ok h18 q9 11 := by rw [eh18]; exact ok_nh hq17 g_q9
  have g_q13 : ok h18 q13 10 := by rw [eh18]; exact ok_nh hq17 g_q13
  have g_q17 : ok h18 q17 11 := by rw [eh18]; exact nh_ok
  obtain ⟨M19, eM19⟩ : ∃ x, x = nm M15 q17 := ⟨_, rfl⟩
  rw [← eh18, ← eM19] at hw
  refine r_putqF (k := 9) (j := 8) X hw rfl inX9 tyX9_ok nmX9 g_a0 rfl (by decide) (by decide) uf_X9_27 rfl rfl hin rfl rfl rfl dX9_init_46 (fun H locs hw => ?_)
  obtain ⟨h20, eh20⟩ : ∃ x, x = setR h18 a0 8 (some q17) := ⟨_, rfl⟩
  have kN : zN h20 q1 = 5328 := by rw [eh20]; exact kN
  have kR : zR h20 a0 1 = some q1 := by rw [eh20]; exact (zR_setRj (by decide)).trans kR
  have g_a0 : ok h20 a0 9 := by rw [eh20]; exact ok_setR g_a0
  have g_q1 : ok h20 q1 11 := by rw [eh20]; exact ok_setR g_q1
  have g_q5 : ok h20 q5 11 := by rw [eh20]; exact ok_setR g_q5
  have g_q9 : ok h20 q9 11 := by rw [eh20]; exact ok_setR g_q9
  have g_q13 : ok h20 q13 10 := by rw [eh20]; exact ok_setR g_q13
  have g_q17 : ok h20 q17 11 := by rw [eh20]; exact ok_setR g_q17
  rw [← eh20] at hw
  refine lv_aload_n X.1.1 X.1.2.1 dX9_init_49 rfl (lv_at hl 0 rfl) ?_
  refine lv_sipush (v := (400 : Int32)) X.1.1 X.1.2.1 dX9_init_50 (by decide) ?_
  refine r_newaI (N := 400) X hw (by decide) (by decide) (by decide) (Nat.le_of_ble_eq_true rfl) (Nat.le_of_ble_eq_true rfl) dX9_init_53 (fun q21 H hq21 hw => ?_)
  obtain ⟨h22, eh22⟩ : ∃ x, x = nh h20 q21 11 400 := ⟨_, rfl⟩
  have kN : zN h22 q1 = 5328 := by rw [eh22]; exact (nh_Nn (show q1 ≠ q21 from fun z => hq21 (z ▸ g_q1.1))).trans kN
  have kR : zR h22 a0 1 = some q1 := by rw [eh22]; exact (congrFun (nh_Rn (show a0 ≠ q21 from fun z => hq21 (z ▸ g_a0.1))) 1).trans kR
  have g_a0 : ok h22 a0 9 := by rw [eh22]; exact ok_nh hq21 g_a0
  have g_q1 : ok h22 q1 11 := by rw [eh22]; exact ok_nh hq21 g_q1
  have g_q5 : ok h22 q5 11 := by rw [eh22]; exact ok_nh hq21 g_q5
  have g_q9 : ok h22 q9 11 := by rw [eh22]; exact ok_nh hq21 g_q9
  have g_q13 : ok h22 q13 10 := by rw [eh22]; exact ok_nh hq21 g_q13
  have g_q17 : ok h22 q17 11 := by rw [eh22]; exact ok_nh hq21 g_q17
  have g_q21 : ok h22 q21 11 := by rw [eh22]; exact nh_ok
  obtain ⟨M23, eM23⟩ : ∃ x, x = nm M19 q21 := ⟨_, rfl⟩
  rw [← eh22, ← eM23] at hw
  refine r_putqF (k := 9) (j := 9) X hw rfl inX9 tyX9_ok nmX9 g_a0 rfl (by decide) (by decide) uf_X9_30 rfl rfl hin rfl rfl rfl dX9_init_55 (fun H locs hw => ?_)
  obtain ⟨h24, eh24⟩ : ∃ x, x = setR h22 a0 9 (some q21) := ⟨_, rfl⟩
  have kN : zN h24 q1 = 5328 := by rw [eh24]; exact kN
  have kR : zR h24 a0 1 = some q1 := by rw [eh24]; exact (zR_setRj (by decide)).trans kR
  have g_a0 : ok h24 a0 9 := by rw [eh24]; exact ok_setR g_a0
  have g_q1 : ok h24 q1 11 := by rw [eh24]; exact ok_setR g_q1
  have g_q5 : ok h24 q5 11 := by rw [eh24]; exact ok_setR g_q5
  have g_q9 : ok h24 q9 11 := by rw [eh24]; exact ok_setR g_q9
  have g_q13 : ok h24 q13 10 := by rw [eh24]; exact ok_setR g_q13
  have g_q17 : ok h24 q17 11 := by rw [eh24]; exact ok_setR g_q17
  have g_q21 : ok h24 q21 11 := by rw [eh24]; exact ok_setR g_q21
  rw [← eh24] at hw
  refine lv_aload_n X.1.1 X.1.2.1 dX9_init_58 rfl (lv_at hl 0 rfl) ?_
  refine lv_sipush (v := (400 : Int32)) X.1.1 X.1.2.1 dX9_init_59 (by decide) ?_
  refine r_newaI (N := 400) X hw (by decide) (by decide) (by decide) (Nat.le_of_ble_eq_true rfl) (Nat.le_of_ble_eq_true rfl) dX9_init_62 (fun q25 H hq25 hw => ?_)
  obtain ⟨h26, eh26⟩ : ∃ x, x = nh h24 q25 11 400 := ⟨_, rfl⟩
  have kN : zN h26 q1 = 5328 := by rw [eh26]; exact (nh_Nn (show q1 ≠ q25 from fun z => hq25 (z ▸ g_q1.1))).trans kN
  have kR : zR h26 a0 1 = some q1 := by rw [eh26]; exact (congrFun (nh_Rn (show a0 ≠ q25 from fun z => hq25 (z ▸ g_a0.1))) 1).trans kR
  have g_a0 : ok h26 a0 9 := by rw [eh26]; exact ok_nh hq25 g_a0
  have g_q1 : ok h26 q1 11 := by rw [eh26]; exact ok_nh hq25 g_q1
  have g_q5 : ok h26 q5 11 := by rw [eh26]; exact ok_nh hq25 g_q5
  have g_q9 : ok h26 q9 11 := by rw [eh26]; exact ok_nh hq25 g_q9
  have g_q13 : ok h26 q13 10 := by rw [eh26]; exact ok_nh hq25 g_q13
  have g_q17 : ok h26 q17 11 := by rw [eh26]; exact ok_nh hq25 g_q17
  have g_q21 : ok h26 q21 11 := by rw [eh26]; exact ok_nh hq25 g_q21
  have g_q25 : ok h26 q25 11 := by rw [eh26]; exact nh_ok
  obtain ⟨M27, eM27⟩ : ∃ x, x = nm M23 q25 := ⟨_, rfl⟩
  rw [← eh26, ← eM27] at hw
  refine r_putqF (k := 9) (j := 10) X hw rfl inX9 tyX9_ok nmX9 g_a0 rfl (by decide) (by decide) uf_X9_33 rfl rfl hin rfl rfl rfl dX9_init_64 (fun H locs hw => ?_)
  obtain ⟨h28, eh28⟩ : ∃ x, x = setR h26 a0 10 (some q25) := ⟨_, rfl⟩
  have kN : zN h28 q1 = 5328 := by rw [eh28]; exact kN
  have kR : zR h28 a0 1 = some q1 := by rw [eh28]; exact (zR_setRj (by decide)).trans kR
  have g_a0 : ok h28 a0 9 := by rw [eh28]; exact ok_setR g_a0
  have g_q1 : ok h28 q1 11 := by rw [eh28]; exact ok_setR g_q1
  have g_q5 : ok h28 q5 11 := by rw [eh28]; exact ok_setR g_q5
  have g_q9 : ok h28 q9 11 := by rw [eh28]; exact ok_setR g_q9
  have g_q13 : ok h28 q13 10 := by rw [eh28]; exact ok_setR g_q13
  have g_q17 : ok h28 q17 11 := by rw [eh28]; exact ok_setR g_q17
  have g_q21 : ok h28 q21 11 := by rw [eh28]; exact ok_setR g_q21
  have g_q25 : ok h28 q25 11 := by rw [eh28]; exact ok_setR g_q25
  rw [← eh28] at hw
  refine lv_aload_n X.1.1 X.1.2.1 dX9_init_67 rfl (lv_at hl 0 rfl) ?_
  refine lv_sipush (v := (200 : Int32)) X.1.1 X.1.2.1 dX9_init_68 (by decide) ?_
  refine r_newaI (N := 200) X hw (by decide) (by decide) (by decide) (Nat.le_of_ble_eq_true rfl) (Nat.le_of_ble_eq_true rfl) dX9_init_71 (fun q29 H hq29 hw => ?_)
  obtain ⟨h30, eh30⟩ : ∃ x, x = nh h28 q29 11 200 := ⟨_, rfl⟩
  have kN : zN h30 q1 = 5328 := by rw [eh30]; exact (nh_Nn (show q1 ≠ q29 from fun z => hq29 (z ▸ g_q1.1))).trans kN
  have kR : zR h30 a0 1 = some q1 := by rw [eh30]; exact (congrFun (nh_Rn (show a0 ≠ q29 from fun z => hq29 (z ▸ g_a0.1))) 1).trans kR
  have g_a0 : ok h30 a0 9 := by rw [eh30]; exact ok_nh hq29 g_a0
  have g_q1 : ok h30 q1 11 := by rw [eh30]; exact ok_nh hq29 g_q1
  have g_q5 : ok h30 q5 11 := by rw [eh30]; exact ok_nh hq29 g_q5
  have g_q9 : ok h30 q9 11 := by rw [eh30]; exact ok_nh hq29 g_q9
  have g_q13 : ok h30 q13 10 := by rw [eh30]; exact ok_nh hq29 g_q13
  have g_q17 : ok h30 q17 11 := by rw [eh30]; exact ok_nh hq29 g_q17
  have g_q21 : ok h30 q21 11 := by rw [eh30]; exact ok_nh hq29 g_q21
  have g_q25 : ok h30 q25 11 := by rw [eh30]; exact ok_nh hq29 g_q25
  have g_q29 : ok h30 q29 11 := by rw [eh30]; exact nh_ok
  obtain ⟨M31, eM31⟩ : ∃ x, x = nm M27 q29 := ⟨_, rfl⟩
  rw [← eh30, ← eM31] at hw
  refine r_putqF (k := 9) (j := 13) X hw rfl inX9 tyX9_ok nmX9 g_a0 rfl (by decide) (by decide) uf_X9_36 rfl rfl hin rfl rfl rfl dX9_init_73 (fun H locs hw => ?_)
  obtain ⟨h32, eh32⟩ : ∃ x, x = setR h30 a0 13 (some q29) := ⟨_, rfl⟩
  have kN : zN h32 q1 = 5328 := by rw [eh32]; exact kN
  have kR : zR h32 a0 1 = some q1 := by rw [eh32]; exact (zR_setRj (by decide)).trans kR
  have g_a0 : ok h32 a0 9 := by rw [eh32]; exact ok_setR g_a0
  have g_q1 : ok h32 q1 11 := by rw [eh32]; exact ok_setR g_q1
  have g_q5 : ok h32 q5 11 := by rw [eh32]; exact ok_setR g_q5
  have g_q9 : ok h32 q9 11 := by rw [eh32]; exact ok_setR g_q9
  have g_q13 : ok h32 q13 10 := by rw [eh32]; exact ok_setR g_q13
  have g_q17 : ok h32 q17 11 := by rw [eh32]; exact ok_setR g_q17
  have g_q21 : ok h32 q21 11 := by rw [eh32]; exact ok_setR g_q21
  have g_q25 : ok h32 q25 11 := by rw [eh32]; exact ok_setR g_q25
  have g_q29 : ok h32 q29 11 := by rw [eh32]; exact ok_setR g_q29
  rw [← eh32] at hw
  refine lv_aload_n X.1.1 X.1.2.1 dX9_init_76 rfl (lv_at hl 0 rfl) ?_
  refine lv_sipush (v := (200 : Int32)) X.1.1 X.1.2.1 dX9_init_77 (by decide) ?_
  refine r_newaI (N := 200) X hw (by decide) (by decide) (by decide) (Nat.le_of_ble_eq_true rfl) (Nat.le_of_ble_eq_true rfl) dX9_init_80 (fun q33 H hq33 hw => ?_)
  obtain ⟨h34, eh34⟩ : ∃ x, x = nh h32 q33 11 200 := ⟨_, rfl⟩
  have kN : zN h34 q1 = 5328 := by rw [eh34]; exact (nh_Nn (show q1 ≠ q33 from fun z => hq33 (z ▸ g_q1.1))).trans kN
  have kR : zR h34 a0 1 = some q1 := by rw [eh34]; exact (congrFun (nh_Rn (show a0 ≠ q33 from fun z => hq33 (z ▸ g_a0.1))) 1).trans kR
  have g_a0 : ok h34 a0 9 := by rw [eh34]; exact ok_nh hq33 g_a0
  have g_q1 : ok h34 q1 11 := by rw [eh34]; exact ok_nh hq33 g_q1
  have g_q5 : ok h34 q5 11 := by rw [eh34]; exact ok_nh hq33 g_q5
  have g_q9 : ok h34 q9 11 := by rw [eh34]; exact ok_nh hq33 g_q9
  have g_q13 : ok h34 q13 10 := by rw [eh34]; exact ok_nh hq33 g_q13
  have g_q17 : ok h34 q17 11 := by rw [eh34]; exact ok_nh hq33 g_q17
  have g_q21 : ok h34 q21 11 := by rw [eh34]; exact ok_nh hq33 g_q21
  have g_q25 : ok h34 q25 11 := by rw [eh34]; exact ok_nh hq33 g_q25
  have g_q29 : ok h34 q29 11 := by rw [eh34]; exact ok_nh hq33 g_q29
  have g_q33 : ok h34 q33 11 := by rw [eh34]; exact nh_ok
  obtain ⟨M35, eM35⟩ : ∃ x, x = nm M31 q33 := ⟨_, rfl⟩
  rw [← eh34, ← eM35] at hw
  refine r_putqF (k := 9) (j := 14) X hw rfl inX9 tyX9_ok nmX9 g_a0 rfl (by decide) (by decide) uf_X9_39 rfl rfl hin rfl rfl rfl dX9_init_82 (fun H locs hw => ?_)
  obtain ⟨h36, eh36⟩ : ∃ x, x = setR h34 a0 14 (some q33) := ⟨_, rfl⟩
  have kN : zN h36 q1 = 5328 := by rw [eh36]; exact kN
  have kR : zR h36 a0 1 = some q1 := by rw [eh36]; exact (zR_setRj (by decide)).trans kR
  have g_a0 : ok h36 a0 9 := by rw [eh36]; exact ok_setR g_a0
  have g_q1 : ok h36 q1 11 := by rw [eh36]; exact ok_setR g_q1
  have g_q5 : ok h36 q5 11 := by rw [eh36]; exact ok_setR g_q5
  have g_q9 : ok h36 q9 11 := by rw [eh36]; exact ok_setR g_q9
  have g_q13 : ok h36 q13 10 := by rw [eh36]; exact ok_setR g_q13
  have g_q17 : ok h36 q17 11 := by rw [eh36]; exact ok_setR g_q17
  have g_q21 : ok h36 q21 11 := by rw [eh36]; exact ok_setR g_q21
  have g_q25 : ok h36 q25 11 := by rw [eh36]; exact ok_setR g_q25
  have g_q29 : ok h36 q29 11 := by rw [eh36]; exact ok_setR g_q29
  have g_q33 : ok h36 q33 11 := by rw [eh36]; exact ok_setR g_q33
  rw [← eh36] at hw
  refine lv_aload_n X.1.1 X.1.2.1 dX9_init_85 rfl (lv_at hl 0 rfl) ?_
  refine lv_sipush (v := (200 : Int32)) X.1.1 X.1.2.1 dX9_init_86 (by decide) ?_
  refine r_newaI (N := 200) X hw (by decide) (by decide) (by decide) (Nat.le_of_ble_eq_true rfl) (Nat.le_of_ble_eq_true rfl) dX9_init_89 (fun q37 H hq37 hw => ?_)
  obtain ⟨h38, eh38⟩ : ∃ x, x = nh h36 q37 11 200 := ⟨_, rfl⟩
  have kN : zN h38 q1 = 5328 := by rw [eh38]; exact (nh_Nn (show q1 ≠ q37 from fun z => hq37 (z ▸ g_q1.1))).trans kN
  have kR : zR h38 a0 1 = some q1 := by rw [eh38]; exact (congrFun (nh_Rn (show a0 ≠ q37 from fun z => hq37 (z ▸ g_a0.1))) 1).trans kR
  have g_a0 : ok h38 a0 9 := by rw [eh38]; exact ok_nh hq37 g_a0
  have g_q1 : ok h38 q1 11 := by rw [eh38]; exact ok_nh hq37 g_q1
  have g_q5 : ok h38 q5 11 := by rw [eh38]; exact ok_nh hq37 g_q5
  have g_q9 : ok h38 q9 11 := by rw [eh38]; exact ok_nh hq37 g_q9
  have g_q13 : ok h38 q13 10 := by rw [eh38]; exact ok_nh hq37 g_q13
  have g_q17 : ok h38 q17 11 := by rw [eh38]; exact ok_nh hq37 g_q17
  have g_q21 : ok h38 q21 11 := by rw [eh38]; exact ok_nh hq37 g_q21
  have g_q25 : ok h38 q25 11 := by rw [eh38]; exact ok_nh hq37 g_q25
  have g_q29 : ok h38 q29 11 := by rw [eh38]; exact ok_nh hq37 g_q29
  have g_q33 : ok h38 q33 11 := by rw [eh38]; exact ok_nh hq37 g_q33
  have g_q37 : ok h38 q37 11 := by rw [eh38]; exact nh_ok
  obtain ⟨M39, eM39⟩ : ∃ x, x = nm M35 q37 := ⟨_, rfl⟩
  rw [← eh38, ← eM39] at hw
  refine r_putqF (k := 9) (j := 15) X hw rfl inX9 tyX9_ok nmX9 g_a0 rfl (by decide) (by decide) uf_X9_42 rfl rfl hin rfl rfl rfl dX9_init_91 (fun H locs hw => ?_)
  obtain ⟨h40, eh40⟩ : ∃ x, x = setR h38 a0 15 (some q37) := ⟨_, rfl⟩
  have kN : zN h40 q1 = 5328 := by rw [eh40]; exact kN
  have kR : zR h40 a0 1 = some q1 := by rw [eh40]; exact (zR_setRj (by decide)).trans kR
  have g_a0 : ok h40 a0 9 := by rw [eh40]; exact ok_setR g_a0
  have g_q1 : ok h40 q1 11 := by rw [eh40]; exact ok_setR g_q1
  have g_q5 : ok h40 q5 11 := by rw [eh40]; exact ok_setR g_q5
  have g_q9 : ok h40 q9 11 := by rw [eh40]; exact ok_setR g_q9
  have g_q13 : ok h40 q13 10 := by rw [eh40]; exact ok_setR g_q13
  have g_q17 : ok h40 q17 11 := by rw [eh40]; exact ok_setR g_q17
  have g_q21 : ok h40 q21 11 := by rw [eh40]; exact ok_setR g_q21
  have g_q25 : ok h40 q25 11 := by rw [eh40]; exact ok_setR g_q25
  have g_q29 : ok h40 q29 11 := by rw [eh40]; exact ok_setR g_q29
  have g_q33 : ok h40 q33 11 := by rw [eh40]; exact ok_setR g_q33
  have g_q37 : ok h40 q37 11 := by rw [eh40]; exact ok_setR g_q37
  rw [← eh40] at hw
  refine lv_aload_n X.1.1 X.1.2.1 dX9_init_94 rfl (lv_at hl 0 rfl) ?_
  refine lv_sipush (v := (400 : Int32)) X.1.1 X.1.2.1 dX9_init_95 (by decide) ?_
  refine r_newaZ (N := 400) X hw (by decide) (by decide) (by decide) (Nat.le_of_ble_eq_true rfl) (Nat.le_of_ble_eq_true rfl) dX9_init_98 (fun q41 H hq41 hw => ?_)
  obtain ⟨h42, eh42⟩ : ∃ x, x = nh h40 q41 13 400 := ⟨_, rfl⟩
  have kN : zN h42 q1 = 5328 := by rw [eh42]; exact (nh_Nn (show q1 ≠ q41 from fun z => hq41 (z ▸ g_q1.1))).trans kN
  have kR : zR h42 a0 1 = some q1 := by rw [eh42]; exact (congrFun (nh_Rn (show a0 ≠ q41 from fun z => hq41 (z ▸ g_a0.1))) 1).trans kR
  have g_a0 : ok h42 a0 9 := by rw [eh42]; exact ok_nh hq41 g_a0
  have g_q1 : ok h42 q1 11 := by rw [eh42]; exact ok_nh hq41 g_q1
  have g_q5 : ok h42 q5 11 := by rw [eh42]; exact ok_nh hq41 g_q5
  have g_q9 : ok h42 q9 11 := by rw [eh42]; exact ok_nh hq41 g_q9
  have g_q13 : ok h42 q13 10 := by rw [eh42]; exact ok_nh hq41 g_q13
  have g_q17 : ok h42 q17 11 := by rw [eh42]; exact ok_nh hq41 g_q17
  have g_q21 : ok h42 q21 11 := by rw [eh42]; exact ok_nh hq41 g_q21
  have g_q25 : ok h42 q25 11 := by rw [eh42]; exact ok_nh hq41 g_q25
  have g_q29 : ok h42 q29 11 := by rw [eh42]; exact ok_nh hq41 g_q29
  have g_q33 : ok h42 q33 11 := by rw [eh42]; exact ok_nh hq41 g_q33
  have g_q37 : ok h42 q37 11 := by rw [eh42]; exact ok_nh hq41 g_q37
  have g_q41 : ok h42 q41 13 := by rw [eh42]; exact nh_ok
  obtain ⟨M43, eM43⟩ : ∃ x, x = nm M39 q41 := ⟨_, rfl⟩
  rw [← eh42, ← eM43] at hw
  refine r_putqF (k := 9) (j := 17) X hw rfl inX9 tyX9_ok nmX9 g_a0 rfl (by decide) (by decide) uf_X9_45 rfl rfl hin rfl rfl rfl dX9_init_100 (fun H locs hw => ?_)
  obtain ⟨h44, eh44⟩ : ∃ x, x = setR h42 a0 17 (some q41) := ⟨_, rfl⟩
  have kN : zN h44 q1 = 5328 := by rw [eh44]; exact kN
  have kR : zR h44 a0 1 = some q1 := by rw [eh44]; exact (zR_setRj (by decide)).trans kR
  have g_a0 : ok h44 a0 9 := by rw [eh44]; exact ok_setR g_a0
  have g_q1 : ok h44 q1 11 := by rw [eh44]; exact ok_setR g_q1
  have g_q5 : ok h44 q5 11 := by rw [eh44]; exact ok_setR g_q5
  have g_q9 : ok h44 q9 11 := by rw [eh44]; exact ok_setR g_q9
  have g_q13 : ok h44 q13 10 := by rw [eh44]; exact ok_setR g_q13
  have g_q17 : ok h44 q17 11 := by rw [eh44]; exact ok_setR g_q17
  have g_q21 : ok h44 q21 11 := by rw [eh44]; exact ok_setR g_q21
  have g_q25 : ok h44 q25 11 := by rw [eh44]; exact ok_setR g_q25
  have g_q29 : ok h44 q29 11 := by rw [eh44]; exact ok_setR g_q29
  have g_q33 : ok h44 q33 11 := by rw [eh44]; exact ok_setR g_q33
  have g_q37 : ok h44 q37 11 := by rw [eh44]; exact ok_setR g_q37
  have g_q41 : ok h44 q41 13 := by rw [eh44]; exact ok_setR g_q41
  rw [← eh44] at hw
  refine lv_aload_n X.1.1 X.1.2.1 dX9_init_103 rfl (lv_at hl 0 rfl) ?_
  refine lv_sipush (v := (400 : Int32)) X.1.1 X.1.2.1 dX9_init_104 (by decide) ?_
  refine r_newaI (N := 400) X hw (by decide) (by decide) (by decide) (Nat.le_of_ble_eq_true rfl) (Nat.le_of_ble_eq_true rfl) dX9_init_107 (fun q45 H hq45 hw => ?_)
  obtain ⟨h46, eh46⟩ : ∃ x, x = nh h44 q45 11 400 := ⟨_, rfl⟩
  have kN : zN h46 q1 = 5328 := by rw [eh46]; exact (nh_Nn (show q1 ≠ q45 from fun z => hq45 (z ▸ g_q1.1))).trans kN
  have kR : zR h46 a0 1 = some q1 := by rw [eh46]; exact (congrFun (nh_Rn (show a0 ≠ q45 from fun z => hq45 (z ▸ g_a0.1))) 1).trans kR
  have g_a0 : ok h46 a0 9 := by rw [eh46]; exact ok_nh hq45 g_a0
  have g_q1 : ok h46 q1 11 := by rw [eh46]; exact ok_nh hq45 g_q1
  have g_q5 : ok h46 q5 11 := by rw [eh46]; exact ok_nh hq45 g_q5
  have g_q9 : ok h46 q9 11 := by rw [eh46]; exact ok_nh hq45 g_q9
  have g_q13 : ok h46 q13 10 := by rw [eh46]; exact ok_nh hq45 g_q13
  have g_q17 : ok h46 q17 11 := by rw [eh46]; exact ok_nh hq45 g_q17
  have g_q21 : ok h46 q21 11 := by rw [eh46]; exact ok_nh hq45 g_q21
  have g_q25 : ok h46 q25 11 := by rw [eh46]; exact ok_nh hq45 g_q25
  have g_q29 : ok h46 q29 11 := by rw [eh46]; exact ok_nh hq45 g_q29
  have g_q33 : ok h46 q33 11 := by rw [eh46]; exact ok_nh hq45 g_q33
  have g_q37 : ok h46 q37 11 := by rw [eh46]; exact ok_nh hq45 g_q37
  have g_q41 : ok h46 q41 13 := by rw [eh46]; exact ok_nh hq45 g_q41
  have g_q45 : ok h46 q45 11 := by rw [eh46]; exact nh_ok
  obtain ⟨M47, eM47⟩ : ∃ x, x = nm M43 q45 := ⟨_, rfl⟩
  rw [← eh46, ← eM47] at hw
  refine r_putqF (k := 9) (j := 18) X hw rfl inX9 tyX9_ok nmX9 g_a0 rfl (by decide) (by decide) uf_X9_49 rfl rfl hin rfl rfl rfl dX9_init_109 (fun H locs hw => ?_)
  obtain ⟨h48, eh48⟩ : ∃ x, x = setR h46 a0 18 (some q45) := ⟨_, rfl⟩
  have kN : zN h48 q1 = 5328 := by rw [eh48]; exact kN
  have kR : zR h48 a0 1 = some q1 := by rw [eh48]; exact (zR_setRj (by decide)).trans kR
  have g_a0 : ok h48 a0 9 := by rw [eh48]; exact ok_setR g_a0
  have g_q1 : ok h48 q1 11 := by rw [eh48]; exact ok_setR g_q1
  have g_q5 : ok h48 q5 11 := by rw [eh48]; exact ok_setR g_q5
  have g_q9 : ok h48 q9 11 := by rw [eh48]; exact ok_setR g_q9
  have g_q13 : ok h48 q13 10 := by rw [eh48]; exact ok_setR g_q13
  have g_q17 : ok h48 q17 11 := by rw [eh48]; exact ok_setR g_q17
  have g_q21 : ok h48 q21 11 := by rw [eh48]; exact ok_setR g_q21
  have g_q25 : ok h48 q25 11 := by rw [eh48]; exact ok_setR g_q25
  have g_q29 : ok h48 q29 11 := by rw [eh48]; exact ok_setR g_q29
  have g_q33 : ok h48 q33 11 := by rw [eh48]; exact ok_setR g_q33
  have g_q37 : ok h48 q37 11 := by rw [eh48]; exact ok_setR g_q37
  have g_q41 : ok h48 q41 13 := by rw [eh48]; exact ok_setR g_q41
  have g_q45 : ok h48 q45 11 := by rw [eh48]; exact ok_setR g_q45
  rw [← eh48] at hw
  refine lv_aload_n X.1.1 X.1.2.1 dX9_init_112 rfl (lv_at hl 0 rfl) ?_
  refine lv_bipush (v := (7 : Int32)) X.1.1 X.1.2.1 dX9_init_113 (by decide) ?_
  refine r_newaJ (N := 7) X hw (by decide) (by decide) (by decide) (Nat.le_of_ble_eq_true rfl) (Nat.le_of_ble_eq_true rfl) dX9_init_115 (fun q49 H hq49 hw => ?_)
  obtain ⟨h50, eh50⟩ : ∃ x, x = nh h48 q49 12 7 := ⟨_, rfl⟩
  have kN : zN h50 q1 = 5328 := by rw [eh50]; exact (nh_Nn (show q1 ≠ q49 from fun z => hq49 (z ▸ g_q1.1))).trans kN
  have kR : zR h50 a0 1 = some q1 := by rw [eh50]; exact (congrFun (nh_Rn (show a0 ≠ q49 from fun z => hq49 (z ▸ g_a0.1))) 1).trans kR
  have g_a0 : ok h50 a0 9 := by rw [eh50]; exact ok_nh hq49 g_a0
  have g_q1 : ok h50 q1 11 := by rw [eh50]; exact ok_nh hq49 g_q1
  have g_q5 : ok h50 q5 11 := by rw [eh50]; exact ok_nh hq49 g_q5
  have g_q9 : ok h50 q9 11 := by rw [eh50]; exact ok_nh hq49 g_q9
  have g_q13 : ok h50 q13 10 := by rw [eh50]; exact ok_nh hq49 g_q13
  have g_q17 : ok h50 q17 11 := by rw [eh50]; exact ok_nh hq49 g_q17
  have g_q21 : ok h50 q21 11 := by rw [eh50]; exact ok_nh hq49 g_q21
  have g_q25 : ok h50 q25 11 := by rw [eh50]; exact ok_nh hq49 g_q25
  have g_q29 : ok h50 q29 11 := by rw [eh50]; exact ok_nh hq49 g_q29
  have g_q33 : ok h50 q33 11 := by rw [eh50]; exact ok_nh hq49 g_q33
  have g_q37 : ok h50 q37 11 := by rw [eh50]; exact ok_nh hq49 g_q37
  have g_q41 : ok h50 q41 13 := by rw [eh50]; exact ok_nh hq49 g_q41
  have g_q45 : ok h50 q45 11 := by rw [eh50]; exact ok_nh hq49 g_q45
  have g_q49 : ok h50 q49 12 := by rw [eh50]; exact nh_ok
  obtain ⟨M51, eM51⟩ : ∃ x, x = nm M47 q49 := ⟨_, rfl⟩
  rw [← eh50, ← eM51] at hw
  refine r_putqF (k := 9) (j := 20) X hw rfl inX9 tyX9_ok nmX9 g_a0 rfl (by decide) (by decide) uf_X9_52 rfl rfl hin rfl rfl rfl dX9_init_117 (fun H locs hw => ?_)
  obtain ⟨h52, eh52⟩ : ∃ x, x = setR h50 a0 20 (some q49) := ⟨_, rfl⟩
  have kN : zN h52 q1 = 5328 := by rw [eh52]; exact kN
  have kR : zR h52 a0 1 = some q1 := by rw [eh52]; exact (zR_setRj (by decide)).trans kR
  have g_a0 : ok h52 a0 9 := by rw [eh52]; exact ok_setR g_a0
  have g_q1 : ok h52 q1 11 := by rw [eh52]; exact ok_setR g_q1
  have g_q5 : ok h52 q5 11 := by rw [eh52]; exact ok_setR g_q5
  have g_q9 : ok h52 q9 11 := by rw [eh52]; exact ok_setR g_q9
  have g_q13 : ok h52 q13 10 := by rw [eh52]; exact ok_setR g_q13
  have g_q17 : ok h52 q17 11 := by rw [eh52]; exact ok_setR g_q17
  have g_q21 : ok h52 q21 11 := by rw [eh52]; exact ok_setR g_q21
  have g_q25 : ok h52 q25 11 := by rw [eh52]; exact ok_setR g_q25
  have g_q29 : ok h52 q29 11 := by rw [eh52]; exact ok_setR g_q29
  have g_q33 : ok h52 q33 11 := by rw [eh52]; exact ok_setR g_q33
  have g_q37 : ok h52 q37 11 := by rw [eh52]; exact ok_setR g_q37
  have g_q41 : ok h52 q41 13 := by rw [eh52]; exact ok_setR g_q41
  have g_q45 : ok h52 q45 11 := by rw [eh52]; exact ok_setR g_q45
  have g_q49 : ok h52 q49 12 := by rw [eh52]; exact ok_setR g_q49
  rw [← eh52] at hw
  refine lv_iconst (v := (0 : Int32)) X.1.1 X.1.2.1 dX9_init_120 (by decide) ?_
  refine lv_istore_n (lv' := [(1, .int (0 : Int32)), (0, .ref a0)]) X.1.1 X.1.2.1 dX9_init_121 rfl hl (by decide) rfl (fun ls hl => ?_)
  obtain ⟨z, hz⟩ := m_init_loop kR g_q1 kN 12 0 fuel M51 rfl (by decide)
  refine W.widen (k := 13) (n := 18991) (Nat.le_of_ble_eq_true rfl) (Nat.le_of_ble_eq_true rfl) ?_
  refine wlp_X9_init_122 X g_a0 fuel _ _ _ _ _ _ hz hw (lv_sub hl [0, 1] rfl) (fun x ex H locs ls hw hl => ?_)
  subst ex
  exact r_retN X hw hr hlk ⟨q1, hq1, h2, eh2, M3, eM3, h4, eh4, q5, hq5, h6, eh6, M7, eM7, h8, eh8, q9, hq9, h10, eh10, M11, eM11, h12, eh12, q13, hq13, h14, eh14, M15, eM15, h16, eh16, q17, hq17, h18, eh18, M19, eM19, h20, eh20, q21, hq21, h22, eh22, M23, eM23, h24, eh24, q25, hq25, h26, eh26, M27, eM27, h28, eh28, q29, hq29, h30, eh30, M31, eM31, h32, eh32, q33, hq33, h34, eh34, M35, eM35, h36, eh36, q37, hq37, h38, eh38, M39, eM39, h40, eh40, q41, hq41, h42, eh42, M43, eM43, h44, eh44, q45, hq45, h46, eh46, M47, eM47, h48, eh48, q49, hq49, h50, eh50, M51, eM51, h52, eh52, z, hz, rfl⟩ dX9_init_178
