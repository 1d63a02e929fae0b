/-! X8_worst -/
def f_X8_worst (h : Hs) (a0 : Nat) (p1 : Int32) (p2 : Int32) (M : Mm) : Option (Int32 × Mm) :=
  gd (ok h a0 8) <|
  dq (zR h a0 1) fun q1 =>
  gd (ok h q1 0) <|
  (f_X0_detailAt h q1 p1 M).bind fun z2 =>
  mq z2
    (
     some ((0 : Int32), M)
    )
    (fun q3 =>
     (f_X8_isWithin h p2.toInt64 (0 : Int32) (4000000 : Int32) M).bind fun z4 =>
     if ¬ z4 = 0 then
       (f_X8_keepDetail h a0 p1 q3 M).bind fun z6 =>
       gd (ok h q3 2) <|
       lt_ (sI z6 q3 6 p2) fun M7 =>
       some ((1 : Int32), M7)
     else
       some ((0 : Int32), M)
    )
set_option maxHeartbeats 4000000 in
set_option maxRecDepth 100000 in
theorem c_X8_worst {l : Launch} {D : va_G} {cy : Nat → ClassId} {h : Hs} {a0 : Nat} {p1 : Int32} {p2 : Int32} {M : Mm} {z : (Int32 × Mm)} (hf : f_X8_worst h a0 p1 p2 M = some z) : CtI l D cy yX8_worst (wu yX8_worst cX8_worst 4 (some .boolean)) ({ frames := 4, cells := 0, slots := 0, locals := 86 }) [.ref a0, .int p1, .int p2] h M z.1 z.2 := by
  refine enterI (cc := cX8_worst) (maxL := 4) (ret := (some .boolean)) (by decide) (Nat.le_of_ble_eq_true rfl) ?_
  intro p e s m args below meth c A ls X hw hr hlk hl
  have hl : lv_has ls 4 [(0, .ref a0), (1, .int p1), (2, .int p2)] := hl
  unfold f_X8_worst at hf
  refine lv_aload_n X.1.1 X.1.2.1 dX8_worst_0 rfl (lv_at hl 0 rfl) ?_
  obtain ⟨g_a0, hf⟩ := ogd hf
  obtain ⟨q1, eq1, hf⟩ := odq hf
  refine r_getq (k := 8) (j := 1) X hw rfl inX8 g_a0 rfl (by decide) (by decide) uf_X8_19 rfl dX8_worst_1 eq1 ?_
  refine lv_iload_n X.1.1 X.1.2.1 dX8_worst_4 rfl (lv_at hl 1 rfl) ?_
  obtain ⟨g_q1, hf⟩ := ogd hf
  obtain ⟨z2, ez2, hf⟩ := obd hf
  refine r_callVQ (As := [.int p1]) (rest := []) X hw (c_X0_detailAt ez2) (cwV 1 X.1.2.2.2.2 (guV um_X8_178 ui_X0_detailAt us_X0_detailAt un_X0 uo_X0_detailAt) rfl rfl rfl (by decide +kernel) ⟨Nat.le_of_ble_eq_true rfl, Nat.le_of_ble_eq_true rfl⟩) g_q1 (by decide) rfl rfl hl.1 rfl (Nat.le_of_ble_eq_true rfl) dX8_worst_5 ⟨Nat.zero_le _, Nat.zero_le _⟩ (fun H locs hw => ?_)
  obtain ⟨nq3, hf⟩ | ⟨q3, nq3, hf⟩ := omq hf
  · rw [nq3]
    refine lv_astore_nN (lv' := [(3, .null), (0, .ref a0), (1, .int p1), (2, .int p2)]) X.1.1 X.1.2.1 dX8_worst_8 rfl hl (by decide) rfl (fun ls hl => ?_)
    refine lv_aload_nN X.1.1 X.1.2.1 dX8_worst_9 rfl (lv_at hl 0 rfl) ?_
    refine lv_ifnullN (tgt := 24) X.1.1 X.1.2.1 dX8_worst_10 (by decide) ?_
    refine lv_iconst (v := (0 : Int32)) X.1.1 X.1.2.1 dX8_worst_24 (by decide) ?_
    cases hf
    exact r_retI (v := (0 : Int32)) X hw hr hlk rfl dX8_worst_25
  · rw [nq3]
    refine lv_astore_n (lv' := [(3, .ref q3), (0, .ref a0), (1, .int p1), (2, .int p2)]) X.1.1 X.1.2.1 dX8_worst_8 rfl hl (by decide) rfl (fun ls hl => ?_)
    refine lv_aload_n X.1.1 X.1.2.1 dX8_worst_9 rfl (lv_at hl 0 rfl) ?_
    refine lv_ifnull X.1.1 X.1.2.1 dX8_worst_10 ?_
    refine lv_iload_n X.1.1 X.1.2.1 dX8_worst_13 rfl (lv_at hl 3 rfl) ?_
    refine lv_i2l X.1.1 X.1.2.1 dX8_worst_14 rfl ?_
    refine lv_iconst (v := (0 : Int32)) X.1.1 X.1.2.1 dX8_worst_15 (by decide) ?_
    refine lv_ldc (v := (4000000 : Int32)) X.1.1 X.1.2.1 X.1.2.2.2.1 (X.1.2.2.2.2 _ uc_X8_207) dX8_worst_16 ?_
    obtain ⟨z4, ez4, hf⟩ := obd hf
    refine r_callSI (As := [.long p2.toInt64, .int (0 : Int32), .int (4000000 : Int32)]) (rest := []) X hw (c_X8_isWithin ez4) (va_cwS 3 X.1.2.2.2.2 (guS um_X8_110 ut_X8_isWithin un_X8 uo_X8_isWithin) rfl rfl rfl (by decide +kernel) ⟨Nat.le_of_ble_eq_true rfl, Nat.le_of_ble_eq_true rfl⟩) rfl hl.1 rfl (Nat.le_of_ble_eq_true rfl) dX8_worst_18 ⟨Nat.zero_le _, Nat.zero_le _⟩ (fun H locs hw => ?_)
    refine lv_if_ne (tgt := 26) X.1.1 X.1.2.1 dX8_worst_21 (by decide) (fun c_5 => ?_) (fun c_5 => ?_)
    · skip
      rw [if_pos c_5] at hf
      refine lv_aload_n X.1.1 X.1.2.1 dX8_worst_26 rfl (lv_at hl 1 rfl) ?_
      refine lv_iload_n X.1.1 X.1.2.1 dX8_worst_27 rfl (lv_at hl 2 rfl) ?_
      refine lv_aload_n X.1.1 X.1.2.1 dX8_worst_28 rfl (lv_at hl 0 rfl) ?_
      obtain ⟨z6, ez6, hf⟩ := obd hf
      refine r_callVV (As := [.int p1, .ref q3]) (rest := []) X hw (c_X8_keepDetail ez6) (cwV 2 X.1.2.2.2.2 (guV um_X8_182 ui_X8_keepDetail us_X8_keepDetail un_X8 uo_X8_keepDetail) rfl rfl rfl (by decide +kernel) ⟨Nat.le_of_ble_eq_true rfl, Nat.le_of_ble_eq_true rfl⟩) g_a0 (by decide) rfl rfl hl.1 rfl (Nat.le_of_ble_eq_true rfl) dX8_worst_29 ⟨Nat.zero_le _, Nat.zero_le _⟩ (fun H locs hw => ?_)
      refine lv_aload_n X.1.1 X.1.2.1 dX8_worst_32 rfl (lv_at hl 0 rfl) ?_
      refine lv_iload_n X.1.1 X.1.2.1 dX8_worst_33 rfl (lv_at hl 3 rfl) ?_
      obtain ⟨g_q3, hf⟩ := ogd hf
      refine r_puti (k := 2) (j := 6) X hw rfl inX2 tyX2_ok nmX2 g_q3 rfl (by decide) (by decide) uf_X8_211 rfl rfl rfl rfl dX8_worst_34 (fun H locs hw => ?_)
      obtain ⟨M7, eM7, hf⟩ := olt hf
      rw [← eM7] at hw
      refine lv_iconst (v := (1 : Int32)) X.1.1 X.1.2.1 dX8_worst_37 (by decide) ?_
      cases hf
      exact r_retI (v := (1 : Int32)) X hw hr hlk rfl dX8_worst_38
    · skip
      rw [if_neg (fun z => z c_5)] at hf
      refine lv_iconst (v := (0 : Int32)) X.1.1 X.1.2.1 dX8_worst_24 (by decide) ?_
      cases hf
      exact r_retI (v := (0 : Int32)) X hw hr hlk rfl dX8_worst_25
/-! X8_crack -/
def f_X8_crack (h : Hs) (a0 : Nat) (p1 : Int32) (p2 : Int32) (p3 : Int32) (M : Mm) : Option (Int32 × Mm) :=
  gd (ok h a0 8) <|
  dq (zR h a0 1) fun q1 =>
  gd (ok h q1 0) <|
  (f_X0_detailAt h q1 p1 M).bind fun z2 =>
  mq z2
    (
     some ((0 : Int32), M)
    )
    (fun q3 =>
     (f_X8_isWithin h p2.toInt64 (0 : Int32) (1000000 : Int32) M).bind fun z4 =>
     if z4 = 0 then
       some ((0 : Int32), M)
     else
       (f_X8_isWithin h p3.toInt64 (0 : Int32) (4000000 : Int32) M).bind fun z6 =>
       if ¬ z6 = 0 then
         (f_X8_keepDetail h a0 p1 q3 M).bind fun z8 =>
         gd (ok h q3 2) <|
         lt_ (sI z8 q3 7 p2) fun M9 =>
         lt_ (sI M9 q3 8 p3) fun M10 =>
         some ((1 : Int32), M10)
       else
         some ((0 : Int32), M)
    )
set_option maxHeartbeats 4000000 in
set_option maxRecDepth 100000 in
theorem c_X8_crack {l : Launch} {D : va_G} {cy : Nat → ClassId} {h : Hs} {a0 : Nat} {p1 : Int32} {p2 : Int32} {p3 : Int32} {M : Mm} {z : (Int32 × Mm)} (hf : f_X8_crack h a0 p1 p2 p3 M = some z) : CtI l D cy yX8_crack (wu yX8_crack cX8_crack 5 (some .boolean)) ({ frames := 4, cells := 0, slots := 0, locals := 86 }) [.ref a0, .int p1, .int p2, .int p3] h M z.1 z.2 := by
  refine enterI (cc := cX8_crack) (maxL := 5) (ret := (some .boolean)) (by decide) (Nat.le_of_ble_eq_true rfl) ?_
  intro p e s m args below meth c A ls X hw hr hlk hl
  have hl : lv_has ls 5 [(0, .ref a0), (1, .int p1), (2, .int p2), (3, .int p3)] := hl
  unfold f_X8_crack at hf
  refine lv_aload_n X.1.1 X.1.2.1 dX8_crack_0 rfl (lv_at hl 0 rfl) ?_
  obtain ⟨g_a0, hf⟩ := ogd hf
  obtain ⟨q1, eq1, hf⟩ := odq hf
  refine r_getq (k := 8) (j := 1) X hw rfl inX8 g_a0 rfl (by decide) (by decide) uf_X8_19 rfl dX8_crack_1 eq1 ?_
  refine lv_iload_n X.1.1 X.1.2.1 dX8_crack_4 rfl (lv_at hl 1 rfl) ?_
  obtain ⟨g_q1, hf⟩ := ogd hf
  obtain ⟨z2, ez2, hf⟩ := obd hf
  refine r_callVQ (As := [.int p1]) (rest := []) X hw (c_X0_detailAt ez2) (cwV 1 X.1.2.2.2.2 (guV um_X8_178 ui_X0_detailAt us_X0_detailAt un_X0 uo_X0_detailAt) rfl rfl rfl (by decide +kernel) ⟨Nat.le_of_ble_eq_true rfl, Nat.le_of_ble_eq_true rfl⟩) g_q1 (by decide) rfl rfl hl.1 rfl (Nat.le_of_ble_eq_true rfl) dX8_crack_5 ⟨Nat.zero_le _, Nat.zero_le _⟩ (fun H locs hw => ?_)
  obtain ⟨nq3, hf⟩ | ⟨q3, nq3, hf⟩ := omq hf
  · rw [nq3]
    refine lv_astoreN (lv' := [(4, .null), (0, .ref a0), (1, .int p1), (2, .int p2), (3, .int p3)]) X.1.1 X.1.2.1 dX8_crack_8 hl (by decide) rfl (fun ls hl => ?_)
    refine lv_aloadN X.1.1 X.1.2.1 dX8_crack_10 (lv_at hl 0 rfl) ?_
    refine lv_ifnullN (tgt := 37) X.1.1 X.1.2.1 dX8_crack_12 (by decide) ?_
    refine lv_iconst (v := (0 : Int32)) X.1.1 X.1.2.1 dX8_crack_37 (by decide) ?_
    cases hf
    exact r_retI (v := (0 : Int32)) X hw hr hlk rfl dX8_crack_38
  · rw [nq3]
    refine lv_astore (lv' := [(4, .ref q3), (0, .ref a0), (1, .int p1), (2, .int p2), (3, .int p3)]) X.1.1 X.1.2.1 dX8_crack_8 hl (by decide) rfl (fun ls hl => ?_)
    refine lv_aload X.1.1 X.1.2.1 dX8_crack_10 (lv_at hl 0 rfl) ?_
    refine lv_ifnull X.1.1 X.1.2.1 dX8_crack_12 ?_
    refine lv_iload_n X.1.1 X.1.2.1 dX8_crack_15 rfl (lv_at hl 3 rfl) ?_
    refine lv_i2l X.1.1 X.1.2.1 dX8_crack_16 rfl ?_
    refine lv_iconst (v := (0 : Int32)) X.1.1 X.1.2.1 dX8_crack_17 (by decide) ?_
    refine lv_ldc (v := (1000000 : Int32)) X.1.1 X.1.2.1 X.1.2.2.2.1 (X.1.2.2.2.2 _ uc_X8_109) dX8_crack_18 ?_
    obtain ⟨z4, ez4, hf⟩ := obd hf
    refine r_callSI (As := [.long p2.toInt64, .int (0 : Int32), .int (1000000 : Int32)]) (rest := []) X hw (c_X8_isWithin ez4) (va_cwS 3 X.1.2.2.2.2 (guS um_X8_110 ut_X8_isWithin un_X8 uo_X8_isWithin) rfl rfl rfl (by decide +kernel) ⟨Nat.le_of_ble_eq_true rfl, Nat.le_of_ble_eq_true rfl⟩) rfl hl.1 rfl (Nat.le_of_ble_eq_true rfl) dX8_crack_20 ⟨Nat.zero_le _, Nat.zero_le _⟩ (fun H locs hw => ?_)
    refine lv_if_eq (tgt := 37) X.1.1 X.1.2.1 dX8_crack_23 (by decide) (fun c_5 => ?_) (fun c_5 => ?_)
    · skip
      rw [if_pos c_5] at hf
      refine lv_iconst (v := (0 : Int32)) X.1.1 X.1.2.1 dX8_crack_37 (by decide) ?_
      cases hf
      exact r_retI (v := (0 : Int32)) X hw hr hlk rfl dX8_crack_38
    · skip
      rw [if_neg c_5] at hf
      refine lv_iload_n X.1.1 X.1.2.1 dX8_crack_26 rfl (lv_at hl 4 rfl) ?_
      refine lv_i2l X.1.1 X.1.2.1 dX8_crack_27 rfl ?_
      refine lv_iconst (v := (0 : Int32)) X.1.1 X.1.2.1 dX8_crack_28 (by decide) ?_
      refine lv_ldc (v := (4000000 : Int32)) X.1.1 X.1.2.1 X.1.2.2.2.1 (X.1.2.2.2.2 _ uc_X8_207) dX8_crack_29 ?_
      obtain ⟨z6, ez6, hf⟩ := obd hf
      refine r_callSI (As := [.long p3.toInt64, .int (0 : Int32), .int (4000000 : Int32)]) (rest := []) X hw (c_X8_isWithin ez6) (va_cwS 3 X.1.2.2.2.2 (guS um_X8_110 ut_X8_isWithin un_X8 uo_X8_isWithin) rfl rfl rfl (by decide +kernel) ⟨Nat.le_of_ble_eq_true rfl, Nat.le_of_ble_eq_true rfl⟩) rfl hl.1 rfl (Nat.le_of_ble_eq_true rfl) dX8_crack_31 ⟨Nat.zero_le _, Nat.zero_le _⟩ (fun H locs hw => ?_)
      refine lv_if_ne (tgt := 39) X.1.1 X.1.2.1 dX8_crack_34 (by decide) (fun c_7 => ?_) (fun c_7 => ?_)
      · skip
        rw [if_pos c_7] at hf
        refine lv_aload_n X.1.1 X.1.2.1 dX8_crack_39 rfl (lv_at hl 1 rfl) ?_
        refine lv_iload_n X.1.1 X.1.2.1 dX8_crack_40 rfl (lv_at hl 2 rfl) ?_
        refine lv_aload X.1.1 X.1.2.1 dX8_crack_41 (lv_at hl 0 rfl) ?_
        obtain ⟨z8, ez8, hf⟩ := obd hf
        refine r_callVV (As := [.int p1, .ref q3]) (rest := []) X hw (c_X8_keepDetail ez8) (cwV 2 X.1.2.2.2.2 (guV um_X8_182 ui_X8_keepDetail us_X8_keepDetail un_X8 uo_X8_keepDetail) rfl rfl rfl (by decide +kernel) ⟨Nat.le_of_ble_eq_true rfl, Nat.le_of_ble_eq_true rfl⟩) g_a0 (by decide) rfl rfl hl.1 rfl (Nat.le_of_ble_eq_true rfl) dX8_crack_43 ⟨Nat.zero_le _, Nat.zero_le _⟩ (fun H locs hw => ?_)
        refine lv_aload X.1.1 X.1.2.1 dX8_crack_46 (lv_at hl 0 rfl) ?_
        refine lv_iload_n X.1.1 X.1.2.1 dX8_crack_48 rfl (lv_at hl 3 rfl) ?_
        obtain ⟨g_q3, hf⟩ := ogd hf
        refine r_puti (k := 2) (j := 7) X hw rfl inX2 tyX2_ok nmX2 g_q3 rfl (by decide) (by decide) uf_X8_214 rfl rfl rfl rfl dX8_crack_49 (fun H locs hw => ?_)
        obtain ⟨M9, eM9, hf⟩ := olt hf
        rw [← eM9] at hw
        refine lv_aload X.1.1 X.1.2.1 dX8_crack_52 (lv_at hl 0 rfl) ?_
        refine lv_iload_n X.1.1 X.1.2.1 dX8_crack_54 rfl (lv_at hl 4 rfl) ?_
        refine r_puti (k := 2) (j := 8) X hw rfl inX2 tyX2_ok nmX2 g_q3 rfl (by decide) (by decide) uf_X8_217 rfl rfl rfl rfl dX8_crack_55 (fun H locs hw => ?_)
        obtain ⟨M10, eM10, hf⟩ := olt hf
        rw [← eM10] at hw
        refine lv_iconst (v := (1 : Int32)) X.1.1 X.1.2.1 dX8_crack_58 (by decide) ?_
        cases hf
        exact r_retI (v := (1 : Int32)) X hw hr hlk rfl dX8_crack_59
      · skip
        rw [if_neg (fun z => z c_7)] at hf
        refine lv_iconst (v := (0 : Int32)) X.1.1 X.1.2.1 dX8_crack_37 (by decide) ?_
        cases hf
        exact r_retI (v := (0 : Int32)) X hw hr hlk rfl dX8_crack_38
/-! X8_step -/
def f_X8_step (h : Hs) (a0 : Nat) (p1 : Int32) (p2 : Int32) (p3 : Int32) (M : Mm) : Option (Int32 × Mm) :=
  gd (ok h a0 8) <|
  dq (zR h a0 1) fun q1 =>
  gd (ok h q1 0) <|
  (f_X0_detailAt h q1 p1 M).bind fun z2 =>
  mq z2
    (
     some ((-1 : Int32), M)
    )
    (fun q3 =>
     if p2 < 0 then
       some ((-1 : Int32), M)
     else
       (f_X8_isWithin h p3.toInt64 (0 : Int32) (1000000 : Int32) M).bind fun z5 =>
       if z5 = 0 then
         some ((-1 : Int32), M)
       else
         gd (ok h q3 2) <|
         dq (zR h q3 2) fun q7 =>
         gd (ok h q7 3) <|
         (f_X3_takes h q7 p2 M).bind fun z8 =>
         if ¬ z8 = 0 then
           (f_X8_keepDetail h a0 p1 q3 M).bind fun z10 =>
           (f_X3_add h q7 p2 p3 z10).bind fun z11 =>
           some (z11.1, z11.2)
         else
           some ((-1 : Int32), M)
    )
set_option maxHeartbeats 4000000 in
set_option maxRecDepth 100000 in
theorem c_X8_step {l : Launch} {D : va_G} {cy : Nat → ClassId} {h : Hs} {a0 : Nat} {p1 : Int32} {p2 : Int32} {p3 : Int32} {M : Mm} {z : (Int32 × Mm)} (hf : f_X8_step h a0 p1 p2 p3 M = some z) : CtI l D cy yX8_step (wu yX8_step cX8_step 5 (some .int)) ({ frames := 4, cells := 0, slots := 0, locals := 86 }) [.ref a0, .int p1, .int p2, .int p3] h M z.1 z.2 := by
  refine enterI (cc := cX8_step) (maxL := 5) (ret := (some .int)) (by decide) (Nat.le_of_ble_eq_true rfl) ?_
  intro p e s m args below meth c A ls X hw hr hlk hl
  have hl : lv_has ls 5 [(0, .ref a0), (1, .int p1), (2, .int p2), (3, .int p3)] := hl
  unfold f_X8_step at hf
  refine lv_aload_n X.1.1 X.1.2.1 dX8_step_0 rfl (lv_at hl 0 rfl) ?_
  obtain ⟨g_a0, hf⟩ := ogd hf
  obtain ⟨q1, eq1, hf⟩ := odq hf
  refine r_getq (k := 8) (j := 1) X hw rfl inX8 g_a0 rfl (by decide) (by decide) uf_X8_19 rfl dX8_step_1 eq1 ?_
  refine lv_iload_n X.1.1 X.1.2.1 dX8_step_4 rfl (lv_at hl 1 rfl) ?_
  obtain ⟨g_q1, hf⟩ := ogd hf
  obtain ⟨z2, ez2, hf⟩ := obd hf
  refine r_callVQ (As := [.int p1]) (rest := []) X hw (c_X0_detailAt ez2) (cwV 1 X.1.2.2.2.2 (guV um_X8_178 ui_X0_detailAt us_X0_detailAt un_X0 uo_X0_detailAt) rfl rfl rfl (by decide +kernel) ⟨Nat.le_of_ble_eq_true rfl, Nat.le_of_ble_eq_true rfl⟩) g_q1 (by decide) rfl rfl hl.1 rfl (Nat.le_of_ble_eq_true rfl) dX8_step_5 ⟨Nat.zero_le _, Nat.zero_le _⟩ (fun H locs hw => ?_)
  obtain ⟨nq3, hf⟩ | ⟨q3, nq3, hf⟩ := omq hf
  · rw [nq3]
    refine lv_astoreN (lv' := [(4, .null), (0, .ref a0), (1, .int p1), (2, .int p2), (3, .int p3)]) X.1.1 X.1.2.1 dX8_step_8 hl (by decide) rfl (fun ls hl => ?_)
    refine lv_aloadN X.1.1 X.1.2.1 dX8_step_10 (lv_at hl 0 rfl) ?_
    refine lv_ifnullN (tgt := 42) X.1.1 X.1.2.1 dX8_step_12 (by decide) ?_
    refine lv_iconst (v := (-1 : Int32)) X.1.1 X.1.2.1 dX8_step_42 (by decide) ?_
    cases hf
    exact r_retI (v := (-1 : Int32)) X hw hr hlk rfl dX8_step_43
  · rw [nq3]
    refine lv_astore (lv' := [(4, .ref q3), (0, .ref a0), (1, .int p1), (2, .int p2), (3, .int p3)]) X.1.1 X.1.2.1 dX8_step_8 hl (by decide) rfl (fun ls hl => ?_)
    refine lv_aload X.1.1 X.1.2.1 dX8_step_10 (lv_at hl 0 rfl) ?_
    refine lv_ifnull X.1.1 X.1.2.1 dX8_step_12 ?_
    refine lv_iload_n X.1.1 X.1.2.1 dX8_step_15 rfl (lv_at hl 3 rfl) ?_
    refine lv_if_lt (tgt := 42) X.1.1 X.1.2.1 dX8_step_16 (by decide) (fun c_4 => ?_) (fun c_4 => ?_)
    · skip
      rw [if_pos c_4] at hf
      refine lv_iconst (v := (-1 : Int32)) X.1.1 X.1.2.1 dX8_step_42 (by decide) ?_
      cases hf
      exact r_retI (v := (-1 : Int32)) X hw hr hlk rfl dX8_step_43
    · skip
      rw [if_neg c_4] at hf
      refine lv_iload_n X.1.1 X.1.2.1 dX8_step_19 rfl (lv_at hl 4 rfl) ?_
      refine lv_i2l X.1.1 X.1.2.1 dX8_step_20 rfl ?_
      refine lv_iconst (v := (0 : Int32)) X.1.1 X.1.2.1 dX8_step_21 (by decide) ?_
      refine lv_ldc (v := (1000000 : Int32)) X.1.1 X.1.2.1 X.1.2.2.2.1 (X.1.2.2.2.2 _ uc_X8_109) dX8_step_22 ?_
      obtain ⟨z5, ez5, hf⟩ := obd hf
      refine r_callSI (As := [.long p3.toInt64, .int (0 : Int32), .int (1000000 : Int32)]) (rest := []) X hw (c_X8_isWithin ez5) (va_cwS 3 X.1.2.2.2.2 (guS um_X8_110 ut_X8_isWithin un_X8 uo_X8_isWithin) rfl rfl rfl (by decide +kernel) ⟨Nat.le_of_ble_eq_true rfl, Nat.le_of_ble_eq_true rfl⟩) rfl hl.1 rfl (Nat.le_of_ble_eq_true rfl) dX8_step_24 ⟨Nat.zero_le _, Nat.zero_le _⟩ (fun H locs hw => ?_)
      refine lv_if_eq (tgt := 42) X.1.1 X.1.2.1 dX8_step_27 (by decide) (fun c_6 => ?_) (fun c_6 => ?_)
      · skip
        rw [if_pos c_6] at hf
        refine lv_iconst (v := (-1 : Int32)) X.1.1 X.1.2.1 dX8_step_42 (by decide) ?_
        cases hf
        exact r_retI (v := (-1 : Int32)) X hw hr hlk rfl dX8_step_43
      · skip
        rw [if_neg c_6] at hf
        refine lv_aload X.1.1 X.1.2.1 dX8_step_30 (lv_at hl 0 rfl) ?_
        obtain ⟨g_q3, hf⟩ := ogd hf
        obtain ⟨q7, eq7, hf⟩ := odq hf
        refine r_getq (k := 2) (j := 2) X hw rfl inX2 g_q3 rfl (by decide) (by decide) uf_X8_220 rfl dX8_step_32 eq7 ?_
        refine lv_iload_n X.1.1 X.1.2.1 dX8_step_35 rfl (lv_at hl 3 rfl) ?_
        obtain ⟨g_q7, hf⟩ := ogd hf
        obtain ⟨z8, ez8, hf⟩ := obd hf
        refine r_callVI (As := [.int p2]) (rest := []) X hw (c_X3_takes ez8) (cwV 1 X.1.2.2.2.2 (guV um_X8_196 ui_X3_takes us_X3_takes un_X3 uo_X3_takes) rfl rfl rfl (by decide +kernel) ⟨Nat.le_of_ble_eq_true rfl, Nat.le_of_ble_eq_true rfl⟩) g_q7 (by decide) rfl rfl hl.1 rfl (Nat.le_of_ble_eq_true rfl) dX8_step_36 ⟨Nat.zero_le _, Nat.zero_le _⟩ (fun H locs hw => ?_)
        refine lv_if_ne (tgt := 44) X.1.1 X.1.2.1 dX8_step_39 (by decide) (fun c_9 => ?_) (fun c_9 => ?_)
        · skip
          rw [if_pos c_9] at hf
          refine lv_aload_n X.1.1 X.1.2.1 dX8_step_44 rfl (lv_at hl 1 rfl) ?_
          refine lv_iload_n X.1.1 X.1.2.1 dX8_step_45 rfl (lv_at hl 2 rfl) ?_
          refine lv_aload X.1.1 X.1.2.1 dX8_step_46 (lv_at hl 0 rfl) ?_
          obtain ⟨z10, ez10, hf⟩ := obd hf
          refine r_callVV (As := [.int p1, .ref q3]) (rest := []) X hw (c_X8_keepDetail ez10) (cwV 2 X.1.2.2.2.2 (guV um_X8_182 ui_X8_keepDetail us_X8_keepDetail un_X8 uo_X8_keepDetail) rfl rfl rfl (by decide +kernel) ⟨Nat.le_of_ble_eq_true rfl, Nat.le_of_ble_eq_true rfl⟩) g_a0 (by decide) rfl rfl hl.1 rfl (Nat.le_of_ble_eq_true rfl) dX8_step_48 ⟨Nat.zero_le _, Nat.zero_le _⟩ (fun H locs hw => ?_)
          refine lv_aload X.1.1 X.1.2.1 dX8_step_51 (lv_at hl 0 rfl) ?_
          refine r_getq (k := 2) (j := 2) X hw rfl inX2 g_q3 rfl (by decide) (by decide) uf_X8_220 rfl dX8_step_53 eq7 ?_
          refine lv_iload_n X.1.1 X.1.2.1 dX8_step_56 rfl (lv_at hl 3 rfl) ?_
          refine lv_iload_n X.1.1 X.1.2.1 dX8_step_57 rfl (lv_at hl 4 rfl) ?_
          obtain ⟨z11, ez11, hf⟩ := obd hf
          refine r_callVI (As := [.int p2, .int p3]) (rest := []) X hw (c_X3_add ez11) (cwV 2 X.1.2.2.2.2 (guV um_X8_201 ui_X3_add us_X3_add un_X3 uo_X3_add) rfl rfl rfl (by decide +kernel) ⟨Nat.le_of_ble_eq_true rfl, Nat.le_of_ble_eq_true rfl⟩) g_q7 (by decide) rfl rfl hl.1 rfl (Nat.le_of_ble_eq_true rfl) dX8_step_58 ⟨Nat.zero_le _, Nat.zero_le _⟩ (fun H locs hw => ?_)
          cases hf
          exact r_retI (v := z11.1) X hw hr hlk rfl dX8_step_61
        · skip
          rw [if_neg (fun z => z c_9)] at hf
          refine lv_iconst (v := (-1 : Int32)) X.1.1 X.1.2.1 dX8_step_42 (by decide) ?_
          cases hf
          exact r_retI (v := (-1 : Int32)) X hw hr hlk rfl dX8_step_43
/-! X8_mend -/
def f_X8_mend (h : Hs) (a0 : Nat) (p1 : Int32) (M : Mm) : Option (Int32 × Mm) :=
  gd (ok h a0 8) <|
  dq (zR h a0 1) fun q1 =>
  gd (ok h q1 0) <|
  (f_X0_detailAt h q1 p1 M).bind fun z2 =>
  mq z2
    (
     some ((-1 : Int32), M)
    )
    (fun q3 =>
     (f_X8_keepDetail h a0 p1 q3 M).bind fun z4 =>
     gd (ok h q3 2) <|
     (f_X0_gaugeAt h q1 (zI z4 q3 3) z4).bind fun z5 =>
     mq z5
       (
        lt_ (sI z4 q3 4 (0 : Int32)) fun M7 =>
        lt_ (sI M7 q3 7 (-1 : Int32)) fun M8 =>
        some (zI M8 q3 4, M8)
       )
       (fun q6 =>
        (f_X0_spansOf h q1 q6 z4).bind fun z9 =>
        lt_ (sI z4 q3 4 z9) fun M10 =>
        lt_ (sI M10 q3 7 (-1 : Int32)) fun M11 =>
        some (zI M11 q3 4, M11)
       )
    )
set_option maxHeartbeats 4000000 in
set_option maxRecDepth 100000 in
theorem c_X8_mend {l : Launch} {D : va_G} {cy : Nat → ClassId} {h : Hs} {a0 : Nat} {p1 : Int32} {M : Mm} {z : (Int32 × Mm)} (hf : f_X8_mend h a0 p1 M = some z) : CtI l D cy yX8_mend (wu yX8_mend cX8_mend 4 (some .int)) ({ frames := 4, cells := 0, slots := 0, locals := 88 }) [.ref a0, .int p1] h M z.1 z.2 := by
  refine enterI (cc := cX8_mend) (maxL := 4) (ret := (some .int)) (by decide) (Nat.le_of_ble_eq_true rfl) ?_
  intro p e s m args below meth c A ls X hw hr hlk hl
  have hl : lv_has ls 4 [(0, .ref a0), (1, .int p1)] := hl
  unfold f_X8_mend at hf
  refine lv_aload_n X.1.1 X.1.2.1 dX8_mend_0 rfl (lv_at hl 0 rfl) ?_
  obtain ⟨g_a0, hf⟩ := ogd hf
  obtain ⟨q1, eq1, hf⟩ := odq hf
  refine r_getq (k := 8) (j := 1) X hw rfl inX8 g_a0 rfl (by decide) (by decide) uf_X8_19 rfl dX8_mend_1 eq1 ?_
  refine lv_iload_n X.1.1 X.1.2.1 dX8_mend_4 rfl (lv_at hl 1 rfl) ?_
  obtain ⟨g_q1, hf⟩ := ogd hf
  obtain ⟨z2, ez2, hf⟩ := obd hf
  refine r_callVQ (As := [.int p1]) (rest := []) X hw (c_X0_detailAt ez2) (cwV 1 X.1.2.2.2.2 (guV um_X8_178 ui_X0_detailAt us_X0_detailAt un_X0 uo_X0_detailAt) rfl rfl rfl (by decide +kernel) ⟨Nat.le_of_ble_eq_true rfl, Nat.le_of_ble_eq_true rfl⟩) g_q1 (by decide) rfl rfl hl.1 rfl (Nat.le_of_ble_eq_true rfl) dX8_mend_5 ⟨Nat.zero_le _, Nat.zero_le _⟩ (fun H locs hw => ?_)
  obtain ⟨nq3, hf⟩ | ⟨q3, nq3, hf⟩ := omq hf
  · rw [nq3]
    refine lv_astore_nN (lv' := [(2, .null), (0, .ref a0), (1, .int p1)]) X.1.1 X.1.2.1 dX8_mend_8 rfl hl (by decide) rfl (fun ls hl => ?_)
    refine lv_aload_nN X.1.1 X.1.2.1 dX8_mend_9 rfl (lv_at hl 0 rfl) ?_
    refine lv_ifnonnullN X.1.1 X.1.2.1 dX8_mend_10 ?_
    refine lv_iconst (v := (-1 : Int32)) X.1.1 X.1.2.1 dX8_mend_13 (by decide) ?_
    cases hf
    exact r_retI (v := (-1 : Int32)) X hw hr hlk rfl dX8_mend_14
  · rw [nq3]
    refine lv_astore_n (lv' := [(2, .ref q3), (0, .ref a0), (1, .int p1)]) X.1.1 X.1.2.1 dX8_mend_8 rfl hl (by decide) rfl (fun ls hl => ?_)
    refine lv_aload_n X.1.1 X.1.2.1 dX8_mend_9 rfl (lv_at hl 0 rfl) ?_
    refine lv_ifnonnull (tgt := 15) X.1.1 X.1.2.1 dX8_mend_10 (by decide) ?_
    refine lv_aload_n X.1.1 X.1.2.1 dX8_mend_15 rfl (lv_at hl 1 rfl) ?_
    refine lv_iload_n X.1.1 X.1.2.1 dX8_mend_16 rfl (lv_at hl 2 rfl) ?_
    refine lv_aload_n X.1.1 X.1.2.1 dX8_mend_17 rfl (lv_at hl 0 rfl) ?_
    obtain ⟨z4, ez4, hf⟩ := obd hf
    refine r_callVV (As := [.int p1, .ref q3]) (rest := []) X hw (c_X8_keepDetail ez4) (cwV 2 X.1.2.2.2.2 (guV um_X8_182 ui_X8_keepDetail us_X8_keepDetail un_X8 uo_X8_keepDetail) rfl rfl rfl (by decide +kernel) ⟨Nat.le_of_ble_eq_true rfl, Nat.le_of_ble_eq_true rfl⟩) g_a0 (by decide) rfl rfl hl.1 rfl (Nat.le_of_ble_eq_true rfl) dX8_mend_18 ⟨Nat.zero_le _, Nat.zero_le _⟩ (fun H locs hw => ?_)
    refine lv_aload_n X.1.1 X.1.2.1 dX8_mend_21 rfl (lv_at hl 1 rfl) ?_
    refine r_getq (k := 8) (j := 1) X hw rfl inX8 g_a0 rfl (by decide) (by decide) uf_X8_19 rfl dX8_mend_22 eq1 ?_
    refine lv_aload_n X.1.1 X.1.2.1 dX8_mend_25 rfl (lv_at hl 0 rfl) ?_
    obtain ⟨g_q3, hf⟩ := ogd hf
    refine r_geti (k := 2) (j := 3) X hw rfl inX2 g_q3 rfl (by decide) (by decide) uf_X8_186 rfl dX8_mend_26 ?_
    obtain ⟨z5, ez5, hf⟩ := obd hf
    refine r_callVQ (As := [.int (zI z4 q3 3)]) (rest := []) X hw (c_X0_gaugeAt ez5) (cwV 1 X.1.2.2.2.2 (guV um_X8_121 ui_X0_gaugeAt us_X0_gaugeAt un_X0 uo_X0_gaugeAt) rfl rfl rfl (by decide +kernel) ⟨Nat.le_of_ble_eq_true rfl, Nat.le_of_ble_eq_true rfl⟩) g_q1 (by decide) rfl rfl hl.1 rfl (Nat.le_of_ble_eq_true rfl) dX8_mend_29 ⟨Nat.zero_le _, Nat.zero_le _⟩ (fun H locs hw => ?_)
    obtain ⟨nq6, hf⟩ | ⟨q6, nq6, hf⟩ := omq hf
    · rw [nq6]
      refine lv_astore_nN (lv' := [(3, .null), (2, .ref q3), (0, .ref a0), (1, .int p1)]) X.1.1 X.1.2.1 dX8_mend_32 rfl hl (by decide) rfl (fun ls hl => ?_)
      refine lv_aload_n X.1.1 X.1.2.1 dX8_mend_33 rfl (lv_at hl 1 rfl) ?_
      refine lv_aload_nN X.1.1 X.1.2.1 dX8_mend_34 rfl (lv_at hl 0 rfl) ?_
      refine lv_ifnonnullN X.1.1 X.1.2.1 dX8_mend_35 ?_
      refine lv_iconst (v := (0 : Int32)) X.1.1 X.1.2.1 dX8_mend_38 (by decide) ?_
      refine lv_goto (tgt := 50) X.1.1 X.1.2.1 dX8_mend_39 (by decide) ?_
      refine r_puti (k := 2) (j := 4) X hw rfl inX2 tyX2_ok nmX2 g_q3 rfl (by decide) (by decide) uf_X8_223 rfl rfl rfl rfl dX8_mend_50 (fun H locs hw => ?_)
      obtain ⟨M7, eM7, hf⟩ := olt hf
      rw [← eM7] at hw
      refine lv_aload_n X.1.1 X.1.2.1 dX8_mend_53 rfl (lv_at hl 1 rfl) ?_
      refine lv_iconst (v := (-1 : Int32)) X.1.1 X.1.2.1 dX8_mend_54 (by decide) ?_
      refine r_puti (k := 2) (j := 7) X hw rfl inX2 tyX2_ok nmX2 g_q3 rfl (by decide) (by decide) uf_X8_214 rfl rfl rfl rfl dX8_mend_55 (fun H locs hw => ?_)
      obtain ⟨M8, eM8, hf⟩ := olt hf
      rw [← eM8] at hw
      refine lv_aload_n X.1.1 X.1.2.1 dX8_mend_58 rfl (lv_at hl 1 rfl) ?_
      refine r_geti (k := 2) (j := 4) X hw rfl inX2 g_q3 rfl (by decide) (by decide) uf_X8_223 rfl dX8_mend_59 ?_
      cases hf
      exact r_retI (v := zI M8 q3 4) X hw hr hlk rfl dX8_mend_62
    · rw [nq6]
      refine lv_astore_n (lv' := [(3, .ref q6), (2, .ref q3), (0, .ref a0), (1, .int p1)]) X.1.1 X.1.2.1 dX8_mend_32 rfl hl (by decide) rfl (fun ls hl => ?_)
      refine lv_aload_n X.1.1 X.1.2.1 dX8_mend_33 rfl (lv_at hl 1 rfl) ?_
      refine lv_aload_n X.1.1 X.1.2.1 dX8_mend_34 rfl (lv_at hl 0 rfl) ?_
      refine lv_ifnonnull (tgt := 42) X.1.1 X.1.2.1 dX8_mend_35 (by decide) ?_
      refine lv_aload_n X.1.1 X.1.2.1 dX8_mend_42 rfl (lv_at hl 2 rfl) ?_
      refine r_getq (k := 8) (j := 1) X hw rfl inX8 g_a0 rfl (by decide) (by decide) uf_X8_19 rfl dX8_mend_43 eq1 ?_
      refine lv_aload_n X.1.1 X.1.2.1 dX8_mend_46 rfl (lv_at hl 0 rfl) ?_
      obtain ⟨z9, ez9, hf⟩ := obd hf
      refine r_callVI (As := [.ref q6]) (rest := [.ref q3]) X hw (c_X0_spansOf ez9) (cwV 1 X.1.2.2.2.2 (guV um_X8_128 ui_X0_spansOf us_X0_spansOf un_X0 uo_X0_spansOf) rfl rfl rfl (by decide +kernel) ⟨Nat.le_of_ble_eq_true rfl, Nat.le_of_ble_eq_true rfl⟩) g_q1 (by decide) rfl rfl hl.1 rfl (Nat.le_of_ble_eq_true rfl) dX8_mend_47 ⟨Nat.zero_le _, Nat.zero_le _⟩ (fun H locs hw => ?_)
      refine r_puti (k := 2) (j := 4) X hw rfl inX2 tyX2_ok nmX2 g_q3 rfl (by decide) (by decide) uf_X8_223 rfl rfl rfl rfl dX8_mend_50 (fun H locs hw => ?_)
      obtain ⟨M10, eM10, hf⟩ := olt hf
      rw [← eM10] at hw
      refine lv_aload_n X.1.1 X.1.2.1 dX8_mend_53 rfl (lv_at hl 1 rfl) ?_
      refine lv_iconst (v := (-1 : Int32)) X.1.1 X.1.2.1 dX8_mend_54 (by decide) ?_
      refine r_puti (k := 2) (j := 7) X hw rfl inX2 tyX2_ok nmX2 g_q3 rfl (by decide) (by decide) uf_X8_214 rfl rfl rfl rfl dX8_mend_55 (fun H locs hw => ?_)
      obtain ⟨M11, eM11, hf⟩ := olt hf
      rw [← eM11] at hw
      refine lv_aload_n X.1.1 X.1.2.1 dX8_mend_58 rfl (lv_at hl 1 rfl) ?_
      refine r_geti (k := 2) (j := 4) X hw rfl inX2 g_q3 rfl (by decide) (by decide) uf_X8_223 rfl dX8_mend_59 ?_
      cases hf
      exact r_retI (v := zI M11 q3 4) X hw hr hlk rfl dX8_mend_62
/-! X8_reckonWear -/
def f_X8_reckonWear (h : Hs) (a0 : Nat) (p1 : Nat) (M : Mm) : Option Mm :=
  gd (ok h a0 8) <|
  dq (zR h a0 3) fun q1 =>
  gd (ok h q1 7) <|
  (f_X7_begin h q1 M).bind fun z2 =>
  dq (zR h a0 1) fun q3 =>
  gd (ok h p1 2) <|
  gd (ok h q3 0) <|
  (f_X0_gaugeAt h q3 (zI z2 p1 3) z2).bind fun z4 =>
  mq z4
    (
     some z2
    )
    (fun q5 =>
     dq (zR h a0 2) fun q6 =>
     gd (ok h q6 5) <|
     (f_X5_reckon h q6 q3 q5 (zI z2 p1 4) z2).bind fun z7 =>
     (f_X7_reckon h q1 p1 q6 z7).bind fun z8 =>
     some z8
    )
set_option maxHeartbeats 4000000 in
set_option maxRecDepth 100000 in
theorem c_X8_reckonWear {l : Launch} {D : va_G} {cy : Nat → ClassId} {h : Hs} {a0 : Nat} {p1 : Nat} {M : Mm} {z : Mm} (hf : f_X8_reckonWear h a0 p1 M = some z) : CtV l D cy yX8_reckonWear (wu yX8_reckonWear cX8_reckonWear 3 none) ({ frames := 5, cells := 0, slots := 0, locals := 115 }) [.ref a0, .ref p1] h M z := by
  refine enterV (cc := cX8_reckonWear) (maxL := 3) (ret := none) (by decide) (Nat.le_of_ble_eq_true rfl) ?_
  intro p e s m args below meth c A ls X hw hr hlk hl
  have hl : lv_has ls 3 [(0, .ref a0), (1, .ref p1)] := hl
  unfold f_X8_reckonWear at hf
  refine lv_aload_n X.1.1 X.1.2.1 dX8_reckonWear_0 rfl (lv_at hl 0 rfl) ?_
  obtain ⟨g_a0, hf⟩ := ogd hf
  obtain ⟨q1, eq1, hf⟩ := odq hf
  refine r_getq (k := 8) (j := 3) X hw rfl inX8 g_a0 rfl (by decide) (by decide) uf_X8_33 rfl dX8_reckonWear_1 eq1 ?_
  obtain ⟨g_q1, hf⟩ := ogd hf
  obtain ⟨z2, ez2, hf⟩ := obd hf
  refine r_callVV (As := []) (rest := []) X hw (c_X7_begin ez2) (cwV 0 X.1.2.2.2.2 (guV um_X8_346 ui_X7_begin us_X7_begin un_X7 uo_X7_begin) rfl rfl rfl (by decide +kernel) ⟨Nat.le_of_ble_eq_true rfl, Nat.le_of_ble_eq_true rfl⟩) g_q1 (by decide) rfl rfl hl.1 rfl (Nat.le_of_ble_eq_true rfl) dX8_reckonWear_4 ⟨Nat.zero_le _, Nat.zero_le _⟩ (fun H locs hw => ?_)
  refine lv_aload_n X.1.1 X.1.2.1 dX8_reckonWear_7 rfl (lv_at hl 0 rfl) ?_
  obtain ⟨q3, eq3, hf⟩ := odq hf
  refine r_getq (k := 8) (j := 1) X hw rfl inX8 g_a0 rfl (by decide) (by decide) uf_X8_19 rfl dX8_reckonWear_8 eq3 ?_
  refine lv_aload_n X.1.1 X.1.2.1 dX8_reckonWear_11 rfl (lv_at hl 1 rfl) ?_
  obtain ⟨g_p1, hf⟩ := ogd hf
  refine r_geti (k := 2) (j := 3) X hw rfl inX2 g_p1 rfl (by decide) (by decide) uf_X8_186 rfl dX8_reckonWear_12 ?_
  obtain ⟨g_q3, hf⟩ := ogd hf
  obtain ⟨z4, ez4, hf⟩ := obd hf
  refine r_callVQ (As := [.int (zI z2 p1 3)]) (rest := []) X hw (c_X0_gaugeAt ez4) (cwV 1 X.1.2.2.2.2 (guV um_X8_121 ui_X0_gaugeAt us_X0_gaugeAt un_X0 uo_X0_gaugeAt) rfl rfl rfl (by decide +kernel) ⟨Nat.le_of_ble_eq_true rfl, Nat.le_of_ble_eq_true rfl⟩) g_q3 (by decide) rfl rfl hl.1 rfl (Nat.le_of_ble_eq_true rfl) dX8_reckonWear_15 ⟨Nat.zero_le _, Nat.zero_le _⟩ (fun H locs hw => ?_)
  obtain ⟨nq5, hf⟩ | ⟨q5, nq5, hf⟩ := omq hf
  · rw [nq5]
    refine lv_astore_nN (lv' := [(2, .null), (0, .ref a0), (1, .ref p1)]) X.1.1 X.1.2.1 dX8_reckonWear_18 rfl hl (by decide) rfl (fun ls hl => ?_)
    refine lv_aload_nN X.1.1 X.1.2.1 dX8_reckonWear_19 rfl (lv_at hl 0 rfl) ?_
    refine lv_ifnullN (tgt := 51) X.1.1 X.1.2.1 dX8_reckonWear_20 (by decide) ?_
    cases hf
    exact r_retV X hw hr hlk dX8_reckonWear_51
  · rw [nq5]
    refine lv_astore_n (lv' := [(2, .ref q5), (0, .ref a0), (1, .ref p1)]) X.1.1 X.1.2.1 dX8_reckonWear_18 rfl hl (by decide) rfl (fun ls hl => ?_)
    refine lv_aload_n X.1.1 X.1.2.1 dX8_reckonWear_19 rfl (lv_at hl 0 rfl) ?_
    refine lv_ifnull X.1.1 X.1.2.1 dX8_reckonWear_20 ?_
    refine lv_aload_n X.1.1 X.1.2.1 dX8_reckonWear_23 rfl (lv_at hl 1 rfl) ?_
    obtain ⟨q6, eq6, hf⟩ := odq hf
    refine r_getq (k := 8) (j := 2) X hw rfl inX8 g_a0 rfl (by decide) (by decide) uf_X8_26 rfl dX8_reckonWear_24 eq6 ?_
    refine lv_aload_n X.1.1 X.1.2.1 dX8_reckonWear_27 rfl (lv_at hl 1 rfl) ?_
    refine r_getq (k := 8) (j := 1) X hw rfl inX8 g_a0 rfl (by decide) (by decide) uf_X8_19 rfl dX8_reckonWear_28 eq3 ?_
    refine lv_aload_n X.1.1 X.1.2.1 dX8_reckonWear_31 rfl (lv_at hl 0 rfl) ?_
    refine lv_aload_n X.1.1 X.1.2.1 dX8_reckonWear_32 rfl (lv_at hl 2 rfl) ?_
    refine r_geti (k := 2) (j := 4) X hw rfl inX2 g_p1 rfl (by decide) (by decide) uf_X8_223 rfl dX8_reckonWear_33 ?_
    obtain ⟨g_q6, hf⟩ := ogd hf
    obtain ⟨z7, ez7, hf⟩ := obd hf
    refine r_callVV (As := [.ref q3, .ref q5, .int (zI z2 p1 4)]) (rest := []) X hw (c_X5_reckon ez7) (cwV 3 X.1.2.2.2.2 (guV um_X8_124 ui_X5_reckon us_X5_reckon un_X5 uo_X5_reckon) rfl rfl rfl (by decide +kernel) ⟨Nat.le_of_ble_eq_true rfl, Nat.le_of_ble_eq_true rfl⟩) g_q6 (by decide) rfl rfl hl.1 rfl (Nat.le_of_ble_eq_true rfl) dX8_reckonWear_36 ⟨Nat.zero_le _, Nat.zero_le _⟩ (fun H locs hw => ?_)
    refine lv_aload_n X.1.1 X.1.2.1 dX8_reckonWear_39 rfl (lv_at hl 1 rfl) ?_
    refine r_getq (k := 8) (j := 3) X hw rfl inX8 g_a0 rfl (by decide) (by decide) uf_X8_33 rfl dX8_reckonWear_40 eq1 ?_
    refine lv_aload_n X.1.1 X.1.2.1 dX8_reckonWear_43 rfl (lv_at hl 2 rfl) ?_
    refine lv_aload_n X.1.1 X.1.2.1 dX8_reckonWear_44 rfl (lv_at hl 1 rfl) ?_
    refine r_getq (k := 8) (j := 2) X hw rfl inX8 g_a0 rfl (by decide) (by decide) uf_X8_26 rfl dX8_reckonWear_45 eq6 ?_
    obtain ⟨z8, ez8, hf⟩ := obd hf
    refine r_callVV (As := [.ref p1, .ref q6]) (rest := []) X hw (c_X7_reckon ez8) (cwV 2 X.1.2.2.2.2 (guV um_X8_347 ui_X7_reckon us_X7_reckon un_X7 uo_X7_reckon) rfl rfl rfl (by decide +kernel) ⟨Nat.le_of_ble_eq_true rfl, Nat.le_of_ble_eq_true rfl⟩) g_q1 (by decide) rfl rfl hl.1 rfl (Nat.le_of_ble_eq_true rfl) dX8_reckonWear_48 ⟨Nat.zero_le _, Nat.zero_le _⟩ (fun H locs hw => ?_)
    cases hf
    exact r_retV X hw hr hlk dX8_reckonWear_51
/-! X8_left -/
def f_X8_left (h : Hs) (a0 : Nat) (p1 : Int32) (p2 : Int32) (M : Mm) : Option (Int32 × Mm) :=
  gd (ok h a0 8) <|
  dq (zR h a0 1) fun q1 =>
  gd (ok h q1 0) <|
  (f_X0_detailAt h q1 p1 M).bind fun z2 =>
  mq z2
    (
     some ((-1 : Int32), M)
    )
    (fun q3 =>
     (f_X8_isWithin h p2.toInt64 (1 : Int32) (100000 : Int32) M).bind fun z4 =>
     if ¬ z4 = 0 then
       (f_X8_reckonWear h a0 q3 M).bind fun z6 =>
       dq (zR h a0 3) fun q7 =>
       gd (ok h q7 7) <|
       lt_ (zJ z6 q7 1) fun x8 =>
       if (1 : Int64) ≤ x8 then
         if x8 < (1441440000000 : Int64) then
           gd (¬ x8 = 0) <|
           lt_ ((((((1441440000000 : Int64) - x8) * p2.toInt64) + x8) - (1 : Int64)) / x8) fun x12 =>
           some ((if (2147483647 : Int64) < x12 then (2147483647 : Int64) else x12).toInt32, z6)
         else
           some ((0 : Int32), z6)
       else
         some ((-1 : Int32), z6)
     else
       some ((-1 : Int32), M)
    )
set_option maxHeartbeats 4000000 in
set_option maxRecDepth 100000 in
theorem c_X8_left {l : Launch} {D : va_G} {cy : Nat → ClassId} {h : Hs} {a0 : Nat} {p1 : Int32} {p2 : Int32} {M : Mm} {z : (Int32 × Mm)} (hf : f_X8_left h a0 p1 p2 M = some z) : CtI l D cy yX8_left (wu yX8_left cX8_left 8 (some .int)) ({ frames := 6, cells := 0, slots := 0, locals := 137 }) [.ref a0, .int p1, .int p2] h M z.1 z.2 := by
  refine enterI (cc := cX8_left) (maxL := 8) (ret := (some .int)) (by decide) (Nat.le_of_ble_eq_true rfl) ?_
  intro p e s m args below meth c A ls X hw hr hlk hl
  have hl : lv_has ls 8 [(0, .ref a0), (1, .int p1), (2, .int p2)] := hl
  unfold f_X8_left at hf
  refine lv_aload_n X.1.1 X.1.2.1 dX8_left_0 rfl (lv_at hl 0 rfl) ?_
  obtain ⟨g_a0, hf⟩ := ogd hf
  obtain ⟨q1, eq1, hf⟩ := odq hf
  refine r_getq (k := 8) (j := 1) X hw rfl inX8 g_a0 rfl (by decide) (by decide) uf_X8_19 rfl dX8_left_1 eq1 ?_
  refine lv_iload_n X.1.1 X.1.2.1 dX8_left_4 rfl (lv_at hl 1 rfl) ?_
  obtain ⟨g_q1, hf⟩ := ogd hf
  obtain ⟨z2, ez2, hf⟩ := obd hf
  refine r_callVQ (As := [.int p1]) (rest := []) X hw (c_X0_detailAt ez2) (cwV 1 X.1.2.2.2.2 (guV um_X8_178 ui_X0_detailAt us_X0_detailAt un_X0 uo_X0_detailAt) rfl rfl rfl (by decide +kernel) ⟨Nat.le_of_ble_eq_true rfl, Nat.le_of_ble_eq_true rfl⟩) g_q1 (by decide) rfl rfl hl.1 rfl (Nat.le_of_ble_eq_true rfl) dX8_left_5 ⟨Nat.zero_le _, Nat.zero_le _⟩ (fun H locs hw => ?_)
  obtain ⟨nq3, hf⟩ | ⟨q3, nq3, hf⟩ := omq hf
  · rw [nq3]
    refine lv_astore_nN (lv' := [(3, .null), (0, .ref a0), (1, .int p1), (2, .int p2)]) X.1.1 X.1.2.1 dX8_left_8 rfl hl (by decide) rfl (fun ls hl => ?_)
    refine lv_aload_nN X.1.1 X.1.2.1 dX8_left_9 rfl (lv_at hl 0 rfl) ?_
    refine lv_ifnullN (tgt := 25) X.1.1 X.1.2.1 dX8_left_10 (by decide) ?_
    refine lv_iconst (v := (-1 : Int32)) X.1.1 X.1.2.1 dX8_left_25 (by decide) ?_
    cases hf
    exact r_retI (v := (-1 : Int32)) X hw hr hlk rfl dX8_left_26
  · rw [nq3]
    refine lv_astore_n (lv' := [(3, .ref q3), (0, .ref a0), (1, .int p1), (2, .int p2)]) X.1.1 X.1.2.1 dX8_left_8 rfl hl (by decide) rfl (fun ls hl => ?_)
    refine lv_aload_n X.1.1 X.1.2.1 dX8_left_9 rfl (lv_at hl 0 rfl) ?_
    refine lv_ifnull X.1.1 X.1.2.1 dX8_left_10 ?_
    refine lv_iload_n X.1.1 X.1.2.1 dX8_left_13 rfl (lv_at hl 3 rfl) ?_
    refine lv_i2l X.1.1 X.1.2.1 dX8_left_14 rfl ?_
    refine lv_iconst (v := (1 : Int32)) X.1.1 X.1.2.1 dX8_left_15 (by decide) ?_
    refine lv_ldcw (v := (100000 : Int32)) X.1.1 X.1.2.1 X.1.2.2.2.1 (X.1.2.2.2.2 _ uc_X8_259) dX8_left_16 ?_
    obtain ⟨z4, ez4, hf⟩ := obd hf
    refine r_callSI (As := [.long p2.toInt64, .int (1 : Int32), .int (100000 : Int32)]) (rest := []) X hw (c_X8_isWithin ez4) (va_cwS 3 X.1.2.2.2.2 (guS um_X8_110 ut_X8_isWithin un_X8 uo_X8_isWithin) rfl rfl rfl (by decide +kernel) ⟨Nat.le_of_ble_eq_true rfl, Nat.le_of_ble_eq_true rfl⟩) rfl hl.1 rfl (Nat.le_of_ble_eq_true rfl) dX8_left_19 ⟨Nat.zero_le _, Nat.zero_le _⟩ (fun H locs hw => ?_)
    refine lv_if_ne (tgt := 27) X.1.1 X.1.2.1 dX8_left_22 (by decide) (fun c_5 => ?_) (fun c_5 => ?_)
    · skip
      rw [if_pos c_5] at hf
      refine lv_aload_n X.1.1 X.1.2.1 dX8_left_27 rfl (lv_at hl 1 rfl) ?_
      refine lv_aload_n X.1.1 X.1.2.1 dX8_left_28 rfl (lv_at hl 0 rfl) ?_
      obtain ⟨z6, ez6, hf⟩ := obd hf
      refine r_callVV (As := [.ref q3]) (rest := []) X hw (c_X8_reckonWear ez6) (cwV 1 X.1.2.2.2.2 (guV um_X8_228 ui_X8_reckonWear us_X8_reckonWear un_X8 uo_X8_reckonWear) rfl rfl rfl (by decide +kernel) ⟨Nat.le_of_ble_eq_true rfl, Nat.le_of_ble_eq_true rfl⟩) g_a0 (by decide) rfl rfl hl.1 rfl (Nat.le_of_ble_eq_true rfl) dX8_left_29 ⟨Nat.zero_le _, Nat.zero_le _⟩ (fun H locs hw => ?_)
      refine lv_aload_n X.1.1 X.1.2.1 dX8_left_32 rfl (lv_at hl 1 rfl) ?_
      obtain ⟨q7, eq7, hf⟩ := odq hf
      refine r_getq (k := 8) (j := 3) X hw rfl inX8 g_a0 rfl (by decide) (by decide) uf_X8_33 rfl dX8_left_33 eq7 ?_
      obtain ⟨g_q7, hf⟩ := ogd hf
      refine r_getl (k := 7) (j := 1) X hw rfl inX7 g_q7 rfl (by decide) (by decide) uf_X8_232 rfl dX8_left_36 ?_
      refine lv_topl (fun x8 ex8 => ?_)
      have hf := oltE ex8 hf
      refine lv_lstore (lv' := [(4, .long x8), (3, .ref q3), (0, .ref a0), (1, .int p1), (2, .int p2)]) X.1.1 X.1.2.1 dX8_left_39 hl (by decide) rfl (fun ls hl => ?_)
      refine lv_lload X.1.1 X.1.2.1 dX8_left_41 (lv_at hl 0 rfl) ?_
      refine lv_lconst (v := (1 : Int64)) X.1.1 X.1.2.1 dX8_left_43 (by decide) ?_
      refine W.lcmp X.1.1 X.1.2.1 dX8_left_44 ?_
      refine lv_if_ge (tgt := 50) X.1.1 X.1.2.1 dX8_left_45 (by decide) (fun c_9 => ?_) (fun c_9 => ?_)
      · skip
        rw [lg_cmp_ge] at c_9
        rw [if_pos c_9] at hf
        refine lv_lload X.1.1 X.1.2.1 dX8_left_50 (lv_at hl 0 rfl) ?_
        refine lv_ldc2 (v := (1441440000000 : Int64)) X.1.1 X.1.2.1 X.1.2.2.2.1 (X.1.2.2.2.2 _ uk_X8_239) dX8_left_52 ?_
        refine W.lcmp X.1.1 X.1.2.1 dX8_left_55 ?_
        refine lv_if_lt (tgt := 61) X.1.1 X.1.2.1 dX8_left_56 (by decide) (fun c_10 => ?_) (fun c_10 => ?_)
        · skip
          rw [lg_cmp_lt] at c_10
          rw [if_pos c_10] at hf
          refine lv_ldc2 (v := (1441440000000 : Int64)) X.1.1 X.1.2.1 X.1.2.2.2.1 (X.1.2.2.2.2 _ uk_X8_239) dX8_left_61 ?_
          refine lv_lload X.1.1 X.1.2.1 dX8_left_64 (lv_at hl 0 rfl) ?_
          refine lv_lsub X.1.1 X.1.2.1 dX8_left_66 ?_
          refine lv_iload_n X.1.1 X.1.2.1 dX8_left_67 rfl (lv_at hl 4 rfl) ?_
          refine lv_i2l X.1.1 X.1.2.1 dX8_left_68 rfl ?_
          refine lv_lmul X.1.1 X.1.2.1 dX8_left_69 ?_
          refine lv_lload X.1.1 X.1.2.1 dX8_left_70 (lv_at hl 0 rfl) ?_
          refine lv_ladd X.1.1 X.1.2.1 dX8_left_72 ?_
          refine lv_lconst (v := (1 : Int64)) X.1.1 X.1.2.1 dX8_left_73 (by decide) ?_
          refine lv_lsub X.1.1 X.1.2.1 dX8_left_74 ?_
          refine lv_lload X.1.1 X.1.2.1 dX8_left_75 (lv_at hl 0 rfl) ?_
          obtain ⟨n_11, hf⟩ := ogd hf
          refine lv_ldiv X.1.1 X.1.2.1 dX8_left_77 n_11 ?_
          refine lv_topl (fun x12 ex12 => ?_)
          have hf := oltE ex12 hf
          refine lv_lstore (lv' := [(6, .long x12), (4, .long x8), (3, .ref q3), (0, .ref a0), (1, .int p1), (2, .int p2)]) X.1.1 X.1.2.1 dX8_left_78 hl (by decide) rfl (fun ls hl => ?_)
          refine lv_lload X.1.1 X.1.2.1 dX8_left_80 (lv_at hl 0 rfl) ?_
          refine lv_ldc2 (v := (2147483647 : Int64)) X.1.1 X.1.2.1 X.1.2.2.2.1 (X.1.2.2.2.2 _ uk_X8_260) dX8_left_82 ?_
          refine va_mmin_long X.1.1 X.1.2.1 (X.1.2.2.1.trans hl.1.symm) X.1.2.2.2.1 (X.1.2.2.2.2 _ um_X8_262) (X.1.2.2.2.2 _ ut_Lib_MathLoose_min_long_x) (X.1.2.2.2.2 _ un_java_lang_Math) (X.1.2.2.2.2 _ uo_Lib_MathLoose_min_long_x) (Nat.le_of_ble_eq_true rfl) (Nat.le_of_ble_eq_true rfl) (Nat.zero_le _) (Nat.zero_le _) dX8_left_85 ?_
          refine lv_l2i X.1.1 X.1.2.1 dX8_left_88 rfl ?_
          cases hf
          exact r_retI (v := (if (2147483647 : Int64) < x12 then (2147483647 : Int64) else x12).toInt32) X hw hr hlk rfl dX8_left_89
        · skip
          rw [lg_cmp_lt] at c_10
          rw [if_neg c_10] at hf
          refine lv_iconst (v := (0 : Int32)) X.1.1 X.1.2.1 dX8_left_59 (by decide) ?_
          cases hf
          exact r_retI (v := (0 : Int32)) X hw hr hlk rfl dX8_left_60
      · skip
        rw [lg_cmp_ge] at c_9
        rw [if_neg c_9] at hf
        refine lv_iconst (v := (-1 : Int32)) X.1.1 X.1.2.1 dX8_left_48 (by decide) ?_
        cases hf
        exact r_retI (v := (-1 : Int32)) X hw hr hlk rfl dX8_left_49
    · skip
      rw [if_neg (fun z => z c_5)] at hf
      refine lv_iconst (v := (-1 : Int32)) X.1.1 X.1.2.1 dX8_left_25 (by decide) ?_
      cases hf
      exact r_retI (v := (-1 : Int32)) X hw hr hlk rfl dX8_left_26
/-! X8_crackLength -/
def lp_X8_crackLength_42 (h : Hs) (p1 : Nat) (a0 : Nat) (q5 : Nat) (M : Mm) : Nat → Int32 → Int32 → Option (Int32 × Int32)
  | 0, _, _ => none
  | n + 1, v2, v4 =>
    if (zI M q5 11) ≤ v4 then
      some (v2, v4)
    else
      (f_X5_firstOf h q5 v4 M).bind fun z8 =>
      (f_X5_secondOf h q5 v4 M).bind fun z9 =>
      (f_X2_effectOf h p1 q5 z8 z9 M).bind fun z10 =>
      Option.bind (
        if z10 ≤ (zI M p1 8) then
          some v2
        else
          (f_X2_growthAt h p1 v2 M).bind fun z12 =>
          lt_ (if (1000000000 : Int32) < (v2 + z12) then (1000000000 : Int32) else v2 + z12) fun x13 =>
          some x13
        ) fun y14 =>
      lt_ (v4 + (1 : Int32)) fun x15 =>
      lp_X8_crackLength_42 h p1 a0 q5 M n y14 x15
set_option maxHeartbeats 4000000 in
set_option maxRecDepth 100000 in
theorem wlp_X8_crackLength_42 {l : Launch} {D : va_G} {cy : Nat → ClassId} {h : Hs} {p1 : Nat} {a0 : Nat} {q5 : Nat} {M : Mm} {p : Program} {e : Env} {s : State} {m : MethodId} {args : Array Value} {below : List Frame} {meth : Method} {c : Code} {A : Nat → Prop} (X : Cx p s m args c cX8_crackLength 5 gtbl RX8 D cy A) {Q : State → Prop} (g_p1 : ok h p1 2) (g_a0 : ok h a0 8) (g_q5 : ok h q5 5) (eq5 : zR h a0 2 = some q5) : ∀ (n : Nat) (v2 : Int32) (v4 : Int32) (z : (Int32 × Int32)) (H : Heap) (locs : List Loc) (ls : Array Slot), lp_X8_crackLength_42 h p1 a0 q5 M n v2 v4 = some z → Wd D cy A s.heap h M H locs → lv_has ls 5 [(2, .int v2), (4, .int v4), (0, .ref a0), (1, .ref p1)] → (∀ x : (Int32 × Int32), z = x → ∀ (H : Heap) (locs : List Loc) (ls : Array Slot), Wd D cy A s.heap h M H locs → lv_has ls 5 [(2, .int x.1), (4, .int x.2), (0, .ref a0), (1, .ref p1)] → W p l e ({ frames := 5, cells := 0, slots := 0, locals := 115 } : Room) s m args below meth c H locs 0 0 Q (F0 m 107 ls [])) → W p l e ({ frames := 5, cells := 0, slots := 0, locals := 115 } : Room) s m args below meth c H locs 0 0 Q (F0 m 42 ls []) := by
  intro n
  induction n with
  | zero => intro v2 v4 z H locs ls hf hw hl kx; exact absurd hf (by intro q; cases q)
  | succ n ih =>
    intro v2 v4 z H locs ls hf hw hl kx
    unfold lp_X8_crackLength_42 at hf
    refine lv_iload X.1.1 X.1.2.1 dX8_crackLength_42 (lv_at hl 1 rfl) ?_
    refine lv_aload_n X.1.1 X.1.2.1 dX8_crackLength_44 rfl (lv_at hl 2 rfl) ?_
    refine r_getq (k := 8) (j := 2) X hw rfl inX8 g_a0 rfl (by decide) (by decide) uf_X8_26 rfl dX8_crackLength_45 eq5 ?_
    refine r_geti (k := 5) (j := 11) X hw rfl inX5 g_q5 rfl (by decide) (by decide) uf_X8_144 rfl dX8_crackLength_48 ?_
    refine lv_icmp_ge (tgt := 107) X.1.1 X.1.2.1 dX8_crackLength_51 (by decide) (fun c_7 => ?_) (fun c_7 => ?_)
    · skip
      rw [if_pos c_7] at hf
      cases hf
      exact kx _ rfl _ _ _ hw (lv_sub hl [0, 1, 2, 3] rfl)
    · skip
      rw [if_neg c_7] at hf
      refine lv_aload_n X.1.1 X.1.2.1 dX8_crackLength_54 rfl (lv_at hl 3 rfl) ?_
      refine lv_aload_n X.1.1 X.1.2.1 dX8_crackLength_55 rfl (lv_at hl 2 rfl) ?_
      refine r_getq (k := 8) (j := 2) X hw rfl inX8 g_a0 rfl (by decide) (by decide) uf_X8_26 rfl dX8_crackLength_56 eq5 ?_
      refine lv_aload_n X.1.1 X.1.2.1 dX8_crackLength_59 rfl (lv_at hl 2 rfl) ?_
      refine r_getq (k := 8) (j := 2) X hw rfl inX8 g_a0 rfl (by decide) (by decide) uf_X8_26 rfl dX8_crackLength_60 eq5 ?_
      refine lv_iload X.1.1 X.1.2.1 dX8_crackLength_63 (lv_at hl 1 rfl) ?_
      obtain ⟨z8, ez8, hf⟩ := obd hf
      refine r_callVI (As := [.int v4]) (rest := [.ref q5, .ref p1]) X hw (c_X5_firstOf ez8) (cwV 1 X.1.2.2.2.2 (guV um_X8_316 ui_X5_firstOf us_X5_firstOf un_X5 uo_X5_firstOf) rfl rfl rfl (by decide +kernel) ⟨Nat.le_of_ble_eq_true rfl, Nat.le_of_ble_eq_true rfl⟩) g_q5 (by decide) rfl rfl hl.1 rfl (Nat.le_of_ble_eq_true rfl) dX8_crackLength_65 ⟨Nat.zero_le _, Nat.zero_le _⟩ (fun H locs hw => ?_)
      refine lv_aload_n X.1.1 X.1.2.1 dX8_crackLength_68 rfl (lv_at hl 2 rfl) ?_
      refine r_getq (k := 8) (j := 2) X hw rfl inX8 g_a0 rfl (by decide) (by decide) uf_X8_26 rfl dX8_crackLength_69 eq5 ?_
      refine lv_iload X.1.1 X.1.2.1 dX8_crackLength_72 (lv_at hl 1 rfl) ?_
      obtain ⟨z9, ez9, hf⟩ := obd hf
      refine r_callVI (As := [.int v4]) (rest := [.int z8, .ref q5, .ref p1]) X hw (c_X5_secondOf ez9) (cwV 1 X.1.2.2.2.2 (guV um_X8_319 ui_X5_secondOf us_X5_secondOf un_X5 uo_X5_secondOf) rfl rfl rfl (by decide +kernel) ⟨Nat.le_of_ble_eq_true rfl, Nat.le_of_ble_eq_true rfl⟩) g_q5 (by decide) rfl rfl hl.1 rfl (Nat.le_of_ble_eq_true rfl) dX8_crackLength_74 ⟨Nat.zero_le _, Nat.zero_le _⟩ (fun H locs hw => ?_)
      obtain ⟨z10, ez10, hf⟩ := obd hf
      refine r_callVI (As := [.ref q5, .int z8, .int z9]) (rest := []) X hw (c_X2_effectOf ez10) (cwV 3 X.1.2.2.2.2 (guV um_X8_350 ui_X2_effectOf us_X2_effectOf un_X2 uo_X2_effectOf) rfl rfl rfl (by decide +kernel) ⟨Nat.le_of_ble_eq_true rfl, Nat.le_of_ble_eq_true rfl⟩) g_p1 (by decide) rfl rfl hl.1 rfl (Nat.le_of_ble_eq_true rfl) dX8_crackLength_77 ⟨Nat.zero_le _, Nat.zero_le _⟩ (fun H locs hw => ?_)
      refine lv_aload_n X.1.1 X.1.2.1 dX8_crackLength_80 rfl (lv_at hl 3 rfl) ?_
      refine r_geti (k := 2) (j := 8) X hw rfl inX2 g_p1 rfl (by decide) (by decide) uf_X8_217 rfl dX8_crackLength_81 ?_
      obtain ⟨y14, ey14, hf⟩ := obd hf
      have Jy14 : ∀ (H : Heap) (locs : List Loc) (ls : Array Slot), Wd D cy A s.heap h M H locs → lv_has ls 5 [(2, .int y14), (4, .int v4), (0, .ref a0), (1, .ref p1)] → W p l e ({ frames := 5, cells := 0, slots := 0, locals := 115 } : Room) s m args below meth c H locs 0 0 Q (F0 m 101 ls []) := by
        intro H locs ls hw hl
        obtain ⟨x15, ex15, hf⟩ := olt hf
        refine lv_iinc (v := x15) (lv' := [(4, .int x15), (2, .int y14), (0, .ref a0), (1, .ref p1)]) X.1.1 X.1.2.1 dX8_crackLength_101 hl (k := 1) rfl (by rw [ex15]; rfl) (by decide) rfl (fun ls hl => ?_)
        refine lv_goto (tgt := 42) X.1.1 X.1.2.1 dX8_crackLength_104 (by decide) ?_
        exact ih _ _ _ _ _ _ hf hw (lv_sub hl [1, 0, 2, 3] rfl) kx
      clear hf
      have hf := ey14
      clear ey14
      refine lv_icmp_le (tgt := 101) X.1.1 X.1.2.1 dX8_crackLength_84 (by decide) (fun c_11 => ?_) (fun c_11 => ?_)
      · skip
        rw [if_pos c_11] at hf
        cases hf
        exact Jy14 _ _ _ hw (lv_sub hl [0, 1, 2, 3] rfl)
      · skip
        rw [if_neg c_11] at hf
        refine lv_iload_n X.1.1 X.1.2.1 dX8_crackLength_87 rfl (lv_at hl 0 rfl) ?_
        refine lv_aload_n X.1.1 X.1.2.1 dX8_crackLength_88 rfl (lv_at hl 3 rfl) ?_
        refine lv_iload_n X.1.1 X.1.2.1 dX8_crackLength_89 rfl (lv_at hl 0 rfl) ?_
        obtain ⟨z12, ez12, hf⟩ := obd hf
        refine r_callVI (As := [.int v2]) (rest := [.int v2]) X hw (c_X2_growthAt ez12) (cwV 1 X.1.2.2.2.2 (guV um_X8_354 ui_X2_growthAt us_X2_growthAt un_X2 uo_X2_growthAt) rfl rfl rfl (by decide +kernel) ⟨Nat.le_of_ble_eq_true rfl, Nat.le_of_ble_eq_true rfl⟩) g_p1 (by decide) rfl rfl hl.1 rfl (Nat.le_of_ble_eq_true rfl) dX8_crackLength_90 ⟨Nat.zero_le _, Nat.zero_le _⟩ (fun H locs hw => ?_)
        refine lv_iadd X.1.1 X.1.2.1 dX8_crackLength_93 ?_
        refine lv_ldcw (v := (1000000000 : Int32)) X.1.1 X.1.2.1 X.1.2.2.2.1 (X.1.2.2.2.2 _ uc_X8_357) dX8_crackLength_94 ?_
        refine va_mmin X.1.1 X.1.2.1 (X.1.2.2.1.trans hl.1.symm) X.1.2.2.2.1 (X.1.2.2.2.2 _ um_X8_358) (X.1.2.2.2.2 _ ut_Lib_Math_min_name) (X.1.2.2.2.2 _ un_java_lang_Math) (X.1.2.2.2.2 _ uo_Lib_Math_min_name) (Nat.le_of_ble_eq_true rfl) (Nat.le_of_ble_eq_true rfl) (Nat.zero_le _) (Nat.zero_le _) dX8_crackLength_97 ?_
        refine lv_topi (fun x13 ex13 => ?_)
        have hf := oltE ex13 hf
        refine lv_istore_n (lv' := [(2, .int x13), (4, .int v4), (0, .ref a0), (1, .ref p1)]) X.1.1 X.1.2.1 dX8_crackLength_100 rfl hl (by decide) rfl (fun ls hl => ?_)
        cases hf
        exact Jy14 _ _ _ hw (lv_sub hl [0, 1, 2, 3] rfl)
def f_X8_crackLength (h : Hs) (a0 : Nat) (p1 : Nat) (M : Mm) : Option (Int32 × Mm) :=
  gd (ok h p1 2) <|
  lt_ (zI M p1 7) fun x1 =>
  gd (ok h a0 8) <|
  dq (zR h a0 1) fun q2 =>
  gd (ok h q2 0) <|
  (f_X0_gaugeAt h q2 (zI M p1 3) M).bind fun z3 =>
  mq z3
    (
     some (x1, M)
    )
    (fun q4 =>
     dq (zR h a0 2) fun q5 =>
     gd (ok h q5 5) <|
     (f_X5_reckon h q5 q2 q4 (zI M p1 4) M).bind fun z6 =>
     (lp_X8_crackLength_42 h p1 a0 q5 z6 fuel x1 (0 : Int32)).bind fun z16 =>
     some (z16.1, z6)
    )
set_option maxHeartbeats 4000000 in
set_option maxRecDepth 100000 in
theorem c_X8_crackLength {l : Launch} {D : va_G} {cy : Nat → ClassId} {h : Hs} {a0 : Nat} {p1 : Nat} {M : Mm} {z : (Int32 × Mm)} (hf : f_X8_crackLength h a0 p1 M = some z) : CtI l D cy yX8_crackLength (wu yX8_crackLength cX8_crackLength 5 (some .int)) ({ frames := 5, cells := 0, slots := 0, locals := 115 }) [.ref a0, .ref p1] h M z.1 z.2 := by
  refine enterI (cc := cX8_crackLength) (maxL := 5) (ret := (some .int)) (by decide) (Nat.le_of_ble_eq_true rfl) ?_
  intro p e s m args below meth c A ls X hw hr hlk hl
  have hl : lv_has ls 5 [(0, .ref a0), (1, .ref p1)] := hl
  unfold f_X8_crackLength at hf
  refine lv_aload_n X.1.1 X.1.2.1 dX8_crackLength_0 rfl (lv_at hl 1 rfl) ?_
  obtain ⟨g_p1, hf⟩ := ogd hf
  refine r_geti (k := 2) (j := 7) X hw rfl inX2 g_p1 rfl (by decide) (by decide) uf_X8_214 rfl dX8_crackLength_1 ?_
  refine lv_topi (fun x1 ex1 => ?_)
  have hf := oltE ex1 hf
  refine lv_istore_n (lv' := [(2, .int x1), (0, .ref a0), (1, .ref p1)]) X.1.1 X.1.2.1 dX8_crackLength_4 rfl hl (by decide) rfl (fun ls hl => ?_)
  refine lv_aload_n X.1.1 X.1.2.1 dX8_crackLength_5 rfl (lv_at hl 1 rfl) ?_
  obtain ⟨g_a0, hf⟩ := ogd hf
  obtain ⟨q2, eq2, hf⟩ := odq hf
  refine r_getq (k := 8) (j := 1) X hw rfl inX8 g_a0 rfl (by decide) (by decide) uf_X8_19 rfl dX8_crackLength_6 eq2 ?_
  refine lv_aload_n X.1.1 X.1.2.1 dX8_crackLength_9 rfl (lv_at hl 2 rfl) ?_
  refine r_geti (k := 2) (j := 3) X hw rfl inX2 g_p1 rfl (by decide) (by decide) uf_X8_186 rfl dX8_crackLength_10 ?_
  obtain ⟨g_q2, hf⟩ := ogd hf
  obtain ⟨z3, ez3, hf⟩ := obd hf
  refine r_callVQ (As := [.int (zI M p1 3)]) (rest := []) X hw (c_X0_gaugeAt ez3) (cwV 1 X.1.2.2.2.2 (guV um_X8_121 ui_X0_gaugeAt us_X0_gaugeAt un_X0 uo_X0_gaugeAt) rfl rfl rfl (by decide +kernel) ⟨Nat.le_of_ble_eq_true rfl, Nat.le_of_ble_eq_true rfl⟩) g_q2 (by decide) rfl rfl hl.1 rfl (Nat.le_of_ble_eq_true rfl) dX8_crackLength_13 ⟨Nat.zero_le _, Nat.zero_le _⟩ (fun H locs hw => ?_)
  obtain ⟨nq4, hf⟩ | ⟨q4, nq4, hf⟩ := omq hf
  · rw [nq4]
    refine lv_astore_nN (lv' := [(3, .null), (2, .int x1), (0, .ref a0), (1, .ref p1)]) X.1.1 X.1.2.1 dX8_crackLength_16 rfl hl (by decide) rfl (fun ls hl => ?_)
    refine lv_aload_nN X.1.1 X.1.2.1 dX8_crackLength_17 rfl (lv_at hl 0 rfl) ?_
    refine lv_ifnonnullN X.1.1 X.1.2.1 dX8_crackLength_18 ?_
    refine lv_iload_n X.1.1 X.1.2.1 dX8_crackLength_21 rfl (lv_at hl 1 rfl) ?_
    cases hf
    exact r_retI (v := x1) X hw hr hlk rfl dX8_crackLength_22
  · rw [nq4]
    refine lv_astore_n (lv' := [(3, .ref q4), (2, .int x1), (0, .ref a0), (1, .ref p1)]) X.1.1 X.1.2.1 dX8_crackLength_16 rfl hl (by decide) rfl (fun ls hl => ?_)
    refine lv_aload_n X.1.1 X.1.2.1 dX8_crackLength_17 rfl (lv_at hl 0 rfl) ?_
    refine lv_ifnonnull (tgt := 23) X.1.1 X.1.2.1 dX8_crackLength_18 (by decide) ?_
    refine lv_aload_n X.1.1 X.1.2.1 dX8_crackLength_23 rfl (lv_at hl 2 rfl) ?_
    obtain ⟨q5, eq5, hf⟩ := odq hf
    refine r_getq (k := 8) (j := 2) X hw rfl inX8 g_a0 rfl (by decide) (by decide) uf_X8_26 rfl dX8_crackLength_24 eq5 ?_
    refine lv_aload_n X.1.1 X.1.2.1 dX8_crackLength_27 rfl (lv_at hl 2 rfl) ?_
    refine r_getq (k := 8) (j := 1) X hw rfl inX8 g_a0 rfl (by decide) (by decide) uf_X8_19 rfl dX8_crackLength_28 eq2 ?_
    refine lv_aload_n X.1.1 X.1.2.1 dX8_crackLength_31 rfl (lv_at hl 0 rfl) ?_
    refine lv_aload_n X.1.1 X.1.2.1 dX8_crackLength_32 rfl (lv_at hl 3 rfl) ?_
    refine r_geti (k := 2) (j := 4) X hw rfl inX2 g_p1 rfl (by decide) (by decide) uf_X8_223 rfl dX8_crackLength_33 ?_
    obtain ⟨g_q5, hf⟩ := ogd hf
    obtain ⟨z6, ez6, hf⟩ := obd hf
    refine r_callVV (As := [.ref q2, .ref q4, .int (zI M p1 4)]) (rest := []) X hw (c_X5_reckon ez6) (cwV 3 X.1.2.2.2.2 (guV um_X8_124 ui_X5_reckon us_X5_reckon un_X5 uo_X5_reckon) rfl rfl rfl (by decide +kernel) ⟨Nat.le_of_ble_eq_true rfl, Nat.le_of_ble_eq_true rfl⟩) g_q5 (by decide) rfl rfl hl.1 rfl (Nat.le_of_ble_eq_true rfl) dX8_crackLength_36 ⟨Nat.zero_le _, Nat.zero_le _⟩ (fun H locs hw => ?_)
    refine lv_iconst (v := (0 : Int32)) X.1.1 X.1.2.1 dX8_crackLength_39 (by decide) ?_
    refine lv_istore (lv' := [(4, .int (0 : Int32)), (3, .ref q4), (2, .int x1), (0, .ref a0), (1, .ref p1)]) X.1.1 X.1.2.1 dX8_crackLength_40 hl (by decide) rfl (fun ls hl => ?_)
    obtain ⟨z16, ez16, hf⟩ := obd hf
    refine wlp_X8_crackLength_42 X g_p1 g_a0 g_q5 eq5 fuel _ _ _ _ _ _ ez16 hw (lv_sub hl [2, 0, 3, 4] rfl) (fun x ex H locs ls hw hl => ?_)
    subst ex
    refine lv_iload_n X.1.1 X.1.2.1 dX8_crackLength_107 rfl (lv_at hl 0 rfl) ?_
    cases hf
    exact r_retI (v := z16.1) X hw hr hlk rfl dX8_crackLength_108
/-! X8_length -/
def f_X8_length (h : Hs) (a0 : Nat) (p1 : Int32) (M : Mm) : Option (Int32 × Mm) :=
  gd (ok h a0 8) <|
  dq (zR h a0 1) fun q1 =>
  gd (ok h q1 0) <|
  (f_X0_detailAt h q1 p1 M).bind fun z2 =>
  mq z2
    (
     some ((-1 : Int32), M)
    )
    (fun q3 =>
     gd (ok h q3 2) <|
     if ¬ (zI M q3 7) = (-1 : Int32) then
       (f_X8_crackLength h a0 q3 M).bind fun z5 =>
       some (z5.1, z5.2)
     else
       some ((-1 : Int32), M)
    )
set_option maxHeartbeats 4000000 in
set_option maxRecDepth 100000 in
theorem c_X8_length {l : Launch} {D : va_G} {cy : Nat → ClassId} {h : Hs} {a0 : Nat} {p1 : Int32} {M : Mm} {z : (Int32 × Mm)} (hf : f_X8_length h a0 p1 M = some z) : CtI l D cy yX8_length (wu yX8_length cX8_length 3 (some .int)) ({ frames := 6, cells := 0, slots := 0, locals := 139 }) [.ref a0, .int p1] h M z.1 z.2 := by
  refine enterI (cc := cX8_length) (maxL := 3) (ret := (some .int)) (by decide) (Nat.le_of_ble_eq_true rfl) ?_
  intro p e s m args below meth c A ls X hw hr hlk hl
  have hl : lv_has ls 3 [(0, .ref a0), (1, .int p1)] := hl
  unfold f_X8_length at hf
  refine lv_aload_n X.1.1 X.1.2.1 dX8_length_0 rfl (lv_at hl 0 rfl) ?_
  obtain ⟨g_a0, hf⟩ := ogd hf
  obtain ⟨q1, eq1, hf⟩ := odq hf
  refine r_getq (k := 8) (j := 1) X hw rfl inX8 g_a0 rfl (by decide) (by decide) uf_X8_19 rfl dX8_length_1 eq1 ?_
  refine lv_iload_n X.1.1 X.1.2.1 dX8_length_4 rfl (lv_at hl 1 rfl) ?_
  obtain ⟨g_q1, hf⟩ := ogd hf
  obtain ⟨z2, ez2, hf⟩ := obd hf
  refine r_callVQ (As := [.int p1]) (rest := []) X hw (c_X0_detailAt ez2) (cwV 1 X.1.2.2.2.2 (guV um_X8_178 ui_X0_detailAt us_X0_detailAt un_X0 uo_X0_detailAt) rfl rfl rfl (by decide +kernel) ⟨Nat.le_of_ble_eq_true rfl, Nat.le_of_ble_eq_true rfl⟩) g_q1 (by decide) rfl rfl hl.1 rfl (Nat.le_of_ble_eq_true rfl) dX8_length_5 ⟨Nat.zero_le _, Nat.zero_le _⟩ (fun H locs hw => ?_)
  obtain ⟨nq3, hf⟩ | ⟨q3, nq3, hf⟩ := omq hf
  · rw [nq3]
    refine lv_astore_nN (lv' := [(2, .null), (0, .ref a0), (1, .int p1)]) X.1.1 X.1.2.1 dX8_length_8 rfl hl (by decide) rfl (fun ls hl => ?_)
    refine lv_aload_nN X.1.1 X.1.2.1 dX8_length_9 rfl (lv_at hl 0 rfl) ?_
    refine lv_ifnullN (tgt := 21) X.1.1 X.1.2.1 dX8_length_10 (by decide) ?_
    refine lv_iconst (v := (-1 : Int32)) X.1.1 X.1.2.1 dX8_length_21 (by decide) ?_
    refine lv_goto (tgt := 30) X.1.1 X.1.2.1 dX8_length_22 (by decide) ?_
    cases hf
    exact r_retI (v := (-1 : Int32)) X hw hr hlk rfl dX8_length_30
  · rw [nq3]
    refine lv_astore_n (lv' := [(2, .ref q3), (0, .ref a0), (1, .int p1)]) X.1.1 X.1.2.1 dX8_length_8 rfl hl (by decide) rfl (fun ls hl => ?_)
    refine lv_aload_n X.1.1 X.1.2.1 dX8_length_9 rfl (lv_at hl 0 rfl) ?_
    refine lv_ifnull X.1.1 X.1.2.1 dX8_length_10 ?_
    refine lv_aload_n X.1.1 X.1.2.1 dX8_length_13 rfl (lv_at hl 0 rfl) ?_
    obtain ⟨g_q3, hf⟩ := ogd hf
    refine r_geti (k := 2) (j := 7) X hw rfl inX2 g_q3 rfl (by decide) (by decide) uf_X8_214 rfl dX8_length_14 ?_
    refine lv_iconst (v := (-1 : Int32)) X.1.1 X.1.2.1 dX8_length_17 (by decide) ?_
    refine lv_icmp_ne (tgt := 25) X.1.1 X.1.2.1 dX8_length_18 (by decide) (fun c_4 => ?_) (fun c_4 => ?_)
    · skip
      rw [if_pos c_4] at hf
      refine lv_aload_n X.1.1 X.1.2.1 dX8_length_25 rfl (lv_at hl 1 rfl) ?_
      refine lv_aload_n X.1.1 X.1.2.1 dX8_length_26 rfl (lv_at hl 0 rfl) ?_
      obtain ⟨z5, ez5, hf⟩ := obd hf
      refine r_callVI (As := [.ref q3]) (rest := []) X hw (c_X8_crackLength ez5) (cwV 1 X.1.2.2.2.2 (guV um_X8_267 ui_X8_crackLength us_X8_crackLength un_X8 uo_X8_crackLength) rfl rfl rfl (by decide +kernel) ⟨Nat.le_of_ble_eq_true rfl, Nat.le_of_ble_eq_true rfl⟩) g_a0 (by decide) rfl rfl hl.1 rfl (Nat.le_of_ble_eq_true rfl) dX8_length_27 ⟨Nat.zero_le _, Nat.zero_le _⟩ (fun H locs hw => ?_)
      cases hf
      exact r_retI (v := z5.1) X hw hr hlk rfl dX8_length_30
    · skip
      rw [if_neg (fun z => z c_4)] at hf
      refine lv_iconst (v := (-1 : Int32)) X.1.1 X.1.2.1 dX8_length_21 (by decide) ?_
      refine lv_goto (tgt := 30) X.1.1 X.1.2.1 dX8_length_22 (by decide) ?_
      cases hf
      exact r_retI (v := (-1 : Int32)) X hw hr hlk rfl dX8_length_30
/-! X8_due -/
def f_X8_due (h : Hs) (a0 : Nat) (p1 : Int32) (p2 : Int32) (p3 : Int32) (p4 : Int32) (p5 : Int32) (M : Mm) : Option (Int32 × Mm) :=
  gd (ok h a0 8) <|
  dq (zR h a0 1) fun q1 =>
  gd (ok h q1 0) <|
  (f_X0_detailAt h q1 p1 M).bind fun z2 =>
  mq z2
    (
     some ((-1 : Int32), M)
    )
    (fun q3 =>
     gd (ok h q3 2) <|
     if (zI M q3 7) = (-1 : Int32) then
       some ((-1 : Int32), M)
     else
       if p3 < 0 then
         some ((-1 : Int32), M)
       else
         if p4 < p3 then
           some ((-1 : Int32), M)
         else
           (f_X8_isWithin h p2.toInt64 (1 : Int32) (1000 : Int32) M).bind fun z7 =>
           if z7 = 0 then
             some ((-1 : Int32), M)
           else
             (f_X8_isWithin h p5.toInt64 (1 : Int32) (10000 : Int32) M).bind fun z9 =>
             if ¬ z9 = 0 then
               (f_X8_crackLength h a0 q3 M).bind fun z11 =>
               (f_X2_cyclesUntil h q3 z11.1 p3 z11.2).bind fun z12 =>
               (f_X2_cyclesUntil h q3 z11.1 p4 z11.2).bind fun z13 =>
               if z12 < (0 : Int64) then
                 some ((-1 : Int32), z11.2)
               else
                 if z13 < (0 : Int64) then
                   some ((-1 : Int32), z11.2)
                 else
                   if z13 ≤ (100000 : Int64) then
                     (f_X8_firstDayWith h z13 p2 z11.2).bind fun z17 =>
                     lt_ ((z17 - p5.toInt64) - (1 : Int64)) fun x18 =>
                     (f_X8_firstDayWith h z12 p2 z11.2).bind fun z19 =>
                     if x18 < z19 then
                       some ((-1 : Int32), z11.2)
                     else
                       some (x18.toInt32, z11.2)
                   else
                     some ((-1 : Int32), z11.2)
             else
               some ((-1 : Int32), M)
    )
set_option maxHeartbeats 4000000 in
set_option maxRecDepth 100000 in
theorem c_X8_due {l : Launch} {D : va_G} {cy : Nat → ClassId} {h : Hs} {a0 : Nat} {p1 : Int32} {p2 : Int32} {p3 : Int32} {p4 : Int32} {p5 : Int32} {M : Mm} {z : (Int32 × Mm)} (hf : f_X8_due h a0 p1 p2 p3 p4 p5 M = some z) : CtI l D cy yX8_due (wu yX8_due cX8_due 14 (some .int)) ({ frames := 6, cells := 0, slots := 0, locals := 139 }) [.ref a0, .int p1, .int p2, .int p3, .int p4, .int p5] h M z.1 z.2 := by
  refine enterI (cc := cX8_due) (maxL := 14) (ret := (some .int)) (by decide) (Nat.le_of_ble_eq_true rfl) ?_
  intro p e s m args below meth c A ls X hw hr hlk hl
  have hl : lv_has ls 14 [(0, .ref a0), (1, .int p1), (2, .int p2), (3, .int p3), (4, .int p4), (5, .int p5)] := hl
  unfold f_X8_due at hf
  refine lv_aload_n X.1.1 X.1.2.1 dX8_due_0 rfl (lv_at hl 0 rfl) ?_
  obtain ⟨g_a0, hf⟩ := ogd hf
  obtain ⟨q1, eq1, hf⟩ := odq hf
  refine r_getq (k := 8) (j := 1) X hw rfl inX8 g_a0 rfl (by decide) (by decide) uf_X8_19 rfl dX8_due_1 eq1 ?_
  refine lv_iload_n X.1.1 X.1.2.1 dX8_due_4 rfl (lv_at hl 1 rfl) ?_
  obtain ⟨g_q1, hf⟩ := ogd hf
  obtain ⟨z2, ez2, hf⟩ := obd hf
  refine r_callVQ (As := [.int p1]) (rest := []) X hw (c_X0_detailAt ez2) (cwV 1 X.1.2.2.2.2 (guV um_X8_178 ui_X0_detailAt us_X0_detailAt un_X0 uo_X0_detailAt) rfl rfl rfl (by decide +kernel) ⟨Nat.le_of_ble_eq_true rfl, Nat.le_of_ble_eq_true rfl⟩) g_q1 (by decide) rfl rfl hl.1 rfl (Nat.le_of_ble_eq_true rfl) dX8_due_5 ⟨Nat.zero_le _, Nat.zero_le _⟩ (fun H locs hw => ?_)
  obtain ⟨nq3, hf⟩ | ⟨q3, nq3, hf⟩ := omq hf
  · rw [nq3]
    refine lv_astoreN (lv' := [(6, .null), (0, .ref a0), (1, .int p1), (2, .int p2), (3, .int p3), (4, .int p4), (5, .int p5)]) X.1.1 X.1.2.1 dX8_due_8 hl (by decide) rfl (fun ls hl => ?_)
    refine lv_aloadN X.1.1 X.1.2.1 dX8_due_10 (lv_at hl 0 rfl) ?_
    refine lv_ifnullN (tgt := 59) X.1.1 X.1.2.1 dX8_due_12 (by decide) ?_
    refine lv_iconst (v := (-1 : Int32)) X.1.1 X.1.2.1 dX8_due_59 (by decide) ?_
    cases hf
    exact r_retI (v := (-1 : Int32)) X hw hr hlk rfl dX8_due_60
  · rw [nq3]
    refine lv_astore (lv' := [(6, .ref q3), (0, .ref a0), (1, .int p1), (2, .int p2), (3, .int p3), (4, .int p4), (5, .int p5)]) X.1.1 X.1.2.1 dX8_due_8 hl (by decide) rfl (fun ls hl => ?_)
    refine lv_aload X.1.1 X.1.2.1 dX8_due_10 (lv_at hl 0 rfl) ?_
    refine lv_ifnull X.1.1 X.1.2.1 dX8_due_12 ?_
    refine lv_aload X.1.1 X.1.2.1 dX8_due_15 (lv_at hl 0 rfl) ?_
    obtain ⟨g_q3, hf⟩ := ogd hf
    refine r_geti (k := 2) (j := 7) X hw rfl inX2 g_q3 rfl (by decide) (by decide) uf_X8_214 rfl dX8_due_17 ?_
    refine lv_iconst (v := (-1 : Int32)) X.1.1 X.1.2.1 dX8_due_20 (by decide) ?_
    refine lv_icmp_eq (tgt := 59) X.1.1 X.1.2.1 dX8_due_21 (by decide) (fun c_4 => ?_) (fun c_4 => ?_)
    · skip
      rw [if_pos c_4] at hf
      refine lv_iconst (v := (-1 : Int32)) X.1.1 X.1.2.1 dX8_due_59 (by decide) ?_
      cases hf
      exact r_retI (v := (-1 : Int32)) X hw hr hlk rfl dX8_due_60
    · skip
      rw [if_neg c_4] at hf
      refine lv_iload_n X.1.1 X.1.2.1 dX8_due_24 rfl (lv_at hl 4 rfl) ?_
      refine lv_if_lt (tgt := 59) X.1.1 X.1.2.1 dX8_due_25 (by decide) (fun c_5 => ?_) (fun c_5 => ?_)
      · skip
        rw [if_pos c_5] at hf
        refine lv_iconst (v := (-1 : Int32)) X.1.1 X.1.2.1 dX8_due_59 (by decide) ?_
        cases hf
        exact r_retI (v := (-1 : Int32)) X hw hr hlk rfl dX8_due_60
      · skip
        rw [if_neg c_5] at hf
        refine lv_iload_n X.1.1 X.1.2.1 dX8_due_28 rfl (lv_at hl 4 rfl) ?_
        refine lv_iload X.1.1 X.1.2.1 dX8_due_29 (lv_at hl 5 rfl) ?_
        refine lv_icmp_gt (tgt := 59) X.1.1 X.1.2.1 dX8_due_31 (by decide) (fun c_6 => ?_) (fun c_6 => ?_)
        · skip
          rw [if_pos c_6] at hf
          refine lv_iconst (v := (-1 : Int32)) X.1.1 X.1.2.1 dX8_due_59 (by decide) ?_
          cases hf
          exact r_retI (v := (-1 : Int32)) X hw hr hlk rfl dX8_due_60
        · skip
          rw [if_neg c_6] at hf
          refine lv_iload_n X.1.1 X.1.2.1 dX8_due_34 rfl (lv_at hl 3 rfl) ?_
          refine lv_i2l X.1.1 X.1.2.1 dX8_due_35 rfl ?_
          refine lv_iconst (v := (1 : Int32)) X.1.1 X.1.2.1 dX8_due_36 (by decide) ?_
          refine lv_sipush (v := (1000 : Int32)) X.1.1 X.1.2.1 dX8_due_37 (by decide) ?_
          obtain ⟨z7, ez7, hf⟩ := obd hf
          refine r_callSI (As := [.long p2.toInt64, .int (1 : Int32), .int (1000 : Int32)]) (rest := []) X hw (c_X8_isWithin ez7) (va_cwS 3 X.1.2.2.2.2 (guS um_X8_110 ut_X8_isWithin un_X8 uo_X8_isWithin) rfl rfl rfl (by decide +kernel) ⟨Nat.le_of_ble_eq_true rfl, Nat.le_of_ble_eq_true rfl⟩) rfl hl.1 rfl (Nat.le_of_ble_eq_true rfl) dX8_due_40 ⟨Nat.zero_le _, Nat.zero_le _⟩ (fun H locs hw => ?_)
          refine lv_if_eq (tgt := 59) X.1.1 X.1.2.1 dX8_due_43 (by decide) (fun c_8 => ?_) (fun c_8 => ?_)
          · skip
            rw [if_pos c_8] at hf
            refine lv_iconst (v := (-1 : Int32)) X.1.1 X.1.2.1 dX8_due_59 (by decide) ?_
            cases hf
            exact r_retI (v := (-1 : Int32)) X hw hr hlk rfl dX8_due_60
          · skip
            rw [if_neg c_8] at hf
            refine lv_iload X.1.1 X.1.2.1 dX8_due_46 (lv_at hl 6 rfl) ?_
            refine lv_i2l X.1.1 X.1.2.1 dX8_due_48 rfl ?_
            refine lv_iconst (v := (1 : Int32)) X.1.1 X.1.2.1 dX8_due_49 (by decide) ?_
            refine lv_sipush (v := (10000 : Int32)) X.1.1 X.1.2.1 dX8_due_50 (by decide) ?_
            obtain ⟨z9, ez9, hf⟩ := obd hf
            refine r_callSI (As := [.long p5.toInt64, .int (1 : Int32), .int (10000 : Int32)]) (rest := []) X hw (c_X8_isWithin ez9) (va_cwS 3 X.1.2.2.2.2 (guS um_X8_110 ut_X8_isWithin un_X8 uo_X8_isWithin) rfl rfl rfl (by decide +kernel) ⟨Nat.le_of_ble_eq_true rfl, Nat.le_of_ble_eq_true rfl⟩) rfl hl.1 rfl (Nat.le_of_ble_eq_true rfl) dX8_due_53 ⟨Nat.zero_le _, Nat.zero_le _⟩ (fun H locs hw => ?_)
            refine lv_if_ne (tgt := 61) X.1.1 X.1.2.1 dX8_due_56 (by decide) (fun c_10 => ?_) (fun c_10 => ?_)
            · skip
              rw [if_pos c_10] at hf
              refine lv_aload_n X.1.1 X.1.2.1 dX8_due_61 rfl (lv_at hl 1 rfl) ?_
              refine lv_aload X.1.1 X.1.2.1 dX8_due_62 (lv_at hl 0 rfl) ?_
              obtain ⟨z11, ez11, hf⟩ := obd hf
              refine r_callVI (As := [.ref q3]) (rest := []) X hw (c_X8_crackLength ez11) (cwV 1 X.1.2.2.2.2 (guV um_X8_267 ui_X8_crackLength us_X8_crackLength un_X8 uo_X8_crackLength) rfl rfl rfl (by decide +kernel) ⟨Nat.le_of_ble_eq_true rfl, Nat.le_of_ble_eq_true rfl⟩) g_a0 (by decide) rfl rfl hl.1 rfl (Nat.le_of_ble_eq_true rfl) dX8_due_64 ⟨Nat.zero_le _, Nat.zero_le _⟩ (fun H locs hw => ?_)
              refine lv_istore (lv' := [(7, .int z11.1), (6, .ref q3), (0, .ref a0), (1, .int p1), (2, .int p2), (3, .int p3), (4, .int p4), (5, .int p5)]) X.1.1 X.1.2.1 dX8_due_67 hl (by decide) rfl (fun ls hl => ?_)
              refine lv_aload X.1.1 X.1.2.1 dX8_due_69 (lv_at hl 1 rfl) ?_
              refine lv_iload X.1.1 X.1.2.1 dX8_due_71 (lv_at hl 0 rfl) ?_
              refine lv_iload_n X.1.1 X.1.2.1 dX8_due_73 rfl (lv_at hl 5 rfl) ?_
              obtain ⟨z12, ez12, hf⟩ := obd hf
              refine r_callVL (As := [.int z11.1, .int p3]) (rest := []) X hw (c_X2_cyclesUntil ez12) (cwV 2 X.1.2.2.2.2 (guV um_X8_271 ui_X2_cyclesUntil us_X2_cyclesUntil un_X2 uo_X2_cyclesUntil) rfl rfl rfl (by decide +kernel) ⟨Nat.le_of_ble_eq_true rfl, Nat.le_of_ble_eq_true rfl⟩) g_q3 (by decide) rfl rfl hl.1 rfl (Nat.le_of_ble_eq_true rfl) dX8_due_74 ⟨Nat.zero_le _, Nat.zero_le _⟩ (fun H locs hw => ?_)
              refine lv_lstore (lv' := [(8, .long z12), (7, .int z11.1), (6, .ref q3), (0, .ref a0), (1, .int p1), (2, .int p2), (3, .int p3), (4, .int p4), (5, .int p5)]) X.1.1 X.1.2.1 dX8_due_77 hl (by decide) rfl (fun ls hl => ?_)
              refine lv_aload X.1.1 X.1.2.1 dX8_due_79 (lv_at hl 2 rfl) ?_
              refine lv_iload X.1.1 X.1.2.1 dX8_due_81 (lv_at hl 1 rfl) ?_
              refine lv_iload X.1.1 X.1.2.1 dX8_due_83 (lv_at hl 7 rfl) ?_
              obtain ⟨z13, ez13, hf⟩ := obd hf
              refine r_callVL (As := [.int z11.1, .int p4]) (rest := []) X hw (c_X2_cyclesUntil ez13) (cwV 2 X.1.2.2.2.2 (guV um_X8_271 ui_X2_cyclesUntil us_X2_cyclesUntil un_X2 uo_X2_cyclesUntil) rfl rfl rfl (by decide +kernel) ⟨Nat.le_of_ble_eq_true rfl, Nat.le_of_ble_eq_true rfl⟩) g_q3 (by decide) rfl rfl hl.1 rfl (Nat.le_of_ble_eq_true rfl) dX8_due_85 ⟨Nat.zero_le _, Nat.zero_le _⟩ (fun H locs hw => ?_)
              refine lv_lstore (lv' := [(10, .long z13), (8, .long z12), (7, .int z11.1), (6, .ref q3), (0, .ref a0), (1, .int p1), (2, .int p2), (3, .int p3), (4, .int p4), (5, .int p5)]) X.1.1 X.1.2.1 dX8_due_88 hl (by decide) rfl (fun ls hl => ?_)
              refine lv_lload X.1.1 X.1.2.1 dX8_due_90 (lv_at hl 1 rfl) ?_
              refine lv_lconst (v := (0 : Int64)) X.1.1 X.1.2.1 dX8_due_92 (by decide) ?_
              refine W.lcmp X.1.1 X.1.2.1 dX8_due_93 ?_
              refine lv_if_lt (tgt := 113) X.1.1 X.1.2.1 dX8_due_94 (by decide) (fun c_14 => ?_) (fun c_14 => ?_)
              · skip
                rw [lg_cmp_lt] at c_14
                rw [if_pos c_14] at hf
                refine lv_iconst (v := (-1 : Int32)) X.1.1 X.1.2.1 dX8_due_113 (by decide) ?_
                cases hf
                exact r_retI (v := (-1 : Int32)) X hw hr hlk rfl dX8_due_114
              · skip
                rw [lg_cmp_lt] at c_14
                rw [if_neg c_14] at hf
                refine lv_lload X.1.1 X.1.2.1 dX8_due_97 (lv_at hl 0 rfl) ?_
                refine lv_lconst (v := (0 : Int64)) X.1.1 X.1.2.1 dX8_due_99 (by decide) ?_
                refine W.lcmp X.1.1 X.1.2.1 dX8_due_100 ?_
                refine lv_if_lt (tgt := 113) X.1.1 X.1.2.1 dX8_due_101 (by decide) (fun c_15 => ?_) (fun c_15 => ?_)
                · skip
                  rw [lg_cmp_lt] at c_15
                  rw [if_pos c_15] at hf
                  refine lv_iconst (v := (-1 : Int32)) X.1.1 X.1.2.1 dX8_due_113 (by decide) ?_
                  cases hf
                  exact r_retI (v := (-1 : Int32)) X hw hr hlk rfl dX8_due_114
                · skip
                  rw [lg_cmp_lt] at c_15
                  rw [if_neg c_15] at hf
                  refine lv_lload X.1.1 X.1.2.1 dX8_due_104 (lv_at hl 0 rfl) ?_
                  refine lv_ldc2 (v := (100000 : Int64)) X.1.1 X.1.2.1 X.1.2.2.2.1 (X.1.2.2.2.2 _ uk_X8_275) dX8_due_106 ?_
                  refine W.lcmp X.1.1 X.1.2.1 dX8_due_109 ?_
                  refine lv_if_le (tgt := 115) X.1.1 X.1.2.1 dX8_due_110 (by decide) (fun c_16 => ?_) (fun c_16 => ?_)
                  · skip
                    rw [lg_cmp_le] at c_16
                    rw [if_pos c_16] at hf
                    refine lv_lload X.1.1 X.1.2.1 dX8_due_115 (lv_at hl 0 rfl) ?_
                    refine lv_iload_n X.1.1 X.1.2.1 dX8_due_117 rfl (lv_at hl 6 rfl) ?_
                    obtain ⟨z17, ez17, hf⟩ := obd hf
                    refine r_callSL (As := [.long z13, .int p2]) (rest := []) X hw (c_X8_firstDayWith ez17) (va_cwS 2 X.1.2.2.2.2 (guS um_X8_277 ut_X8_firstDayWith un_X8 uo_X8_firstDayWith) rfl rfl rfl (by decide +kernel) ⟨Nat.le_of_ble_eq_true rfl, Nat.le_of_ble_eq_true rfl⟩) rfl hl.1 rfl (Nat.le_of_ble_eq_true rfl) dX8_due_118 ⟨Nat.zero_le _, Nat.zero_le _⟩ (fun H locs hw => ?_)
                    refine lv_iload X.1.1 X.1.2.1 dX8_due_121 (lv_at hl 9 rfl) ?_
                    refine lv_i2l X.1.1 X.1.2.1 dX8_due_123 rfl ?_
                    refine lv_lsub X.1.1 X.1.2.1 dX8_due_124 ?_
                    refine lv_lconst (v := (1 : Int64)) X.1.1 X.1.2.1 dX8_due_125 (by decide) ?_
                    refine lv_lsub X.1.1 X.1.2.1 dX8_due_126 ?_
                    refine lv_topl (fun x18 ex18 => ?_)
                    have hf := oltE ex18 hf
                    refine lv_lstore (lv' := [(12, .long x18), (10, .long z13), (8, .long z12), (7, .int z11.1), (6, .ref q3), (0, .ref a0), (1, .int p1), (2, .int p2), (3, .int p3), (4, .int p4), (5, .int p5)]) X.1.1 X.1.2.1 dX8_due_127 hl (by decide) rfl (fun ls hl => ?_)
                    refine lv_lload X.1.1 X.1.2.1 dX8_due_129 (lv_at hl 0 rfl) ?_
                    refine lv_lload X.1.1 X.1.2.1 dX8_due_131 (lv_at hl 2 rfl) ?_
                    refine lv_iload_n X.1.1 X.1.2.1 dX8_due_133 rfl (lv_at hl 7 rfl) ?_
                    obtain ⟨z19, ez19, hf⟩ := obd hf
                    refine r_callSL (As := [.long z12, .int p2]) (rest := [.long x18]) X hw (c_X8_firstDayWith ez19) (va_cwS 2 X.1.2.2.2.2 (guS um_X8_277 ut_X8_firstDayWith un_X8 uo_X8_firstDayWith) rfl rfl rfl (by decide +kernel) ⟨Nat.le_of_ble_eq_true rfl, Nat.le_of_ble_eq_true rfl⟩) rfl hl.1 rfl (Nat.le_of_ble_eq_true rfl) dX8_due_134 ⟨Nat.zero_le _, Nat.zero_le _⟩ (fun H locs hw => ?_)
                    refine W.lcmp X.1.1 X.1.2.1 dX8_due_137 ?_
                    refine lv_if_lt (tgt := 147) X.1.1 X.1.2.1 dX8_due_138 (by decide) (fun c_20 => ?_) (fun c_20 => ?_)
                    · skip
                      rw [lg_cmp_lt] at c_20
                      rw [if_pos c_20] at hf
                      refine lv_iconst (v := (-1 : Int32)) X.1.1 X.1.2.1 dX8_due_147 (by decide) ?_
                      cases hf
                      exact r_retI (v := (-1 : Int32)) X hw hr hlk rfl dX8_due_148
                    · skip
                      rw [lg_cmp_lt] at c_20
                      rw [if_neg c_20] at hf
                      refine lv_lload X.1.1 X.1.2.1 dX8_due_141 (lv_at hl 0 rfl) ?_
                      refine lv_l2i X.1.1 X.1.2.1 dX8_due_143 rfl ?_
                      refine lv_goto (tgt := 148) X.1.1 X.1.2.1 dX8_due_144 (by decide) ?_
                      cases hf
                      exact r_retI (v := x18.toInt32) X hw hr hlk rfl dX8_due_148
                  · skip
                    rw [lg_cmp_le] at c_16
                    rw [if_neg c_16] at hf
                    refine lv_iconst (v := (-1 : Int32)) X.1.1 X.1.2.1 dX8_due_113 (by decide) ?_
                    cases hf
                    exact r_retI (v := (-1 : Int32)) X hw hr hlk rfl dX8_due_114
            · skip
              rw [if_neg (fun z => z c_10)] at hf
              refine lv_iconst (v := (-1 : Int32)) X.1.1 X.1.2.1 dX8_due_59 (by decide) ?_
              cases hf
              exact r_retI (v := (-1 : Int32)) X hw hr hlk rfl dX8_due_60
/-! X8_undo -/
def f_X8_undo (h : Hs) (a0 : Nat) (M : Mm) : Option (Int32 × Mm) :=
  gd (ok h a0 8) <|
  dq (zR h a0 1) fun q1 =>
  gd (ok h q1 0) <|
  (f_X0_placeAt h q1 (zI M a0 8) M).bind fun z2 =>
  mq z2
    (
     (f_X0_detailAt h q1 (zI M a0 9) M).bind fun z4 =>
     mq z4
       (
        (f_X8_forgetUndo h a0 M).bind fun z6 =>
        some ((0 : Int32), z6)
       )
       (fun q5 =>
        dq (zR h a0 7) fun q7 =>
        gd (ok h q5 2) <|
        (f_X2_copyFrom h q5 q7 M).bind fun z8 =>
        (f_X8_forgetUndo h a0 z8).bind fun z9 =>
        some ((1 : Int32), z9)
       )
    )
    (fun q3 =>
     (f_X0_detailAt h q1 (zI M a0 9) M).bind fun z10 =>
     mq z10
       (
        dq (zR h a0 6) fun q12 =>
        gd (ok h q3 4) <|
        (f_X4_copyFrom h q3 q12 M).bind fun z13 =>
        (f_X8_forgetUndo h a0 z13).bind fun z14 =>
        some ((1 : Int32), z14)
       )
       (fun q11 =>
        dq (zR h a0 6) fun q15 =>
        gd (ok h q3 4) <|
        (f_X4_copyFrom h q3 q15 M).bind fun z16 =>
        dq (zR h a0 7) fun q17 =>
        gd (ok h q11 2) <|
        (f_X2_copyFrom h q11 q17 z16).bind fun z18 =>
        (f_X8_forgetUndo h a0 z18).bind fun z19 =>
        some ((1 : Int32), z19)
       )
    )
set_option maxHeartbeats 4000000 in
set_option maxRecDepth 100000 in
theorem c_X8_undo {l : Launch} {D : va_G} {cy : Nat → ClassId} {h : Hs} {a0 : Nat} {M : Mm} {z : (Int32 × Mm)} (hf : f_X8_undo h a0 M = some z) : CtI l D cy yX8_undo (wu yX8_undo cX8_undo 4 (some .boolean)) ({ frames := 3, cells := 0, slots := 0, locals := 64 }) [.ref a0] h M z.1 z.2 := by
  refine enterI (cc := cX8_undo) (maxL := 4) (ret := (some .boolean)) (by decide) (Nat.le_of_ble_eq_true rfl) ?_
  intro p e s m args below meth c A ls X hw hr hlk hl
  have hl : lv_has ls 4 [(0, .ref a0)] := hl
  unfold f_X8_undo at hf
  refine lv_aload_n X.1.1 X.1.2.1 dX8_undo_0 rfl (lv_at hl 0 rfl) ?_
  obtain ⟨g_a0, hf⟩ := ogd hf
  obtain ⟨q1, eq1, hf⟩ := odq hf
  refine r_getq (k := 8) (j := 1) X hw rfl inX8 g_a0 rfl (by decide) (by decide) uf_X8_19 rfl dX8_undo_1 eq1 ?_
  refine lv_aload_n X.1.1 X.1.2.1 dX8_undo_4 rfl (lv_at hl 0 rfl) ?_
  refine r_geti (k := 8) (j := 8) X hw rfl inX8 g_a0 rfl (by decide) (by decide) uf_X8_58 rfl dX8_undo_5 ?_
  obtain ⟨g_q1, hf⟩ := ogd hf
  obtain ⟨z2, ez2, hf⟩ := obd hf
  refine r_callVQ (As := [.int (zI M a0 8)]) (rest := []) X hw (c_X0_placeAt ez2) (cwV 1 X.1.2.2.2.2 (guV um_X8_76 ui_X0_placeAt us_X0_placeAt un_X0 uo_X0_placeAt) rfl rfl rfl (by decide +kernel) ⟨Nat.le_of_ble_eq_true rfl, Nat.le_of_ble_eq_true rfl⟩) g_q1 (by decide) rfl rfl hl.1 rfl (Nat.le_of_ble_eq_true rfl) dX8_undo_8 ⟨Nat.zero_le _, Nat.zero_le _⟩ (fun H locs hw => ?_)
  obtain ⟨nq3, hf⟩ | ⟨q3, nq3, hf⟩ := omq hf
  · rw [nq3]
    refine lv_astore_nN (lv' := [(1, .null), (0, .ref a0)]) X.1.1 X.1.2.1 dX8_undo_11 rfl hl (by decide) rfl (fun ls hl => ?_)
    refine lv_aload_n X.1.1 X.1.2.1 dX8_undo_12 rfl (lv_at hl 1 rfl) ?_
    refine r_getq (k := 8) (j := 1) X hw rfl inX8 g_a0 rfl (by decide) (by decide) uf_X8_19 rfl dX8_undo_13 eq1 ?_
    refine lv_aload_n X.1.1 X.1.2.1 dX8_undo_16 rfl (lv_at hl 1 rfl) ?_
    refine r_geti (k := 8) (j := 9) X hw rfl inX8 g_a0 rfl (by decide) (by decide) uf_X8_62 rfl dX8_undo_17 ?_
    obtain ⟨z4, ez4, hf⟩ := obd hf
    refine r_callVQ (As := [.int (zI M a0 9)]) (rest := []) X hw (c_X0_detailAt ez4) (cwV 1 X.1.2.2.2.2 (guV um_X8_178 ui_X0_detailAt us_X0_detailAt un_X0 uo_X0_detailAt) rfl rfl rfl (by decide +kernel) ⟨Nat.le_of_ble_eq_true rfl, Nat.le_of_ble_eq_true rfl⟩) g_q1 (by decide) rfl rfl hl.1 rfl (Nat.le_of_ble_eq_true rfl) dX8_undo_20 ⟨Nat.zero_le _, Nat.zero_le _⟩ (fun H locs hw => ?_)
    obtain ⟨nq5, hf⟩ | ⟨q5, nq5, hf⟩ := omq hf
    · rw [nq5]
      refine lv_astore_nN (lv' := [(2, .null), (1, .null), (0, .ref a0)]) X.1.1 X.1.2.1 dX8_undo_23 rfl hl (by decide) rfl (fun ls hl => ?_)
      refine lv_aload_nN X.1.1 X.1.2.1 dX8_undo_24 rfl (lv_at hl 1 rfl) ?_
      refine lv_ifnonnullN X.1.1 X.1.2.1 dX8_undo_25 ?_
      refine lv_aload_nN X.1.1 X.1.2.1 dX8_undo_28 rfl (lv_at hl 0 rfl) ?_
      refine lv_ifnullN (tgt := 36) X.1.1 X.1.2.1 dX8_undo_29 (by decide) ?_
      refine lv_iconst (v := (0 : Int32)) X.1.1 X.1.2.1 dX8_undo_36 (by decide) ?_
      refine lv_istore_n (lv' := [(3, .int (0 : Int32)), (2, .null), (1, .null), (0, .ref a0)]) X.1.1 X.1.2.1 dX8_undo_37 rfl hl (by decide) rfl (fun ls hl => ?_)
      refine lv_aload_nN X.1.1 X.1.2.1 dX8_undo_38 rfl (lv_at hl 2 rfl) ?_
      refine lv_ifnullN (tgt := 50) X.1.1 X.1.2.1 dX8_undo_39 (by decide) ?_
      refine lv_aload_nN X.1.1 X.1.2.1 dX8_undo_50 rfl (lv_at hl 1 rfl) ?_
      refine lv_ifnullN (tgt := 62) X.1.1 X.1.2.1 dX8_undo_51 (by decide) ?_
      refine lv_aload_n X.1.1 X.1.2.1 dX8_undo_62 rfl (lv_at hl 3 rfl) ?_
      obtain ⟨z6, ez6, hf⟩ := obd hf
      refine r_callVV (As := []) (rest := []) X hw (c_X8_forgetUndo ez6) (cwV 0 X.1.2.2.2.2 (guV um_X8_287 ui_X8_forgetUndo us_X8_forgetUndo un_X8 uo_X8_forgetUndo) rfl rfl rfl (by decide +kernel) ⟨Nat.le_of_ble_eq_true rfl, Nat.le_of_ble_eq_true rfl⟩) g_a0 (by decide) rfl rfl hl.1 rfl (Nat.le_of_ble_eq_true rfl) dX8_undo_63 ⟨Nat.zero_le _, Nat.zero_le _⟩ (fun H locs hw => ?_)
      refine lv_iload_n X.1.1 X.1.2.1 dX8_undo_66 rfl (lv_at hl 0 rfl) ?_
      cases hf
      exact r_retI (v := (0 : Int32)) X hw hr hlk rfl dX8_undo_67
    · rw [nq5]
      refine lv_astore_n (lv' := [(2, .ref q5), (1, .null), (0, .ref a0)]) X.1.1 X.1.2.1 dX8_undo_23 rfl hl (by decide) rfl (fun ls hl => ?_)
      refine lv_aload_nN X.1.1 X.1.2.1 dX8_undo_24 rfl (lv_at hl 1 rfl) ?_
      refine lv_ifnonnullN X.1.1 X.1.2.1 dX8_undo_25 ?_
      refine lv_aload_n X.1.1 X.1.2.1 dX8_undo_28 rfl (lv_at hl 0 rfl) ?_
      refine lv_ifnull X.1.1 X.1.2.1 dX8_undo_29 ?_
      refine lv_iconst (v := (1 : Int32)) X.1.1 X.1.2.1 dX8_undo_32 (by decide) ?_
      refine lv_goto (tgt := 37) X.1.1 X.1.2.1 dX8_undo_33 (by decide) ?_
      refine lv_istore_n (lv' := [(3, .int (1 : Int32)), (2, .ref q5), (1, .null), (0, .ref a0)]) X.1.1 X.1.2.1 dX8_undo_37 rfl hl (by decide) rfl (fun ls hl => ?_)
      refine lv_aload_nN X.1.1 X.1.2.1 dX8_undo_38 rfl (lv_at hl 2 rfl) ?_
      refine lv_ifnullN (tgt := 50) X.1.1 X.1.2.1 dX8_undo_39 (by decide) ?_
      refine lv_aload_n X.1.1 X.1.2.1 dX8_undo_50 rfl (lv_at hl 1 rfl) ?_
      refine lv_ifnull X.1.1 X.1.2.1 dX8_undo_51 ?_
      refine lv_aload_n X.1.1 X.1.2.1 dX8_undo_54 rfl (lv_at hl 1 rfl) ?_
      refine lv_aload_n X.1.1 X.1.2.1 dX8_undo_55 rfl (lv_at hl 3 rfl) ?_
      obtain ⟨q7, eq7, hf⟩ := odq hf
      refine r_getq (k := 8) (j := 7) X hw rfl inX8 g_a0 rfl (by decide) (by decide) uf_X8_54 rfl dX8_undo_56 eq7 ?_
      obtain ⟨g_q5, hf⟩ := ogd hf
      obtain ⟨z8, ez8, hf⟩ := obd hf
      refine r_callVV (As := [.ref q7]) (rest := []) X hw (c_X2_copyFrom ez8) (cwV 1 X.1.2.2.2.2 (guV um_X8_285 ui_X2_copyFrom us_X2_copyFrom un_X2 uo_X2_copyFrom) rfl rfl rfl (by decide +kernel) ⟨Nat.le_of_ble_eq_true rfl, Nat.le_of_ble_eq_true rfl⟩) g_q5 (by decide) rfl rfl hl.1 rfl (Nat.le_of_ble_eq_true rfl) dX8_undo_59 ⟨Nat.zero_le _, Nat.zero_le _⟩ (fun H locs hw => ?_)
      refine lv_aload_n X.1.1 X.1.2.1 dX8_undo_62 rfl (lv_at hl 3 rfl) ?_
      obtain ⟨z9, ez9, hf⟩ := obd hf
      refine r_callVV (As := []) (rest := []) X hw (c_X8_forgetUndo ez9) (cwV 0 X.1.2.2.2.2 (guV um_X8_287 ui_X8_forgetUndo us_X8_forgetUndo un_X8 uo_X8_forgetUndo) rfl rfl rfl (by decide +kernel) ⟨Nat.le_of_ble_eq_true rfl, Nat.le_of_ble_eq_true rfl⟩) g_a0 (by decide) rfl rfl hl.1 rfl (Nat.le_of_ble_eq_true rfl) dX8_undo_63 ⟨Nat.zero_le _, Nat.zero_le _⟩ (fun H locs hw => ?_)
      refine lv_iload_n X.1.1 X.1.2.1 dX8_undo_66 rfl (lv_at hl 0 rfl) ?_
      cases hf
      exact r_retI (v := (1 : Int32)) X hw hr hlk rfl dX8_undo_67
  · rw [nq3]
    refine lv_astore_n (lv' := [(1, .ref q3), (0, .ref a0)]) X.1.1 X.1.2.1 dX8_undo_11 rfl hl (by decide) rfl (fun ls hl => ?_)
    refine lv_aload_n X.1.1 X.1.2.1 dX8_undo_12 rfl (lv_at hl 1 rfl) ?_
    refine r_getq (k := 8) (j := 1) X hw rfl inX8 g_a0 rfl (by decide) (by decide) uf_X8_19 rfl dX8_undo_13 eq1 ?_
    refine lv_aload_n X.1.1 X.1.2.1 dX8_undo_16 rfl (lv_at hl 1 rfl) ?_
    refine r_geti (k := 8) (j := 9) X hw rfl inX8 g_a0 rfl (by decide) (by decide) uf_X8_62 rfl dX8_undo_17 ?_
    obtain ⟨z10, ez10, hf⟩ := obd hf
    refine r_callVQ (As := [.int (zI M a0 9)]) (rest := []) X hw (c_X0_detailAt ez10) (cwV 1 X.1.2.2.2.2 (guV um_X8_178 ui_X0_detailAt us_X0_detailAt un_X0 uo_X0_detailAt) rfl rfl rfl (by decide +kernel) ⟨Nat.le_of_ble_eq_true rfl, Nat.le_of_ble_eq_true rfl⟩) g_q1 (by decide) rfl rfl hl.1 rfl (Nat.le_of_ble_eq_true rfl) dX8_undo_20 ⟨Nat.zero_le _, Nat.zero_le _⟩ (fun H locs hw => ?_)
    obtain ⟨nq11, hf⟩ | ⟨q11, nq11, hf⟩ := omq hf
    · rw [nq11]
      refine lv_astore_nN (lv' := [(2, .null), (1, .ref q3), (0, .ref a0)]) X.1.1 X.1.2.1 dX8_undo_23 rfl hl (by decide) rfl (fun ls hl => ?_)
      refine lv_aload_n X.1.1 X.1.2.1 dX8_undo_24 rfl (lv_at hl 1 rfl) ?_
      refine lv_ifnonnull (tgt := 32) X.1.1 X.1.2.1 dX8_undo_25 (by decide) ?_
      refine lv_iconst (v := (1 : Int32)) X.1.1 X.1.2.1 dX8_undo_32 (by decide) ?_
      refine lv_goto (tgt := 37) X.1.1 X.1.2.1 dX8_undo_33 (by decide) ?_
      refine lv_istore_n (lv' := [(3, .int (1 : Int32)), (2, .null), (1, .ref q3), (0, .ref a0)]) X.1.1 X.1.2.1 dX8_undo_37 rfl hl (by decide) rfl (fun ls hl => ?_)
      refine lv_aload_n X.1.1 X.1.2.1 dX8_undo_38 rfl (lv_at hl 2 rfl) ?_
      refine lv_ifnull X.1.1 X.1.2.1 dX8_undo_39 ?_
      refine lv_aload_n X.1.1 X.1.2.1 dX8_undo_42 rfl (lv_at hl 2 rfl) ?_
      refine lv_aload_n X.1.1 X.1.2.1 dX8_undo_43 rfl (lv_at hl 3 rfl) ?_
      obtain ⟨q12, eq12, hf⟩ := odq hf
      refine r_getq (k := 8) (j := 6) X hw rfl inX8 g_a0 rfl (by decide) (by decide) uf_X8_47 rfl dX8_undo_44 eq12 ?_
      obtain ⟨g_q3, hf⟩ := ogd hf
      obtain ⟨z13, ez13, hf⟩ := obd hf
      refine r_callVV (As := [.ref q12]) (rest := []) X hw (c_X4_copyFrom ez13) (cwV 1 X.1.2.2.2.2 (guV um_X8_281 ui_X4_copyFrom us_X4_copyFrom un_X4 uo_X4_copyFrom) rfl rfl rfl (by decide +kernel) ⟨Nat.le_of_ble_eq_true rfl, Nat.le_of_ble_eq_true rfl⟩) g_q3 (by decide) rfl rfl hl.1 rfl (Nat.le_of_ble_eq_true rfl) dX8_undo_47 ⟨Nat.zero_le _, Nat.zero_le _⟩ (fun H locs hw => ?_)
      refine lv_aload_nN X.1.1 X.1.2.1 dX8_undo_50 rfl (lv_at hl 1 rfl) ?_
      refine lv_ifnullN (tgt := 62) X.1.1 X.1.2.1 dX8_undo_51 (by decide) ?_
      refine lv_aload_n X.1.1 X.1.2.1 dX8_undo_62 rfl (lv_at hl 3 rfl) ?_
      obtain ⟨z14, ez14, hf⟩ := obd hf
      refine r_callVV (As := []) (rest := []) X hw (c_X8_forgetUndo ez14) (cwV 0 X.1.2.2.2.2 (guV um_X8_287 ui_X8_forgetUndo us_X8_forgetUndo un_X8 uo_X8_forgetUndo) rfl rfl rfl (by decide +kernel) ⟨Nat.le_of_ble_eq_true rfl, Nat.le_of_ble_eq_true rfl⟩) g_a0 (by decide) rfl rfl hl.1 rfl (Nat.le_of_ble_eq_true rfl) dX8_undo_63 ⟨Nat.zero_le _, Nat.zero_le _⟩ (fun H locs hw => ?_)
      refine lv_iload_n X.1.1 X.1.2.1 dX8_undo_66 rfl (lv_at hl 0 rfl) ?_
      cases hf
      exact r_retI (v := (1 : Int32)) X hw hr hlk rfl dX8_undo_67
    · rw [nq11]
      refine lv_astore_n (lv' := [(2, .ref q11), (1, .ref q3), (0, .ref a0)]) X.1.1 X.1.2.1 dX8_undo_23 rfl hl (by decide) rfl (fun ls hl => ?_)
      refine lv_aload_n X.1.1 X.1.2.1 dX8_undo_24 rfl (lv_at hl 1 rfl) ?_
      refine lv_ifnonnull (tgt := 32) X.1.1 X.1.2.1 dX8_undo_25 (by decide) ?_
      refine lv_iconst (v := (1 : Int32)) X.1.1 X.1.2.1 dX8_undo_32 (by decide) ?_
      refine lv_goto (tgt := 37) X.1.1 X.1.2.1 dX8_undo_33 (by decide) ?_
      refine lv_istore_n (lv' := [(3, .int (1 : Int32)), (2, .ref q11), (1, .ref q3), (0, .ref a0)]) X.1.1 X.1.2.1 dX8_undo_37 rfl hl (by decide) rfl (fun ls hl => ?_)
      refine lv_aload_n X.1.1 X.1.2.1 dX8_undo_38 rfl (lv_at hl 2 rfl) ?_
      refine lv_ifnull X.1.1 X.1.2.1 dX8_undo_39 ?_
      refine lv_aload_n X.1.1 X.1.2.1 dX8_undo_42 rfl (lv_at hl 2 rfl) ?_
      refine lv_aload_n X.1.1 X.1.2.1 dX8_undo_43 rfl (lv_at hl 3 rfl) ?_
      obtain ⟨q15, eq15, hf⟩ := odq hf
      refine r_getq (k := 8) (j := 6) X hw rfl inX8 g_a0 rfl (by decide) (by decide) uf_X8_47 rfl dX8_undo_44 eq15 ?_
      obtain ⟨g_q3, hf⟩ := ogd hf
      obtain ⟨z16, ez16, hf⟩ := obd hf
      refine r_callVV (As := [.ref q15]) (rest := []) X hw (c_X4_copyFrom ez16) (cwV 1 X.1.2.2.2.2 (guV um_X8_281 ui_X4_copyFrom us_X4_copyFrom un_X4 uo_X4_copyFrom) rfl rfl rfl (by decide +kernel) ⟨Nat.le_of_ble_eq_true rfl, Nat.le_of_ble_eq_true rfl⟩) g_q3 (by decide) rfl rfl hl.1 rfl (Nat.le_of_ble_eq_true rfl) dX8_undo_47 ⟨Nat.zero_le _, Nat.zero_le _⟩ (fun H locs hw => ?_)
      refine lv_aload_n X.1.1 X.1.2.1 dX8_undo_50 rfl (lv_at hl 1 rfl) ?_
      refine lv_ifnull X.1.1 X.1.2.1 dX8_undo_51 ?_
      refine lv_aload_n X.1.1 X.1.2.1 dX8_undo_54 rfl (lv_at hl 1 rfl) ?_
      refine lv_aload_n X.1.1 X.1.2.1 dX8_undo_55 rfl (lv_at hl 3 rfl) ?_
      obtain ⟨q17, eq17, hf⟩ := odq hf
      refine r_getq (k := 8) (j := 7) X hw rfl inX8 g_a0 rfl (by decide) (by decide) uf_X8_54 rfl dX8_undo_56 eq17 ?_
      obtain ⟨g_q11, hf⟩ := ogd hf
      obtain ⟨z18, ez18, hf⟩ := obd hf
      refine r_callVV (As := [.ref q17]) (rest := []) X hw (c_X2_copyFrom ez18) (cwV 1 X.1.2.2.2.2 (guV um_X8_285 ui_X2_copyFrom us_X2_copyFrom un_X2 uo_X2_copyFrom) rfl rfl rfl (by decide +kernel) ⟨Nat.le_of_ble_eq_true rfl, Nat.le_of_ble_eq_true rfl⟩) g_q11 (by decide) rfl rfl hl.1 rfl (Nat.le_of_ble_eq_true rfl) dX8_undo_59 ⟨Nat.zero_le _, Nat.zero_le _⟩ (fun H locs hw => ?_)
      refine lv_aload_n X.1.1 X.1.2.1 dX8_undo_62 rfl (lv_at hl 3 rfl) ?_
      obtain ⟨z19, ez19, hf⟩ := obd hf
      refine r_callVV (As := []) (rest := []) X hw (c_X8_forgetUndo ez19) (cwV 0 X.1.2.2.2.2 (guV um_X8_287 ui_X8_forgetUndo us_X8_forgetUndo un_X8 uo_X8_forgetUndo) rfl rfl rfl (by decide +kernel) ⟨Nat.le_of_ble_eq_true rfl, Nat.le_of_ble_eq_true rfl⟩) g_a0 (by decide) rfl rfl hl.1 rfl (Nat.le_of_ble_eq_true rfl) dX8_undo_63 ⟨Nat.zero_le _, Nat.zero_le _⟩ (fun H locs hw => ?_)
      refine lv_iload_n X.1.1 X.1.2.1 dX8_undo_66 rfl (lv_at hl 0 rfl) ?_
      cases hf
      exact r_retI (v := (1 : Int32)) X hw hr hlk rfl dX8_undo_67
/-! X8_again -/
def f_X8_again (h : Hs) (a0 : Nat) (M : Mm) : Option (Int32 × Mm) :=
  gd (ok h a0 8) <|
  mq (zR h a0 5)
    (
     some ((0 : Int32), M)
    )
    (fun q1 =>
     dq (zR h a0 1) fun q2 =>
     gd (ok h q2 0) <|
     (f_X0_copyFrom h q2 q1 M).bind fun z3 =>
     (f_X8_forgetUndo h a0 z3).bind fun z4 =>
     some ((1 : Int32), z4)
    )
set_option maxHeartbeats 4000000 in
set_option maxRecDepth 100000 in
theorem c_X8_again {l : Launch} {D : va_G} {cy : Nat → ClassId} {h : Hs} {a0 : Nat} {M : Mm} {z : (Int32 × Mm)} (hf : f_X8_again h a0 M = some z) : CtI l D cy yX8_again (wu yX8_again cX8_again 1 (some .boolean)) ({ frames := 4, cells := 0, slots := 0, locals := 88 }) [.ref a0] h M z.1 z.2 := by
  refine enterI (cc := cX8_again) (maxL := 1) (ret := (some .boolean)) (by decide) (Nat.le_of_ble_eq_true rfl) ?_
  intro p e s m args below meth c A ls X hw hr hlk hl
  have hl : lv_has ls 1 [(0, .ref a0)] := hl
  unfold f_X8_again at hf
  refine lv_aload_n X.1.1 X.1.2.1 dX8_again_0 rfl (lv_at hl 0 rfl) ?_
  obtain ⟨g_a0, hf⟩ := ogd hf
  obtain ⟨nq1, hf⟩ | ⟨q1, nq1, hf⟩ := omq hf
  · refine r_getn (k := 8) (j := 5) X hw rfl inX8 g_a0 rfl (by decide) (by decide) uf_X8_290 rfl dX8_again_1 nq1 ?_
    refine lv_ifnonnullN X.1.1 X.1.2.1 dX8_again_4 ?_
    refine lv_iconst (v := (0 : Int32)) X.1.1 X.1.2.1 dX8_again_7 (by decide) ?_
    cases hf
    exact r_retI (v := (0 : Int32)) X hw hr hlk rfl dX8_again_8
  · refine r_getq (k := 8) (j := 5) X hw rfl inX8 g_a0 rfl (by decide) (by decide) uf_X8_290 rfl dX8_again_1 nq1 ?_
    refine lv_ifnonnull (tgt := 9) X.1.1 X.1.2.1 dX8_again_4 (by decide) ?_
    refine lv_aload_n X.1.1 X.1.2.1 dX8_again_9 rfl (lv_at hl 0 rfl) ?_
    obtain ⟨q2, eq2, hf⟩ := odq hf
    refine r_getq (k := 8) (j := 1) X hw rfl inX8 g_a0 rfl (by decide) (by decide) uf_X8_19 rfl dX8_again_10 eq2 ?_
    refine lv_aload_n X.1.1 X.1.2.1 dX8_again_13 rfl (lv_at hl 0 rfl) ?_
    refine r_getq (k := 8) (j := 5) X hw rfl inX8 g_a0 rfl (by decide) (by decide) uf_X8_290 rfl dX8_again_14 nq1 ?_
    obtain ⟨g_q2, hf⟩ := ogd hf
    obtain ⟨z3, ez3, hf⟩ := obd hf
    refine r_callVV (As := [.ref q1]) (rest := []) X hw (c_X0_copyFrom ez3) (cwV 1 X.1.2.2.2.2 (guV um_X8_293 ui_X0_copyFrom us_X0_copyFrom un_X0 uo_X0_copyFrom) rfl rfl rfl (by decide +kernel) ⟨Nat.le_of_ble_eq_true rfl, Nat.le_of_ble_eq_true rfl⟩) g_q2 (by decide) rfl rfl hl.1 rfl (Nat.le_of_ble_eq_true rfl) dX8_again_17 ⟨Nat.zero_le _, Nat.zero_le _⟩ (fun H locs hw => ?_)
    refine lv_aload_n X.1.1 X.1.2.1 dX8_again_20 rfl (lv_at hl 0 rfl) ?_
    obtain ⟨z4, ez4, hf⟩ := obd hf
    refine r_callVV (As := []) (rest := []) X hw (c_X8_forgetUndo ez4) (cwV 0 X.1.2.2.2.2 (guV um_X8_287 ui_X8_forgetUndo us_X8_forgetUndo un_X8 uo_X8_forgetUndo) rfl rfl rfl (by decide +kernel) ⟨Nat.le_of_ble_eq_true rfl, Nat.le_of_ble_eq_true rfl⟩) g_a0 (by decide) rfl rfl hl.1 rfl (Nat.le_of_ble_eq_true rfl) dX8_again_21 ⟨Nat.zero_le _, Nat.zero_le _⟩ (fun H locs hw => ?_)
    refine lv_iconst (v := (1 : Int32)) X.1.1 X.1.2.1 dX8_again_24 (by decide) ?_
    cases hf
    exact r_retI (v := (1 : Int32)) X hw hr hlk rfl dX8_again_25
/-! X8_count -/
def f_X8_count (h : Hs) (a0 : Nat) (p1 : Int32) (M : Mm) : Option Int32 :=
  if p1 = (0 : Int32) then
    gd (ok h a0 8) <|
    dq (zR h a0 0) fun q2 =>
    gd (ok h q2 6) <|
    some (zI M q2 1)
  else
    if p1 = (1 : Int32) then
      gd (ok h a0 8) <|
      dq (zR h a0 1) fun q4 =>
      gd (ok h q4 0) <|
      (f_X0_gauges h q4 M).bind fun z5 =>
      some z5
    else
      if p1 = (2 : Int32) then
        gd (ok h a0 8) <|
        dq (zR h a0 1) fun q7 =>
        gd (ok h q7 0) <|
        (f_X0_plugs h q7 M).bind fun z8 =>
        some z8
      else
        if p1 = (3 : Int32) then
          gd (ok h a0 8) <|
          if ¬ (zI M a0 8) = (-1 : Int32) then
            some (1 : Int32)
          else
            if (zI M a0 9) = (-1 : Int32) then
              some (0 : Int32)
            else
              some (1 : Int32)
        else
          if p1 = (4 : Int32) then
            gd (ok h a0 8) <|
            mq (zR h a0 5)
              (
               some (0 : Int32)
              )
              (fun q13 =>
               some (1 : Int32)
              )
          else
            some (-1 : Int32)
set_option maxHeartbeats 4000000 in
set_option maxRecDepth 100000 in
theorem c_X8_count {l : Launch} {D : va_G} {cy : Nat → ClassId} {h : Hs} {a0 : Nat} {p1 : Int32} {M : Mm} {z : Int32} (hf : f_X8_count h a0 p1 M = some z) : CtI l D cy yX8_count (wu yX8_count cX8_count 2 (some .int)) ({ frames := 3, cells := 0, slots := 0, locals := 65 }) [.ref a0, .int p1] h M z M := by
  refine enterI (cc := cX8_count) (maxL := 2) (ret := (some .int)) (by decide) (Nat.le_of_ble_eq_true rfl) ?_
  intro p e s m args below meth c A ls X hw hr hlk hl
  have hl : lv_has ls 2 [(0, .ref a0), (1, .int p1)] := hl
  unfold f_X8_count at hf
  refine lv_iload_n X.1.1 X.1.2.1 dX8_count_0 rfl (lv_at hl 1 rfl) ?_
  by_cases c_1 : p1 = (0 : Int32)
  · rw [if_pos c_1] at hf
    refine lv_tableIn (off := 35) (tgt := 36) X.1.1 X.1.2.1 dX8_count_1 (by rw [c_1]; decide) (by rw [c_1]; decide) (by rw [c_1]; decide) (by decide) ?_
    refine lv_aload_n X.1.1 X.1.2.1 dX8_count_36 rfl (lv_at hl 0 rfl) ?_
    obtain ⟨g_a0, hf⟩ := ogd hf
    obtain ⟨q2, eq2, hf⟩ := odq hf
    refine r_getq (k := 8) (j := 0) X hw rfl inX8 g_a0 rfl (by decide) (by decide) uf_X8_12 rfl dX8_count_37 eq2 ?_
    obtain ⟨g_q2, hf⟩ := ogd hf
    refine r_geti (k := 6) (j := 1) X hw rfl inX6 g_q2 rfl (by decide) (by decide) uf_X8_73 rfl dX8_count_40 ?_
    cases hf
    exact r_retI X hw hr hlk rfl dX8_count_43
  · rw [if_neg c_1] at hf
    by_cases c_3 : p1 = (1 : Int32)
    · rw [if_pos c_3] at hf
      refine lv_tableIn (off := 43) (tgt := 44) X.1.1 X.1.2.1 dX8_count_1 (by rw [c_3]; decide) (by rw [c_3]; decide) (by rw [c_3]; decide) (by decide) ?_
      refine lv_aload_n X.1.1 X.1.2.1 dX8_count_44 rfl (lv_at hl 0 rfl) ?_
      obtain ⟨g_a0, hf⟩ := ogd hf
      obtain ⟨q4, eq4, hf⟩ := odq hf
      refine r_getq (k := 8) (j := 1) X hw rfl inX8 g_a0 rfl (by decide) (by decide) uf_X8_19 rfl dX8_count_45 eq4 ?_
      obtain ⟨g_q4, hf⟩ := ogd hf
      obtain ⟨z5, ez5, hf⟩ := obd hf
      refine r_callVI (As := []) (rest := []) X hw (c_X0_gauges ez5) (cwV 0 X.1.2.2.2.2 (guV um_X8_296 ui_X0_gauges us_X0_gauges un_X0 uo_X0_gauges) rfl rfl rfl (by decide +kernel) ⟨Nat.le_of_ble_eq_true rfl, Nat.le_of_ble_eq_true rfl⟩) g_q4 (by decide) rfl rfl hl.1 rfl (Nat.le_of_ble_eq_true rfl) dX8_count_48 ⟨Nat.zero_le _, Nat.zero_le _⟩ (fun H locs hw => ?_)
      cases hf
      exact r_retI X hw hr hlk rfl dX8_count_51
    · rw [if_neg c_3] at hf
      by_cases c_6 : p1 = (2 : Int32)
      · rw [if_pos c_6] at hf
        refine lv_tableIn (off := 51) (tgt := 52) X.1.1 X.1.2.1 dX8_count_1 (by rw [c_6]; decide) (by rw [c_6]; decide) (by rw [c_6]; decide) (by decide) ?_
        refine lv_aload_n X.1.1 X.1.2.1 dX8_count_52 rfl (lv_at hl 0 rfl) ?_
        obtain ⟨g_a0, hf⟩ := ogd hf
        obtain ⟨q7, eq7, hf⟩ := odq hf
        refine r_getq (k := 8) (j := 1) X hw rfl inX8 g_a0 rfl (by decide) (by decide) uf_X8_19 rfl dX8_count_53 eq7 ?_
        obtain ⟨g_q7, hf⟩ := ogd hf
        obtain ⟨z8, ez8, hf⟩ := obd hf
        refine r_callVI (As := []) (rest := []) X hw (c_X0_plugs ez8) (cwV 0 X.1.2.2.2.2 (guV um_X8_300 ui_X0_plugs us_X0_plugs un_X0 uo_X0_plugs) rfl rfl rfl (by decide +kernel) ⟨Nat.le_of_ble_eq_true rfl, Nat.le_of_ble_eq_true rfl⟩) g_q7 (by decide) rfl rfl hl.1 rfl (Nat.le_of_ble_eq_true rfl) dX8_count_56 ⟨Nat.zero_le _, Nat.zero_le _⟩ (fun H locs hw => ?_)
        cases hf
        exact r_retI X hw hr hlk rfl dX8_count_59
      · rw [if_neg c_6] at hf
        by_cases c_9 : p1 = (3 : Int32)
        · rw [if_pos c_9] at hf
          refine lv_tableIn (off := 59) (tgt := 60) X.1.1 X.1.2.1 dX8_count_1 (by rw [c_9]; decide) (by rw [c_9]; decide) (by rw [c_9]; decide) (by decide) ?_
          refine lv_aload_n X.1.1 X.1.2.1 dX8_count_60 rfl (lv_at hl 0 rfl) ?_
          obtain ⟨g_a0, hf⟩ := ogd hf
          refine r_geti (k := 8) (j := 8) X hw rfl inX8 g_a0 rfl (by decide) (by decide) uf_X8_58 rfl dX8_count_61 ?_
          refine lv_iconst (v := (-1 : Int32)) X.1.1 X.1.2.1 dX8_count_64 (by decide) ?_
          refine lv_icmp_ne (tgt := 76) X.1.1 X.1.2.1 dX8_count_65 (by decide) (fun c_10 => ?_) (fun c_10 => ?_)
          · skip
            rw [if_pos c_10] at hf
            refine lv_iconst (v := (1 : Int32)) X.1.1 X.1.2.1 dX8_count_76 (by decide) ?_
            refine lv_goto (tgt := 81) X.1.1 X.1.2.1 dX8_count_77 (by decide) ?_
            cases hf
            exact r_retI X hw hr hlk rfl dX8_count_81
          · skip
            rw [if_neg (fun z => z c_10)] at hf
            refine lv_aload_n X.1.1 X.1.2.1 dX8_count_68 rfl (lv_at hl 0 rfl) ?_
            refine r_geti (k := 8) (j := 9) X hw rfl inX8 g_a0 rfl (by decide) (by decide) uf_X8_62 rfl dX8_count_69 ?_
            refine lv_iconst (v := (-1 : Int32)) X.1.1 X.1.2.1 dX8_count_72 (by decide) ?_
            refine lv_icmp_eq (tgt := 80) X.1.1 X.1.2.1 dX8_count_73 (by decide) (fun c_11 => ?_) (fun c_11 => ?_)
            · skip
              rw [if_pos c_11] at hf
              refine lv_iconst (v := (0 : Int32)) X.1.1 X.1.2.1 dX8_count_80 (by decide) ?_
              cases hf
              exact r_retI X hw hr hlk rfl dX8_count_81
            · skip
              rw [if_neg c_11] at hf
              refine lv_iconst (v := (1 : Int32)) X.1.1 X.1.2.1 dX8_count_76 (by decide) ?_
              refine lv_goto (tgt := 81) X.1.1 X.1.2.1 dX8_count_77 (by decide) ?_
              cases hf
              exact r_retI X hw hr hlk rfl dX8_count_81
        · rw [if_neg c_9] at hf
          by_cases c_12 : p1 = (4 : Int32)
          · rw [if_pos c_12] at hf
            refine lv_tableIn (off := 81) (tgt := 82) X.1.1 X.1.2.1 dX8_count_1 (by rw [c_12]; decide) (by rw [c_12]; decide) (by rw [c_12]; decide) (by decide) ?_
            refine lv_aload_n X.1.1 X.1.2.1 dX8_count_82 rfl (lv_at hl 0 rfl) ?_
            obtain ⟨g_a0, hf⟩ := ogd hf
            obtain ⟨nq13, hf⟩ | ⟨q13, nq13, hf⟩ := omq hf
            · refine r_getn (k := 8) (j := 5) X hw rfl inX8 g_a0 rfl (by decide) (by decide) uf_X8_290 rfl dX8_count_83 nq13 ?_
              refine lv_ifnullN (tgt := 93) X.1.1 X.1.2.1 dX8_count_86 (by decide) ?_
              refine lv_iconst (v := (0 : Int32)) X.1.1 X.1.2.1 dX8_count_93 (by decide) ?_
              cases hf
              exact r_retI X hw hr hlk rfl dX8_count_94
            · refine r_getq (k := 8) (j := 5) X hw rfl inX8 g_a0 rfl (by decide) (by decide) uf_X8_290 rfl dX8_count_83 nq13 ?_
              refine lv_ifnull X.1.1 X.1.2.1 dX8_count_86 ?_
              refine lv_iconst (v := (1 : Int32)) X.1.1 X.1.2.1 dX8_count_89 (by decide) ?_
              refine lv_goto (tgt := 94) X.1.1 X.1.2.1 dX8_count_90 (by decide) ?_
              cases hf
              exact r_retI X hw hr hlk rfl dX8_count_94
          · rw [if_neg c_12] at hf
            refine lv_tableOut (tgt := 95) X.1.1 X.1.2.1 dX8_count_1 (by have q : p1.toInt < 0 ∨ 4 < p1.toInt ∨ p1.toInt = 0 ∨ p1.toInt = 1 ∨ p1.toInt = 2 ∨ p1.toInt = 3 ∨ p1.toInt = 4 := (by omega); rcases q with q | q | q | q | q | q | q; exact Or.inl q; exact Or.inr q; exact absurd ((sw_eq q).trans (by decide)) c_1; exact absurd ((sw_eq q).trans (by decide)) c_3; exact absurd ((sw_eq q).trans (by decide)) c_6; exact absurd ((sw_eq q).trans (by decide)) c_9; exact absurd ((sw_eq q).trans (by decide)) c_12) (by decide) ?_
            refine lv_iconst (v := (-1 : Int32)) X.1.1 X.1.2.1 dX8_count_95 (by decide) ?_
            cases hf
            exact r_retI X hw hr hlk rfl dX8_count_96
