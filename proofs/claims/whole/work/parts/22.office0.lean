/-! X8_feed -/
def f_X8_feed (h : Hs) (a0 : Nat) (p1 : Int32) (p2 : Int32) (p3 : Int32) (p4 : Int32) (p5 : Int32) (M : Mm) : Option (Int32 × Mm) :=
  gd (ok h a0 8) <|
  dq (zR h a0 0) fun q1 =>
  gd (ok h q1 6) <|
  (f_X6_hasRoom h q1 (20 : Int32) M).bind fun z2 =>
  if ¬ z2 = 0 then
    (f_X6_append h q1 p1 M).bind fun z4 =>
    (f_X6_append h q1 p2 z4).bind fun z5 =>
    (f_X6_append h q1 p3 z5).bind fun z6 =>
    (f_X6_append h q1 p4 z6).bind fun z7 =>
    (f_X6_append h q1 p5 z7).bind fun z8 =>
    some (zI z8 q1 1, z8)
  else
    some ((-1 : Int32), M)
set_option maxHeartbeats 4000000 in
set_option maxRecDepth 100000 in
theorem c_X8_feed {l : Launch} {D : va_G} {cy : Nat → ClassId} {h : Hs} {a0 : Nat} {p1 : Int32} {p2 : Int32} {p3 : Int32} {p4 : Int32} {p5 : Int32} {M : Mm} {z : (Int32 × Mm)} (hf : f_X8_feed h a0 p1 p2 p3 p4 p5 M = some z) : CtI l D cy yX8_feed (wu yX8_feed cX8_feed 6 (some .int)) ({ frames := 1, cells := 0, slots := 0, locals := 22 }) [.ref a0, .int p1, .int p2, .int p3, .int p4, .int p5] h M z.1 z.2 := by
  refine enterI (cc := cX8_feed) (maxL := 6) (ret := (some .int)) (by decide) (Nat.le_of_ble_eq_true rfl) ?_
  intro p e s m args below meth c A ls X hw hr hlk hl
  have hl : lv_has ls 6 [(0, .ref a0), (1, .int p1), (2, .int p2), (3, .int p3), (4, .int p4), (5, .int p5)] := hl
  unfold f_X8_feed at hf
  refine lv_aload_n X.1.1 X.1.2.1 dX8_feed_0 rfl (lv_at hl 0 rfl) ?_
  obtain ⟨g_a0, hf⟩ := ogd hf
  obtain ⟨q1, eq1, hf⟩ := odq hf
  refine r_getq (k := 8) (j := 0) X hw rfl inX8 g_a0 rfl (by decide) (by decide) uf_X8_12 rfl dX8_feed_1 eq1 ?_
  refine lv_bipush (v := (20 : Int32)) X.1.1 X.1.2.1 dX8_feed_4 (by decide) ?_
  obtain ⟨g_q1, hf⟩ := ogd hf
  obtain ⟨z2, ez2, hf⟩ := obd hf
  refine r_callVI (As := [.int (20 : Int32)]) (rest := []) X hw (c_X6_hasRoom ez2) (cwV 1 X.1.2.2.2.2 (guV um_X8_65 ui_X6_hasRoom us_X6_hasRoom un_X6 uo_X6_hasRoom) rfl rfl rfl (by decide +kernel) ⟨Nat.le_of_ble_eq_true rfl, Nat.le_of_ble_eq_true rfl⟩) g_q1 (by decide) rfl rfl hl.1 rfl (Nat.le_of_ble_eq_true rfl) dX8_feed_6 ⟨Nat.zero_le _, Nat.zero_le _⟩ (fun H locs hw => ?_)
  refine lv_if_ne (tgt := 14) X.1.1 X.1.2.1 dX8_feed_9 (by decide) (fun c_3 => ?_) (fun c_3 => ?_)
  · skip
    rw [if_pos c_3] at hf
    refine lv_aload_n X.1.1 X.1.2.1 dX8_feed_14 rfl (lv_at hl 0 rfl) ?_
    refine r_getq (k := 8) (j := 0) X hw rfl inX8 g_a0 rfl (by decide) (by decide) uf_X8_12 rfl dX8_feed_15 eq1 ?_
    refine lv_iload_n X.1.1 X.1.2.1 dX8_feed_18 rfl (lv_at hl 1 rfl) ?_
    obtain ⟨z4, ez4, hf⟩ := obd hf
    refine r_callVV (As := [.int p1]) (rest := []) X hw (c_X6_append ez4) (cwV 1 X.1.2.2.2.2 (guV um_X8_69 ui_X6_append us_X6_append un_X6 uo_X6_append) rfl rfl rfl (by decide +kernel) ⟨Nat.le_of_ble_eq_true rfl, Nat.le_of_ble_eq_true rfl⟩) g_q1 (by decide) rfl rfl hl.1 rfl (Nat.le_of_ble_eq_true rfl) dX8_feed_19 ⟨Nat.zero_le _, Nat.zero_le _⟩ (fun H locs hw => ?_)
    refine lv_aload_n X.1.1 X.1.2.1 dX8_feed_22 rfl (lv_at hl 0 rfl) ?_
    refine r_getq (k := 8) (j := 0) X hw rfl inX8 g_a0 rfl (by decide) (by decide) uf_X8_12 rfl dX8_feed_23 eq1 ?_
    refine lv_iload_n X.1.1 X.1.2.1 dX8_feed_26 rfl (lv_at hl 2 rfl) ?_
    obtain ⟨z5, ez5, hf⟩ := obd hf
    refine r_callVV (As := [.int p2]) (rest := []) X hw (c_X6_append ez5) (cwV 1 X.1.2.2.2.2 (guV um_X8_69 ui_X6_append us_X6_append un_X6 uo_X6_append) rfl rfl rfl (by decide +kernel) ⟨Nat.le_of_ble_eq_true rfl, Nat.le_of_ble_eq_true rfl⟩) g_q1 (by decide) rfl rfl hl.1 rfl (Nat.le_of_ble_eq_true rfl) dX8_feed_27 ⟨Nat.zero_le _, Nat.zero_le _⟩ (fun H locs hw => ?_)
    refine lv_aload_n X.1.1 X.1.2.1 dX8_feed_30 rfl (lv_at hl 0 rfl) ?_
    refine r_getq (k := 8) (j := 0) X hw rfl inX8 g_a0 rfl (by decide) (by decide) uf_X8_12 rfl dX8_feed_31 eq1 ?_
    refine lv_iload_n X.1.1 X.1.2.1 dX8_feed_34 rfl (lv_at hl 3 rfl) ?_
    obtain ⟨z6, ez6, hf⟩ := obd hf
    refine r_callVV (As := [.int p3]) (rest := []) X hw (c_X6_append ez6) (cwV 1 X.1.2.2.2.2 (guV um_X8_69 ui_X6_append us_X6_append un_X6 uo_X6_append) rfl rfl rfl (by decide +kernel) ⟨Nat.le_of_ble_eq_true rfl, Nat.le_of_ble_eq_true rfl⟩) g_q1 (by decide) rfl rfl hl.1 rfl (Nat.le_of_ble_eq_true rfl) dX8_feed_35 ⟨Nat.zero_le _, Nat.zero_le _⟩ (fun H locs hw => ?_)
    refine lv_aload_n X.1.1 X.1.2.1 dX8_feed_38 rfl (lv_at hl 0 rfl) ?_
    refine r_getq (k := 8) (j := 0) X hw rfl inX8 g_a0 rfl (by decide) (by decide) uf_X8_12 rfl dX8_feed_39 eq1 ?_
    refine lv_iload X.1.1 X.1.2.1 dX8_feed_42 (lv_at hl 4 rfl) ?_
    obtain ⟨z7, ez7, hf⟩ := obd hf
    refine r_callVV (As := [.int p4]) (rest := []) X hw (c_X6_append ez7) (cwV 1 X.1.2.2.2.2 (guV um_X8_69 ui_X6_append us_X6_append un_X6 uo_X6_append) rfl rfl rfl (by decide +kernel) ⟨Nat.le_of_ble_eq_true rfl, Nat.le_of_ble_eq_true rfl⟩) g_q1 (by decide) rfl rfl hl.1 rfl (Nat.le_of_ble_eq_true rfl) dX8_feed_44 ⟨Nat.zero_le _, Nat.zero_le _⟩ (fun H locs hw => ?_)
    refine lv_aload_n X.1.1 X.1.2.1 dX8_feed_47 rfl (lv_at hl 0 rfl) ?_
    refine r_getq (k := 8) (j := 0) X hw rfl inX8 g_a0 rfl (by decide) (by decide) uf_X8_12 rfl dX8_feed_48 eq1 ?_
    refine lv_iload X.1.1 X.1.2.1 dX8_feed_51 (lv_at hl 5 rfl) ?_
    obtain ⟨z8, ez8, hf⟩ := obd hf
    refine r_callVV (As := [.int p5]) (rest := []) X hw (c_X6_append ez8) (cwV 1 X.1.2.2.2.2 (guV um_X8_69 ui_X6_append us_X6_append un_X6 uo_X6_append) rfl rfl rfl (by decide +kernel) ⟨Nat.le_of_ble_eq_true rfl, Nat.le_of_ble_eq_true rfl⟩) g_q1 (by decide) rfl rfl hl.1 rfl (Nat.le_of_ble_eq_true rfl) dX8_feed_53 ⟨Nat.zero_le _, Nat.zero_le _⟩ (fun H locs hw => ?_)
    refine lv_aload_n X.1.1 X.1.2.1 dX8_feed_56 rfl (lv_at hl 0 rfl) ?_
    refine r_getq (k := 8) (j := 0) X hw rfl inX8 g_a0 rfl (by decide) (by decide) uf_X8_12 rfl dX8_feed_57 eq1 ?_
    refine r_geti (k := 6) (j := 1) X hw rfl inX6 g_q1 rfl (by decide) (by decide) uf_X8_73 rfl dX8_feed_60 ?_
    cases hf
    exact r_retI (v := zI z8 q1 1) X hw hr hlk rfl dX8_feed_63
  · skip
    rw [if_neg (fun z => z c_3)] at hf
    refine lv_iconst (v := (-1 : Int32)) X.1.1 X.1.2.1 dX8_feed_12 (by decide) ?_
    cases hf
    exact r_retI (v := (-1 : Int32)) X hw hr hlk rfl dX8_feed_13
/-! X8_end -/
def f_X8_end (h : Hs) (a0 : Nat) (p1 : Int32) (M : Mm) : Option (Int32 × Mm) :=
  if p1 < 0 then
    some ((0 : Int32), M)
  else
    gd (ok h a0 8) <|
    dq (zR h a0 0) fun q2 =>
    gd (ok h q2 6) <|
    if p1 ≤ (zI M q2 1) then
      lt_ (sI M q2 1 p1) fun M4 =>
      some ((1 : Int32), M4)
    else
      some ((0 : Int32), M)
set_option maxHeartbeats 4000000 in
set_option maxRecDepth 100000 in
theorem c_X8_end {l : Launch} {D : va_G} {cy : Nat → ClassId} {h : Hs} {a0 : Nat} {p1 : Int32} {M : Mm} {z : (Int32 × Mm)} (hf : f_X8_end h a0 p1 M = some z) : CtI l D cy yX8_end (wu yX8_end cX8_end 2 (some .boolean)) ({ frames := 0, cells := 0, slots := 0, locals := 0 }) [.ref a0, .int p1] h M z.1 z.2 := by
  refine enterI (cc := cX8_end) (maxL := 2) (ret := (some .boolean)) (by decide) (Nat.le_of_ble_eq_true rfl) ?_
  intro p e s m args below meth c A ls X hw hr hlk hl
  have hl : lv_has ls 2 [(0, .ref a0), (1, .int p1)] := hl
  unfold f_X8_end at hf
  refine lv_iload_n X.1.1 X.1.2.1 dX8_end_0 rfl (lv_at hl 1 rfl) ?_
  refine lv_if_lt (tgt := 15) X.1.1 X.1.2.1 dX8_end_1 (by decide) (fun c_1 => ?_) (fun c_1 => ?_)
  · skip
    rw [if_pos c_1] at hf
    refine lv_iconst (v := (0 : Int32)) X.1.1 X.1.2.1 dX8_end_15 (by decide) ?_
    cases hf
    exact r_retI (v := (0 : Int32)) X hw hr hlk rfl dX8_end_16
  · skip
    rw [if_neg c_1] at hf
    refine lv_iload_n X.1.1 X.1.2.1 dX8_end_4 rfl (lv_at hl 1 rfl) ?_
    refine lv_aload_n X.1.1 X.1.2.1 dX8_end_5 rfl (lv_at hl 0 rfl) ?_
    obtain ⟨g_a0, hf⟩ := ogd hf
    obtain ⟨q2, eq2, hf⟩ := odq hf
    refine r_getq (k := 8) (j := 0) X hw rfl inX8 g_a0 rfl (by decide) (by decide) uf_X8_12 rfl dX8_end_6 eq2 ?_
    obtain ⟨g_q2, hf⟩ := ogd hf
    refine r_geti (k := 6) (j := 1) X hw rfl inX6 g_q2 rfl (by decide) (by decide) uf_X8_73 rfl dX8_end_9 ?_
    refine lv_icmp_le (tgt := 17) X.1.1 X.1.2.1 dX8_end_12 (by decide) (fun c_3 => ?_) (fun c_3 => ?_)
    · skip
      rw [if_pos c_3] at hf
      refine lv_aload_n X.1.1 X.1.2.1 dX8_end_17 rfl (lv_at hl 0 rfl) ?_
      refine r_getq (k := 8) (j := 0) X hw rfl inX8 g_a0 rfl (by decide) (by decide) uf_X8_12 rfl dX8_end_18 eq2 ?_
      refine lv_iload_n X.1.1 X.1.2.1 dX8_end_21 rfl (lv_at hl 1 rfl) ?_
      refine r_puti (k := 6) (j := 1) X hw rfl inX6 tyX6_ok nmX6 g_q2 rfl (by decide) (by decide) uf_X8_73 rfl rfl rfl rfl dX8_end_22 (fun H locs hw => ?_)
      obtain ⟨M4, eM4, hf⟩ := olt hf
      rw [← eM4] at hw
      refine lv_iconst (v := (1 : Int32)) X.1.1 X.1.2.1 dX8_end_25 (by decide) ?_
      cases hf
      exact r_retI (v := (1 : Int32)) X hw hr hlk rfl dX8_end_26
    · skip
      rw [if_neg c_3] at hf
      refine lv_iconst (v := (0 : Int32)) X.1.1 X.1.2.1 dX8_end_15 (by decide) ?_
      cases hf
      exact r_retI (v := (0 : Int32)) X hw hr hlk rfl dX8_end_16
/-! X8_keepPlace -/
def f_X8_keepPlace (h : Hs) (a0 : Nat) (p1 : Int32) (p2 : Nat) (M : Mm) : Option Mm :=
  gd (ok h a0 8) <|
  dq (zR h a0 6) fun q1 =>
  gd (ok h q1 4) <|
  (f_X4_copyFrom h q1 p2 M).bind fun z2 =>
  lt_ (sI z2 a0 8 p1) fun M3 =>
  lt_ (sI M3 a0 9 (-1 : Int32)) fun M4 =>
  some M4
set_option maxHeartbeats 4000000 in
set_option maxRecDepth 100000 in
theorem c_X8_keepPlace {l : Launch} {D : va_G} {cy : Nat → ClassId} {h : Hs} {a0 : Nat} {p1 : Int32} {p2 : Nat} {M : Mm} {z : Mm} (hf : f_X8_keepPlace h a0 p1 p2 M = some z) : CtV l D cy yX8_keepPlace (wu yX8_keepPlace cX8_keepPlace 3 none) ({ frames := 1, cells := 0, slots := 0, locals := 22 }) [.ref a0, .int p1, .ref p2] h M z := by
  refine enterV (cc := cX8_keepPlace) (maxL := 3) (ret := none) (by decide) (Nat.le_of_ble_eq_true rfl) ?_
  intro p e s m args below meth c A ls X hw hr hlk hl
  have hl : lv_has ls 3 [(0, .ref a0), (1, .int p1), (2, .ref p2)] := hl
  unfold f_X8_keepPlace at hf
  refine lv_aload_n X.1.1 X.1.2.1 dX8_keepPlace_0 rfl (lv_at hl 0 rfl) ?_
  obtain ⟨g_a0, hf⟩ := ogd hf
  obtain ⟨q1, eq1, hf⟩ := odq hf
  refine r_getq (k := 8) (j := 6) X hw rfl inX8 g_a0 rfl (by decide) (by decide) uf_X8_47 rfl dX8_keepPlace_1 eq1 ?_
  refine lv_aload_n X.1.1 X.1.2.1 dX8_keepPlace_4 rfl (lv_at hl 2 rfl) ?_
  obtain ⟨g_q1, hf⟩ := ogd hf
  obtain ⟨z2, ez2, hf⟩ := obd hf
  refine r_callVV (As := [.ref p2]) (rest := []) X hw (c_X4_copyFrom ez2) (cwV 1 X.1.2.2.2.2 (guV um_X8_281 ui_X4_copyFrom us_X4_copyFrom un_X4 uo_X4_copyFrom) rfl rfl rfl (by decide +kernel) ⟨Nat.le_of_ble_eq_true rfl, Nat.le_of_ble_eq_true rfl⟩) g_q1 (by decide) rfl rfl hl.1 rfl (Nat.le_of_ble_eq_true rfl) dX8_keepPlace_5 ⟨Nat.zero_le _, Nat.zero_le _⟩ (fun H locs hw => ?_)
  refine lv_aload_n X.1.1 X.1.2.1 dX8_keepPlace_8 rfl (lv_at hl 0 rfl) ?_
  refine lv_iload_n X.1.1 X.1.2.1 dX8_keepPlace_9 rfl (lv_at hl 1 rfl) ?_
  refine r_puti (k := 8) (j := 8) X hw rfl inX8 tyX8_ok nmX8 g_a0 rfl (by decide) (by decide) uf_X8_58 rfl rfl rfl rfl dX8_keepPlace_10 (fun H locs hw => ?_)
  obtain ⟨M3, eM3, hf⟩ := olt hf
  rw [← eM3] at hw
  refine lv_aload_n X.1.1 X.1.2.1 dX8_keepPlace_13 rfl (lv_at hl 0 rfl) ?_
  refine lv_iconst (v := (-1 : Int32)) X.1.1 X.1.2.1 dX8_keepPlace_14 (by decide) ?_
  refine r_puti (k := 8) (j := 9) X hw rfl inX8 tyX8_ok nmX8 g_a0 rfl (by decide) (by decide) uf_X8_62 rfl rfl rfl rfl dX8_keepPlace_15 (fun H locs hw => ?_)
  obtain ⟨M4, eM4, hf⟩ := olt hf
  rw [← eM4] at hw
  cases hf
  exact r_retV X hw hr hlk dX8_keepPlace_18
/-! X8_put -/
def f_X8_put (h : Hs) (a0 : Nat) (p1 : Int32) (p2 : Int32) (p3 : Int32) (p4 : Int32) (M : Mm) : Option (Int32 × Mm) :=
  gd (ok h a0 8) <|
  dq (zR h a0 1) fun q1 =>
  gd (ok h q1 0) <|
  (f_X0_placeAt h q1 p1 M).bind fun z2 =>
  mq z2
    (
     some ((0 : Int32), M)
    )
    (fun q3 =>
     (f_X8_isGaugeAsTold h p2 p3 p4 M).bind fun z4 =>
     if ¬ z4 = 0 then
       (f_X8_keepPlace h a0 p1 q3 M).bind fun z6 =>
       gd (ok h q3 4) <|
       (f_X4_become h q3 p2 p3 p4 z6).bind fun z7 =>
       some ((1 : Int32), z7)
     else
       some ((0 : Int32), M)
    )
set_option maxHeartbeats 4000000 in
set_option maxRecDepth 100000 in
theorem c_X8_put {l : Launch} {D : va_G} {cy : Nat → ClassId} {h : Hs} {a0 : Nat} {p1 : Int32} {p2 : Int32} {p3 : Int32} {p4 : Int32} {M : Mm} {z : (Int32 × Mm)} (hf : f_X8_put h a0 p1 p2 p3 p4 M = some z) : CtI l D cy yX8_put (wu yX8_put cX8_put 6 (some .boolean)) ({ frames := 2, cells := 0, slots := 0, locals := 45 }) [.ref a0, .int p1, .int p2, .int p3, .int p4] h M z.1 z.2 := by
  refine enterI (cc := cX8_put) (maxL := 6) (ret := (some .boolean)) (by decide) (Nat.le_of_ble_eq_true rfl) ?_
  intro p e s m args below meth c A ls X hw hr hlk hl
  have hl : lv_has ls 6 [(0, .ref a0), (1, .int p1), (2, .int p2), (3, .int p3), (4, .int p4)] := hl
  unfold f_X8_put at hf
  refine lv_aload_n X.1.1 X.1.2.1 dX8_put_0 rfl (lv_at hl 0 rfl) ?_
  obtain ⟨g_a0, hf⟩ := ogd hf
  obtain ⟨q1, eq1, hf⟩ := odq hf
  refine r_getq (k := 8) (j := 1) X hw rfl inX8 g_a0 rfl (by decide) (by decide) uf_X8_19 rfl dX8_put_1 eq1 ?_
  refine lv_iload_n X.1.1 X.1.2.1 dX8_put_4 rfl (lv_at hl 1 rfl) ?_
  obtain ⟨g_q1, hf⟩ := ogd hf
  obtain ⟨z2, ez2, hf⟩ := obd hf
  refine r_callVQ (As := [.int p1]) (rest := []) X hw (c_X0_placeAt ez2) (cwV 1 X.1.2.2.2.2 (guV um_X8_76 ui_X0_placeAt us_X0_placeAt un_X0 uo_X0_placeAt) rfl rfl rfl (by decide +kernel) ⟨Nat.le_of_ble_eq_true rfl, Nat.le_of_ble_eq_true rfl⟩) g_q1 (by decide) rfl rfl hl.1 rfl (Nat.le_of_ble_eq_true rfl) dX8_put_5 ⟨Nat.zero_le _, Nat.zero_le _⟩ (fun H locs hw => ?_)
  obtain ⟨nq3, hf⟩ | ⟨q3, nq3, hf⟩ := omq hf
  · rw [nq3]
    refine lv_astoreN (lv' := [(5, .null), (0, .ref a0), (1, .int p1), (2, .int p2), (3, .int p3), (4, .int p4)]) X.1.1 X.1.2.1 dX8_put_8 hl (by decide) rfl (fun ls hl => ?_)
    refine lv_aloadN X.1.1 X.1.2.1 dX8_put_10 (lv_at hl 0 rfl) ?_
    refine lv_ifnullN (tgt := 25) X.1.1 X.1.2.1 dX8_put_12 (by decide) ?_
    refine lv_iconst (v := (0 : Int32)) X.1.1 X.1.2.1 dX8_put_25 (by decide) ?_
    cases hf
    exact r_retI (v := (0 : Int32)) X hw hr hlk rfl dX8_put_26
  · rw [nq3]
    refine lv_astore (lv' := [(5, .ref q3), (0, .ref a0), (1, .int p1), (2, .int p2), (3, .int p3), (4, .int p4)]) X.1.1 X.1.2.1 dX8_put_8 hl (by decide) rfl (fun ls hl => ?_)
    refine lv_aload X.1.1 X.1.2.1 dX8_put_10 (lv_at hl 0 rfl) ?_
    refine lv_ifnull X.1.1 X.1.2.1 dX8_put_12 ?_
    refine lv_iload_n X.1.1 X.1.2.1 dX8_put_15 rfl (lv_at hl 3 rfl) ?_
    refine lv_iload_n X.1.1 X.1.2.1 dX8_put_16 rfl (lv_at hl 4 rfl) ?_
    refine lv_iload X.1.1 X.1.2.1 dX8_put_17 (lv_at hl 5 rfl) ?_
    obtain ⟨z4, ez4, hf⟩ := obd hf
    refine r_callSI (As := [.int p2, .int p3, .int p4]) (rest := []) X hw (c_X8_isGaugeAsTold ez4) (va_cwS 3 X.1.2.2.2.2 (guS um_X8_80 ut_X8_isGaugeAsTold un_X8 uo_X8_isGaugeAsTold) rfl rfl rfl (by decide +kernel) ⟨Nat.le_of_ble_eq_true rfl, Nat.le_of_ble_eq_true rfl⟩) rfl hl.1 rfl (Nat.le_of_ble_eq_true rfl) dX8_put_19 ⟨Nat.zero_le _, Nat.zero_le _⟩ (fun H locs hw => ?_)
    refine lv_if_ne (tgt := 27) X.1.1 X.1.2.1 dX8_put_22 (by decide) (fun c_5 => ?_) (fun c_5 => ?_)
    · skip
      rw [if_pos c_5] at hf
      refine lv_aload_n X.1.1 X.1.2.1 dX8_put_27 rfl (lv_at hl 1 rfl) ?_
      refine lv_iload_n X.1.1 X.1.2.1 dX8_put_28 rfl (lv_at hl 2 rfl) ?_
      refine lv_aload X.1.1 X.1.2.1 dX8_put_29 (lv_at hl 0 rfl) ?_
      obtain ⟨z6, ez6, hf⟩ := obd hf
      refine r_callVV (As := [.int p1, .ref q3]) (rest := []) X hw (c_X8_keepPlace ez6) (cwV 2 X.1.2.2.2.2 (guV um_X8_84 ui_X8_keepPlace us_X8_keepPlace un_X8 uo_X8_keepPlace) rfl rfl rfl (by decide +kernel) ⟨Nat.le_of_ble_eq_true rfl, Nat.le_of_ble_eq_true rfl⟩) g_a0 (by decide) rfl rfl hl.1 rfl (Nat.le_of_ble_eq_true rfl) dX8_put_31 ⟨Nat.zero_le _, Nat.zero_le _⟩ (fun H locs hw => ?_)
      refine lv_aload X.1.1 X.1.2.1 dX8_put_34 (lv_at hl 0 rfl) ?_
      refine lv_iload_n X.1.1 X.1.2.1 dX8_put_36 rfl (lv_at hl 3 rfl) ?_
      refine lv_iload_n X.1.1 X.1.2.1 dX8_put_37 rfl (lv_at hl 4 rfl) ?_
      refine lv_iload X.1.1 X.1.2.1 dX8_put_38 (lv_at hl 5 rfl) ?_
      obtain ⟨g_q3, hf⟩ := ogd hf
      obtain ⟨z7, ez7, hf⟩ := obd hf
      refine r_callVV (As := [.int p2, .int p3, .int p4]) (rest := []) X hw (c_X4_become ez7) (cwV 3 X.1.2.2.2.2 (guV um_X8_88 ui_X4_become us_X4_become un_X4 uo_X4_become) rfl rfl rfl (by decide +kernel) ⟨Nat.le_of_ble_eq_true rfl, Nat.le_of_ble_eq_true rfl⟩) g_q3 (by decide) rfl rfl hl.1 rfl (Nat.le_of_ble_eq_true rfl) dX8_put_40 ⟨Nat.zero_le _, Nat.zero_le _⟩ (fun H locs hw => ?_)
      refine lv_iconst (v := (1 : Int32)) X.1.1 X.1.2.1 dX8_put_43 (by decide) ?_
      cases hf
      exact r_retI (v := (1 : Int32)) X hw hr hlk rfl dX8_put_44
    · skip
      rw [if_neg (fun z => z c_5)] at hf
      refine lv_iconst (v := (0 : Int32)) X.1.1 X.1.2.1 dX8_put_25 (by decide) ?_
      cases hf
      exact r_retI (v := (0 : Int32)) X hw hr hlk rfl dX8_put_26
/-! X8_plug -/
def f_X8_plug (h : Hs) (a0 : Nat) (p1 : Int32) (M : Mm) : Option (Int32 × Mm) :=
  gd (ok h a0 8) <|
  dq (zR h a0 1) fun q1 =>
  gd (ok h q1 0) <|
  (f_X0_placeAt h q1 p1 M).bind fun z2 =>
  mq z2
    (
     some ((0 : Int32), M)
    )
    (fun q3 =>
     (f_X8_keepPlace h a0 p1 q3 M).bind fun z4 =>
     gd (ok h q3 4) <|
     (f_X4_become h q3 (5 : Int32) (0 : Int32) (0 : Int32) z4).bind fun z5 =>
     some ((1 : Int32), z5)
    )
set_option maxHeartbeats 4000000 in
set_option maxRecDepth 100000 in
theorem c_X8_plug {l : Launch} {D : va_G} {cy : Nat → ClassId} {h : Hs} {a0 : Nat} {p1 : Int32} {M : Mm} {z : (Int32 × Mm)} (hf : f_X8_plug h a0 p1 M = some z) : CtI l D cy yX8_plug (wu yX8_plug cX8_plug 3 (some .boolean)) ({ frames := 2, cells := 0, slots := 0, locals := 44 }) [.ref a0, .int p1] h M z.1 z.2 := by
  refine enterI (cc := cX8_plug) (maxL := 3) (ret := (some .boolean)) (by decide) (Nat.le_of_ble_eq_true rfl) ?_
  intro p e s m args below meth c A ls X hw hr hlk hl
  have hl : lv_has ls 3 [(0, .ref a0), (1, .int p1)] := hl
  unfold f_X8_plug at hf
  refine lv_aload_n X.1.1 X.1.2.1 dX8_plug_0 rfl (lv_at hl 0 rfl) ?_
  obtain ⟨g_a0, hf⟩ := ogd hf
  obtain ⟨q1, eq1, hf⟩ := odq hf
  refine r_getq (k := 8) (j := 1) X hw rfl inX8 g_a0 rfl (by decide) (by decide) uf_X8_19 rfl dX8_plug_1 eq1 ?_
  refine lv_iload_n X.1.1 X.1.2.1 dX8_plug_4 rfl (lv_at hl 1 rfl) ?_
  obtain ⟨g_q1, hf⟩ := ogd hf
  obtain ⟨z2, ez2, hf⟩ := obd hf
  refine r_callVQ (As := [.int p1]) (rest := []) X hw (c_X0_placeAt ez2) (cwV 1 X.1.2.2.2.2 (guV um_X8_76 ui_X0_placeAt us_X0_placeAt un_X0 uo_X0_placeAt) rfl rfl rfl (by decide +kernel) ⟨Nat.le_of_ble_eq_true rfl, Nat.le_of_ble_eq_true rfl⟩) g_q1 (by decide) rfl rfl hl.1 rfl (Nat.le_of_ble_eq_true rfl) dX8_plug_5 ⟨Nat.zero_le _, Nat.zero_le _⟩ (fun H locs hw => ?_)
  obtain ⟨nq3, hf⟩ | ⟨q3, nq3, hf⟩ := omq hf
  · rw [nq3]
    refine lv_astore_nN (lv' := [(2, .null), (0, .ref a0), (1, .int p1)]) X.1.1 X.1.2.1 dX8_plug_8 rfl hl (by decide) rfl (fun ls hl => ?_)
    refine lv_aload_nN X.1.1 X.1.2.1 dX8_plug_9 rfl (lv_at hl 0 rfl) ?_
    refine lv_ifnonnullN X.1.1 X.1.2.1 dX8_plug_10 ?_
    refine lv_iconst (v := (0 : Int32)) X.1.1 X.1.2.1 dX8_plug_13 (by decide) ?_
    cases hf
    exact r_retI (v := (0 : Int32)) X hw hr hlk rfl dX8_plug_14
  · rw [nq3]
    refine lv_astore_n (lv' := [(2, .ref q3), (0, .ref a0), (1, .int p1)]) X.1.1 X.1.2.1 dX8_plug_8 rfl hl (by decide) rfl (fun ls hl => ?_)
    refine lv_aload_n X.1.1 X.1.2.1 dX8_plug_9 rfl (lv_at hl 0 rfl) ?_
    refine lv_ifnonnull (tgt := 15) X.1.1 X.1.2.1 dX8_plug_10 (by decide) ?_
    refine lv_aload_n X.1.1 X.1.2.1 dX8_plug_15 rfl (lv_at hl 1 rfl) ?_
    refine lv_iload_n X.1.1 X.1.2.1 dX8_plug_16 rfl (lv_at hl 2 rfl) ?_
    refine lv_aload_n X.1.1 X.1.2.1 dX8_plug_17 rfl (lv_at hl 0 rfl) ?_
    obtain ⟨z4, ez4, hf⟩ := obd hf
    refine r_callVV (As := [.int p1, .ref q3]) (rest := []) X hw (c_X8_keepPlace ez4) (cwV 2 X.1.2.2.2.2 (guV um_X8_84 ui_X8_keepPlace us_X8_keepPlace un_X8 uo_X8_keepPlace) rfl rfl rfl (by decide +kernel) ⟨Nat.le_of_ble_eq_true rfl, Nat.le_of_ble_eq_true rfl⟩) g_a0 (by decide) rfl rfl hl.1 rfl (Nat.le_of_ble_eq_true rfl) dX8_plug_18 ⟨Nat.zero_le _, Nat.zero_le _⟩ (fun H locs hw => ?_)
    refine lv_aload_n X.1.1 X.1.2.1 dX8_plug_21 rfl (lv_at hl 0 rfl) ?_
    refine lv_iconst (v := (5 : Int32)) X.1.1 X.1.2.1 dX8_plug_22 (by decide) ?_
    refine lv_iconst (v := (0 : Int32)) X.1.1 X.1.2.1 dX8_plug_23 (by decide) ?_
    refine lv_iconst (v := (0 : Int32)) X.1.1 X.1.2.1 dX8_plug_24 (by decide) ?_
    obtain ⟨g_q3, hf⟩ := ogd hf
    obtain ⟨z5, ez5, hf⟩ := obd hf
    refine r_callVV (As := [.int (5 : Int32), .int (0 : Int32), .int (0 : Int32)]) (rest := []) X hw (c_X4_become ez5) (cwV 3 X.1.2.2.2.2 (guV um_X8_88 ui_X4_become us_X4_become un_X4 uo_X4_become) rfl rfl rfl (by decide +kernel) ⟨Nat.le_of_ble_eq_true rfl, Nat.le_of_ble_eq_true rfl⟩) g_q3 (by decide) rfl rfl hl.1 rfl (Nat.le_of_ble_eq_true rfl) dX8_plug_25 ⟨Nat.zero_le _, Nat.zero_le _⟩ (fun H locs hw => ?_)
    refine lv_iconst (v := (1 : Int32)) X.1.1 X.1.2.1 dX8_plug_28 (by decide) ?_
    cases hf
    exact r_retI (v := (1 : Int32)) X hw hr hlk rfl dX8_plug_29
/-! X8_take -/
def f_X8_take (h : Hs) (a0 : Nat) (p1 : Int32) (M : Mm) : Option (Int32 × Mm) :=
  gd (ok h a0 8) <|
  dq (zR h a0 1) fun q1 =>
  gd (ok h q1 0) <|
  (f_X0_placeAt h q1 p1 M).bind fun z2 =>
  mq z2
    (
     some ((0 : Int32), M)
    )
    (fun q3 =>
     gd (ok h q3 4) <|
     if ¬ (zI M q3 1) = (-1 : Int32) then
       (f_X8_keepPlace h a0 p1 q3 M).bind fun z5 =>
       (f_X4_become h q3 (-1 : Int32) (0 : Int32) (0 : Int32) z5).bind fun z6 =>
       some ((1 : Int32), z6)
     else
       some ((0 : Int32), M)
    )
set_option maxHeartbeats 4000000 in
set_option maxRecDepth 100000 in
theorem c_X8_take {l : Launch} {D : va_G} {cy : Nat → ClassId} {h : Hs} {a0 : Nat} {p1 : Int32} {M : Mm} {z : (Int32 × Mm)} (hf : f_X8_take h a0 p1 M = some z) : CtI l D cy yX8_take (wu yX8_take cX8_take 3 (some .boolean)) ({ frames := 2, cells := 0, slots := 0, locals := 44 }) [.ref a0, .int p1] h M z.1 z.2 := by
  refine enterI (cc := cX8_take) (maxL := 3) (ret := (some .boolean)) (by decide) (Nat.le_of_ble_eq_true rfl) ?_
  intro p e s m args below meth c A ls X hw hr hlk hl
  have hl : lv_has ls 3 [(0, .ref a0), (1, .int p1)] := hl
  unfold f_X8_take at hf
  refine lv_aload_n X.1.1 X.1.2.1 dX8_take_0 rfl (lv_at hl 0 rfl) ?_
  obtain ⟨g_a0, hf⟩ := ogd hf
  obtain ⟨q1, eq1, hf⟩ := odq hf
  refine r_getq (k := 8) (j := 1) X hw rfl inX8 g_a0 rfl (by decide) (by decide) uf_X8_19 rfl dX8_take_1 eq1 ?_
  refine lv_iload_n X.1.1 X.1.2.1 dX8_take_4 rfl (lv_at hl 1 rfl) ?_
  obtain ⟨g_q1, hf⟩ := ogd hf
  obtain ⟨z2, ez2, hf⟩ := obd hf
  refine r_callVQ (As := [.int p1]) (rest := []) X hw (c_X0_placeAt ez2) (cwV 1 X.1.2.2.2.2 (guV um_X8_76 ui_X0_placeAt us_X0_placeAt un_X0 uo_X0_placeAt) rfl rfl rfl (by decide +kernel) ⟨Nat.le_of_ble_eq_true rfl, Nat.le_of_ble_eq_true rfl⟩) g_q1 (by decide) rfl rfl hl.1 rfl (Nat.le_of_ble_eq_true rfl) dX8_take_5 ⟨Nat.zero_le _, Nat.zero_le _⟩ (fun H locs hw => ?_)
  obtain ⟨nq3, hf⟩ | ⟨q3, nq3, hf⟩ := omq hf
  · rw [nq3]
    refine lv_astore_nN (lv' := [(2, .null), (0, .ref a0), (1, .int p1)]) X.1.1 X.1.2.1 dX8_take_8 rfl hl (by decide) rfl (fun ls hl => ?_)
    refine lv_aload_nN X.1.1 X.1.2.1 dX8_take_9 rfl (lv_at hl 0 rfl) ?_
    refine lv_ifnullN (tgt := 21) X.1.1 X.1.2.1 dX8_take_10 (by decide) ?_
    refine lv_iconst (v := (0 : Int32)) X.1.1 X.1.2.1 dX8_take_21 (by decide) ?_
    cases hf
    exact r_retI (v := (0 : Int32)) X hw hr hlk rfl dX8_take_22
  · rw [nq3]
    refine lv_astore_n (lv' := [(2, .ref q3), (0, .ref a0), (1, .int p1)]) X.1.1 X.1.2.1 dX8_take_8 rfl hl (by decide) rfl (fun ls hl => ?_)
    refine lv_aload_n X.1.1 X.1.2.1 dX8_take_9 rfl (lv_at hl 0 rfl) ?_
    refine lv_ifnull X.1.1 X.1.2.1 dX8_take_10 ?_
    refine lv_aload_n X.1.1 X.1.2.1 dX8_take_13 rfl (lv_at hl 0 rfl) ?_
    obtain ⟨g_q3, hf⟩ := ogd hf
    refine r_geti (k := 4) (j := 1) X hw rfl inX4 g_q3 rfl (by decide) (by decide) uf_X8_92 rfl dX8_take_14 ?_
    refine lv_iconst (v := (-1 : Int32)) X.1.1 X.1.2.1 dX8_take_17 (by decide) ?_
    refine lv_icmp_ne (tgt := 23) X.1.1 X.1.2.1 dX8_take_18 (by decide) (fun c_4 => ?_) (fun c_4 => ?_)
    · skip
      rw [if_pos c_4] at hf
      refine lv_aload_n X.1.1 X.1.2.1 dX8_take_23 rfl (lv_at hl 1 rfl) ?_
      refine lv_iload_n X.1.1 X.1.2.1 dX8_take_24 rfl (lv_at hl 2 rfl) ?_
      refine lv_aload_n X.1.1 X.1.2.1 dX8_take_25 rfl (lv_at hl 0 rfl) ?_
      obtain ⟨z5, ez5, hf⟩ := obd hf
      refine r_callVV (As := [.int p1, .ref q3]) (rest := []) X hw (c_X8_keepPlace ez5) (cwV 2 X.1.2.2.2.2 (guV um_X8_84 ui_X8_keepPlace us_X8_keepPlace un_X8 uo_X8_keepPlace) rfl rfl rfl (by decide +kernel) ⟨Nat.le_of_ble_eq_true rfl, Nat.le_of_ble_eq_true rfl⟩) g_a0 (by decide) rfl rfl hl.1 rfl (Nat.le_of_ble_eq_true rfl) dX8_take_26 ⟨Nat.zero_le _, Nat.zero_le _⟩ (fun H locs hw => ?_)
      refine lv_aload_n X.1.1 X.1.2.1 dX8_take_29 rfl (lv_at hl 0 rfl) ?_
      refine lv_iconst (v := (-1 : Int32)) X.1.1 X.1.2.1 dX8_take_30 (by decide) ?_
      refine lv_iconst (v := (0 : Int32)) X.1.1 X.1.2.1 dX8_take_31 (by decide) ?_
      refine lv_iconst (v := (0 : Int32)) X.1.1 X.1.2.1 dX8_take_32 (by decide) ?_
      obtain ⟨z6, ez6, hf⟩ := obd hf
      refine r_callVV (As := [.int (-1 : Int32), .int (0 : Int32), .int (0 : Int32)]) (rest := []) X hw (c_X4_become ez6) (cwV 3 X.1.2.2.2.2 (guV um_X8_88 ui_X4_become us_X4_become un_X4 uo_X4_become) rfl rfl rfl (by decide +kernel) ⟨Nat.le_of_ble_eq_true rfl, Nat.le_of_ble_eq_true rfl⟩) g_q3 (by decide) rfl rfl hl.1 rfl (Nat.le_of_ble_eq_true rfl) dX8_take_33 ⟨Nat.zero_le _, Nat.zero_le _⟩ (fun H locs hw => ?_)
      refine lv_iconst (v := (1 : Int32)) X.1.1 X.1.2.1 dX8_take_36 (by decide) ?_
      cases hf
      exact r_retI (v := (1 : Int32)) X hw hr hlk rfl dX8_take_37
    · skip
      rw [if_neg (fun z => z c_4)] at hf
      refine lv_iconst (v := (0 : Int32)) X.1.1 X.1.2.1 dX8_take_21 (by decide) ?_
      cases hf
      exact r_retI (v := (0 : Int32)) X hw hr hlk rfl dX8_take_22
/-! X8_kind -/
def f_X8_kind (h : Hs) (a0 : Nat) (p1 : Int32) (M : Mm) : Option Int32 :=
  gd (ok h a0 8) <|
  dq (zR h a0 1) fun q1 =>
  gd (ok h q1 0) <|
  (f_X0_placeAt h q1 p1 M).bind fun z2 =>
  mq z2
    (
     some (-2 : Int32)
    )
    (fun q3 =>
     gd (ok h q3 4) <|
     some (zI M q3 1)
    )
set_option maxHeartbeats 4000000 in
set_option maxRecDepth 100000 in
theorem c_X8_kind {l : Launch} {D : va_G} {cy : Nat → ClassId} {h : Hs} {a0 : Nat} {p1 : Int32} {M : Mm} {z : Int32} (hf : f_X8_kind h a0 p1 M = some z) : CtI l D cy yX8_kind (wu yX8_kind cX8_kind 3 (some .int)) ({ frames := 1, cells := 0, slots := 0, locals := 21 }) [.ref a0, .int p1] h M z M := by
  refine enterI (cc := cX8_kind) (maxL := 3) (ret := (some .int)) (by decide) (Nat.le_of_ble_eq_true rfl) ?_
  intro p e s m args below meth c A ls X hw hr hlk hl
  have hl : lv_has ls 3 [(0, .ref a0), (1, .int p1)] := hl
  unfold f_X8_kind at hf
  refine lv_aload_n X.1.1 X.1.2.1 dX8_kind_0 rfl (lv_at hl 0 rfl) ?_
  obtain ⟨g_a0, hf⟩ := ogd hf
  obtain ⟨q1, eq1, hf⟩ := odq hf
  refine r_getq (k := 8) (j := 1) X hw rfl inX8 g_a0 rfl (by decide) (by decide) uf_X8_19 rfl dX8_kind_1 eq1 ?_
  refine lv_iload_n X.1.1 X.1.2.1 dX8_kind_4 rfl (lv_at hl 1 rfl) ?_
  obtain ⟨g_q1, hf⟩ := ogd hf
  obtain ⟨z2, ez2, hf⟩ := obd hf
  refine r_callVQ (As := [.int p1]) (rest := []) X hw (c_X0_placeAt ez2) (cwV 1 X.1.2.2.2.2 (guV um_X8_76 ui_X0_placeAt us_X0_placeAt un_X0 uo_X0_placeAt) rfl rfl rfl (by decide +kernel) ⟨Nat.le_of_ble_eq_true rfl, Nat.le_of_ble_eq_true rfl⟩) g_q1 (by decide) rfl rfl hl.1 rfl (Nat.le_of_ble_eq_true rfl) dX8_kind_5 ⟨Nat.zero_le _, Nat.zero_le _⟩ (fun H locs hw => ?_)
  obtain ⟨nq3, hf⟩ | ⟨q3, nq3, hf⟩ := omq hf
  · rw [nq3]
    refine lv_astore_nN (lv' := [(2, .null), (0, .ref a0), (1, .int p1)]) X.1.1 X.1.2.1 dX8_kind_8 rfl hl (by decide) rfl (fun ls hl => ?_)
    refine lv_aload_nN X.1.1 X.1.2.1 dX8_kind_9 rfl (lv_at hl 0 rfl) ?_
    refine lv_ifnonnullN X.1.1 X.1.2.1 dX8_kind_10 ?_
    refine lv_bipush (v := (-2 : Int32)) X.1.1 X.1.2.1 dX8_kind_13 (by decide) ?_
    refine lv_goto (tgt := 22) X.1.1 X.1.2.1 dX8_kind_15 (by decide) ?_
    cases hf
    exact r_retI X hw hr hlk rfl dX8_kind_22
  · rw [nq3]
    refine lv_astore_n (lv' := [(2, .ref q3), (0, .ref a0), (1, .int p1)]) X.1.1 X.1.2.1 dX8_kind_8 rfl hl (by decide) rfl (fun ls hl => ?_)
    refine lv_aload_n X.1.1 X.1.2.1 dX8_kind_9 rfl (lv_at hl 0 rfl) ?_
    refine lv_ifnonnull (tgt := 18) X.1.1 X.1.2.1 dX8_kind_10 (by decide) ?_
    refine lv_aload_n X.1.1 X.1.2.1 dX8_kind_18 rfl (lv_at hl 0 rfl) ?_
    obtain ⟨g_q3, hf⟩ := ogd hf
    refine r_geti (k := 4) (j := 1) X hw rfl inX4 g_q3 rfl (by decide) (by decide) uf_X8_92 rfl dX8_kind_19 ?_
    cases hf
    exact r_retI X hw hr hlk rfl dX8_kind_22
/-! X8_readTape -/
def lp_X8_readTape_88 (h : Hs) (w5 : Int32) (w4 : Int32) (w2 : Int32) (a0 : Nat) (q9 : Nat) (q3 : Nat) : Nat → Int32 → Mm → Option (Int32 × Mm)
  | 0, _, _ => none
  | n + 1, v6, M =>
    if w5 ≤ v6 then
      some (v6, M)
    else
      (f_X6_readingAt h q9 (v6 * w4) w4 w2 M).bind fun z15 =>
      (f_X4_add h q3 z15 M).bind fun z16 =>
      lt_ (v6 + (1 : Int32)) fun x17 =>
      lp_X8_readTape_88 h w5 w4 w2 a0 q9 q3 n x17 z16
set_option maxHeartbeats 4000000 in
set_option maxRecDepth 100000 in
theorem wlp_X8_readTape_88 {l : Launch} {D : va_G} {cy : Nat → ClassId} {h : Hs} {w5 : Int32} {w4 : Int32} {w2 : Int32} {a0 : Nat} {q9 : Nat} {q3 : Nat} {p : Program} {e : Env} {s : State} {m : MethodId} {args : Array Value} {below : List Frame} {meth : Method} {c : Code} {A : Nat → Prop} (X : Cx p s m args c cX8_readTape 7 gtbl RX8 D cy A) {Q : State → Prop} (g_a0 : ok h a0 8) (g_q9 : ok h q9 6) (g_q3 : ok h q3 4) (eq9 : zR h a0 0 = some q9) : ∀ (n : Nat) (v6 : Int32) (M : Mm) (z : (Int32 × Mm)) (H : Heap) (locs : List Loc) (ls : Array Slot), lp_X8_readTape_88 h w5 w4 w2 a0 q9 q3 n v6 M = some z → Wd D cy A s.heap h M H locs → lv_has ls 7 [(6, .int v6), (5, .int w5), (4, .int w4), (3, .ref q3), (0, .ref a0), (2, .int w2)] → (∀ x : (Int32 × Mm), z = x → ∀ (H : Heap) (locs : List Loc) (ls : Array Slot), Wd D cy A s.heap h x.2 H locs → lv_has ls 7 [(6, .int x.1), (5, .int w5), (4, .int w4), (3, .ref q3), (0, .ref a0), (2, .int w2)] → W p l e ({ frames := 4, cells := 0, slots := 0, locals := 100 } : Room) s m args below meth c H locs 0 0 Q (F0 m 120 ls [])) → W p l e ({ frames := 4, cells := 0, slots := 0, locals := 100 } : Room) s m args below meth c H locs 0 0 Q (F0 m 88 ls []) := by
  intro n
  induction n with
  | zero => intro v6 M z H locs ls hf hw hl kx; exact absurd hf (by intro q; cases q)
  | succ n ih =>
    intro v6 M z H locs ls hf hw hl kx
    unfold lp_X8_readTape_88 at hf
    refine lv_iload X.1.1 X.1.2.1 dX8_readTape_88 (lv_at hl 0 rfl) ?_
    refine lv_iload X.1.1 X.1.2.1 dX8_readTape_90 (lv_at hl 1 rfl) ?_
    refine lv_icmp_ge (tgt := 120) X.1.1 X.1.2.1 dX8_readTape_92 (by decide) (fun c_14 => ?_) (fun c_14 => ?_)
    · skip
      rw [if_pos c_14] at hf
      cases hf
      exact kx _ rfl _ _ _ hw (lv_sub hl [0, 1, 2, 3, 4, 5] rfl)
    · skip
      rw [if_neg c_14] at hf
      refine lv_aload_n X.1.1 X.1.2.1 dX8_readTape_95 rfl (lv_at hl 3 rfl) ?_
      refine lv_aload_n X.1.1 X.1.2.1 dX8_readTape_96 rfl (lv_at hl 4 rfl) ?_
      refine r_getq (k := 8) (j := 0) X hw rfl inX8 g_a0 rfl (by decide) (by decide) uf_X8_12 rfl dX8_readTape_97 eq9 ?_
      refine lv_iload X.1.1 X.1.2.1 dX8_readTape_100 (lv_at hl 0 rfl) ?_
      refine lv_iload X.1.1 X.1.2.1 dX8_readTape_102 (lv_at hl 2 rfl) ?_
      refine lv_imul X.1.1 X.1.2.1 dX8_readTape_104 ?_
      refine lv_iload X.1.1 X.1.2.1 dX8_readTape_105 (lv_at hl 2 rfl) ?_
      refine lv_iload_n X.1.1 X.1.2.1 dX8_readTape_107 rfl (lv_at hl 5 rfl) ?_
      obtain ⟨z15, ez15, hf⟩ := obd hf
      refine r_callVI (As := [.int (v6 * w4), .int w4, .int w2]) (rest := [.ref q3]) X hw (c_X6_readingAt ez15) (cwV 3 X.1.2.2.2.2 (guV um_X8_310 ui_X6_readingAt us_X6_readingAt un_X6 uo_X6_readingAt) rfl rfl rfl (by decide +kernel) ⟨Nat.le_of_ble_eq_true rfl, Nat.le_of_ble_eq_true rfl⟩) g_q9 (by decide) rfl rfl hl.1 rfl (Nat.le_of_ble_eq_true rfl) dX8_readTape_108 ⟨Nat.zero_le _, Nat.zero_le _⟩ (fun H locs hw => ?_)
      obtain ⟨z16, ez16, hf⟩ := obd hf
      refine r_callVV (As := [.int z15]) (rest := []) X hw (c_X4_add ez16) (cwV 1 X.1.2.2.2.2 (guV um_X8_314 ui_X4_add us_X4_add un_X4 uo_X4_add) rfl rfl rfl (by decide +kernel) ⟨Nat.le_of_ble_eq_true rfl, Nat.le_of_ble_eq_true rfl⟩) g_q3 (by decide) rfl rfl hl.1 rfl (Nat.le_of_ble_eq_true rfl) dX8_readTape_111 ⟨Nat.zero_le _, Nat.zero_le _⟩ (fun H locs hw => ?_)
      obtain ⟨x17, ex17, hf⟩ := olt hf
      refine lv_iinc (v := x17) (lv' := [(6, .int x17), (5, .int w5), (4, .int w4), (3, .ref q3), (0, .ref a0), (2, .int w2)]) X.1.1 X.1.2.1 dX8_readTape_114 hl (k := 0) rfl (by rw [ex17]; rfl) (by decide) rfl (fun ls hl => ?_)
      refine lv_goto (tgt := 88) X.1.1 X.1.2.1 dX8_readTape_117 (by decide) ?_
      exact ih _ _ _ _ _ _ hf hw (lv_sub hl [0, 1, 2, 3, 4, 5] rfl) kx
def f_X8_readTape (h : Hs) (a0 : Nat) (p1 : Int32) (p2 : Int32) (M : Mm) : Option (Int32 × Mm) :=
  gd (ok h a0 8) <|
  dq (zR h a0 1) fun q1 =>
  gd (ok h q1 0) <|
  (f_X0_fedGaugeAt h q1 p1 M).bind fun z2 =>
  mq z2
    (
     some ((-1 : Int32), M)
    )
    (fun q3 =>
     if p2 < 0 then
       some ((-2 : Int32), M)
     else
       if p2 < (6 : Int32) then
         gd (inb p2 6) <|
         lt_ (bowN p2.toNatClampNeg) fun x7 =>
         if (1 : Int32) ≤ x7 then
           dq (zR h a0 0) fun q9 =>
           gd (ok h q9 6) <|
           gd (¬ x7 = 0) <|
           lt_ ((((zI M q9 1) + x7) - (1 : Int32)) / x7) fun x11 =>
           gd (ok h q3 4) <|
           if ((zI M q3 4) + x11) ≤ (400 : Int32) then
             (f_X8_keepPlace h a0 p1 q3 M).bind fun z13 =>
             (lp_X8_readTape_88 h x11 x7 p2 a0 q9 q3 fuel (0 : Int32) z13).bind fun z18 =>
             some (zI z18.2 q3 4, z18.2)
           else
             some ((-3 : Int32), M)
         else
           some ((-2 : Int32), M)
       else
         some ((-2 : Int32), M)
    )
set_option maxHeartbeats 4000000 in
set_option maxRecDepth 100000 in
theorem c_X8_readTape {l : Launch} {D : va_G} {cy : Nat → ClassId} {h : Hs} {a0 : Nat} {p1 : Int32} {p2 : Int32} {M : Mm} {z : (Int32 × Mm)} (hf : f_X8_readTape h a0 p1 p2 M = some z) : CtI l D cy yX8_readTape (wu yX8_readTape cX8_readTape 7 (some .int)) ({ frames := 4, cells := 0, slots := 0, locals := 100 }) [.ref a0, .int p1, .int p2] h M z.1 z.2 := by
  refine enterI (cc := cX8_readTape) (maxL := 7) (ret := (some .int)) (by decide) (Nat.le_of_ble_eq_true rfl) ?_
  intro p e s m args below meth c A ls X hw hr hlk hl
  have hl : lv_has ls 7 [(0, .ref a0), (1, .int p1), (2, .int p2)] := hl
  unfold f_X8_readTape at hf
  refine lv_aload_n X.1.1 X.1.2.1 dX8_readTape_0 rfl (lv_at hl 0 rfl) ?_
  obtain ⟨g_a0, hf⟩ := ogd hf
  obtain ⟨q1, eq1, hf⟩ := odq hf
  refine r_getq (k := 8) (j := 1) X hw rfl inX8 g_a0 rfl (by decide) (by decide) uf_X8_19 rfl dX8_readTape_1 eq1 ?_
  refine lv_iload_n X.1.1 X.1.2.1 dX8_readTape_4 rfl (lv_at hl 1 rfl) ?_
  obtain ⟨g_q1, hf⟩ := ogd hf
  obtain ⟨z2, ez2, hf⟩ := obd hf
  refine r_callVQ (As := [.int p1]) (rest := []) X hw (c_X0_fedGaugeAt ez2) (cwV 1 X.1.2.2.2.2 (guV um_X8_99 ui_X0_fedGaugeAt us_X0_fedGaugeAt un_X0 uo_X0_fedGaugeAt) rfl rfl rfl (by decide +kernel) ⟨Nat.le_of_ble_eq_true rfl, Nat.le_of_ble_eq_true rfl⟩) g_q1 (by decide) rfl rfl hl.1 rfl (Nat.le_of_ble_eq_true rfl) dX8_readTape_5 ⟨Nat.zero_le _, Nat.zero_le _⟩ (fun H locs hw => ?_)
  obtain ⟨nq3, hf⟩ | ⟨q3, nq3, hf⟩ := omq hf
  · rw [nq3]
    refine lv_astore_nN (lv' := [(3, .null), (0, .ref a0), (1, .int p1), (2, .int p2)]) X.1.1 X.1.2.1 dX8_readTape_8 rfl hl (by decide) rfl (fun ls hl => ?_)
    refine lv_aload_nN X.1.1 X.1.2.1 dX8_readTape_9 rfl (lv_at hl 0 rfl) ?_
    refine lv_ifnonnullN X.1.1 X.1.2.1 dX8_readTape_10 ?_
    refine lv_iconst (v := (-1 : Int32)) X.1.1 X.1.2.1 dX8_readTape_13 (by decide) ?_
    cases hf
    exact r_retI (v := (-1 : Int32)) X hw hr hlk rfl dX8_readTape_14
  · rw [nq3]
    refine lv_astore_n (lv' := [(3, .ref q3), (0, .ref a0), (1, .int p1), (2, .int p2)]) X.1.1 X.1.2.1 dX8_readTape_8 rfl hl (by decide) rfl (fun ls hl => ?_)
    refine lv_aload_n X.1.1 X.1.2.1 dX8_readTape_9 rfl (lv_at hl 0 rfl) ?_
    refine lv_ifnonnull (tgt := 15) X.1.1 X.1.2.1 dX8_readTape_10 (by decide) ?_
    refine lv_iload_n X.1.1 X.1.2.1 dX8_readTape_15 rfl (lv_at hl 3 rfl) ?_
    refine lv_if_lt (tgt := 27) X.1.1 X.1.2.1 dX8_readTape_16 (by decide) (fun c_4 => ?_) (fun c_4 => ?_)
    · skip
      rw [if_pos c_4] at hf
      refine lv_bipush (v := (-2 : Int32)) X.1.1 X.1.2.1 dX8_readTape_27 (by decide) ?_
      cases hf
      exact r_retI (v := (-2 : Int32)) X hw hr hlk rfl dX8_readTape_29
    · skip
      rw [if_neg c_4] at hf
      refine lv_iload_n X.1.1 X.1.2.1 dX8_readTape_19 rfl (lv_at hl 3 rfl) ?_
      obtain ⟨⟨t0, hZ, hT⟩, -⟩ := id X.2.2.2
      refine va_gets X.1.1 X.1.2.1 hZ hw.2.2.1 X.1.2.2.2.1 (X.1.2.2.2.2 _ uf_X8_306) (fun _ q => q) dX8_readTape_20 ?_
      refine va_tlen (v := (6 : Int32)) X.1.1 X.1.2.1 hT hw.2.2.1 rfl dX8_readTape_23 ?_
      refine lv_icmp_lt (tgt := 30) X.1.1 X.1.2.1 dX8_readTape_24 (by decide) (fun c_5 => ?_) (fun c_5 => ?_)
      · skip
        rw [if_pos c_5] at hf
        refine va_gets X.1.1 X.1.2.1 hZ hw.2.2.1 X.1.2.2.2.1 (X.1.2.2.2.2 _ uf_X8_306) (fun _ q => q) dX8_readTape_30 ?_
        refine lv_iload_n X.1.1 X.1.2.1 dX8_readTape_33 rfl (lv_at hl 3 rfl) ?_
        obtain ⟨i_6, hf⟩ := ogd hf
        refine va_ti (v := .int (bowN p2.toNatClampNeg)) X.1.1 X.1.2.1 hT hw.2.2.1 i_6 rfl dX8_readTape_34 ?_
        refine lv_topi (fun x7 ex7 => ?_)
        have hf := oltE ex7 hf
        refine lv_istore (lv' := [(4, .int x7), (3, .ref q3), (0, .ref a0), (1, .int p1), (2, .int p2)]) X.1.1 X.1.2.1 dX8_readTape_35 hl (by decide) rfl (fun ls hl => ?_)
        refine lv_iload X.1.1 X.1.2.1 dX8_readTape_37 (lv_at hl 0 rfl) ?_
        refine lv_iconst (v := (1 : Int32)) X.1.1 X.1.2.1 dX8_readTape_39 (by decide) ?_
        refine lv_icmp_ge (tgt := 46) X.1.1 X.1.2.1 dX8_readTape_40 (by decide) (fun c_8 => ?_) (fun c_8 => ?_)
        · skip
          rw [if_pos c_8] at hf
          refine lv_aload_n X.1.1 X.1.2.1 dX8_readTape_46 rfl (lv_at hl 2 rfl) ?_
          obtain ⟨q9, eq9, hf⟩ := odq hf
          refine r_getq (k := 8) (j := 0) X hw rfl inX8 g_a0 rfl (by decide) (by decide) uf_X8_12 rfl dX8_readTape_47 eq9 ?_
          obtain ⟨g_q9, hf⟩ := ogd hf
          refine r_geti (k := 6) (j := 1) X hw rfl inX6 g_q9 rfl (by decide) (by decide) uf_X8_73 rfl dX8_readTape_50 ?_
          refine lv_iload X.1.1 X.1.2.1 dX8_readTape_53 (lv_at hl 0 rfl) ?_
          refine lv_iadd X.1.1 X.1.2.1 dX8_readTape_55 ?_
          refine lv_iconst (v := (1 : Int32)) X.1.1 X.1.2.1 dX8_readTape_56 (by decide) ?_
          refine lv_isub X.1.1 X.1.2.1 dX8_readTape_57 ?_
          refine lv_iload X.1.1 X.1.2.1 dX8_readTape_58 (lv_at hl 0 rfl) ?_
          obtain ⟨n_10, hf⟩ := ogd hf
          refine lv_idiv X.1.1 X.1.2.1 dX8_readTape_60 n_10 ?_
          refine lv_topi (fun x11 ex11 => ?_)
          have hf := oltE ex11 hf
          refine lv_istore (lv' := [(5, .int x11), (4, .int x7), (3, .ref q3), (0, .ref a0), (1, .int p1), (2, .int p2)]) X.1.1 X.1.2.1 dX8_readTape_61 hl (by decide) rfl (fun ls hl => ?_)
          refine lv_aload_n X.1.1 X.1.2.1 dX8_readTape_63 rfl (lv_at hl 2 rfl) ?_
          obtain ⟨g_q3, hf⟩ := ogd hf
          refine r_geti (k := 4) (j := 4) X hw rfl inX4 g_q3 rfl (by decide) (by decide) uf_X8_102 rfl dX8_readTape_64 ?_
          refine lv_iload X.1.1 X.1.2.1 dX8_readTape_67 (lv_at hl 0 rfl) ?_
          refine lv_iadd X.1.1 X.1.2.1 dX8_readTape_69 ?_
          refine lv_sipush (v := (400 : Int32)) X.1.1 X.1.2.1 dX8_readTape_70 (by decide) ?_
          refine lv_icmp_le (tgt := 79) X.1.1 X.1.2.1 dX8_readTape_73 (by decide) (fun c_12 => ?_) (fun c_12 => ?_)
          · skip
            rw [if_pos c_12] at hf
            refine lv_aload_n X.1.1 X.1.2.1 dX8_readTape_79 rfl (lv_at hl 3 rfl) ?_
            refine lv_iload_n X.1.1 X.1.2.1 dX8_readTape_80 rfl (lv_at hl 4 rfl) ?_
            refine lv_aload_n X.1.1 X.1.2.1 dX8_readTape_81 rfl (lv_at hl 2 rfl) ?_
            obtain ⟨z13, ez13, hf⟩ := obd hf
            refine r_callVV (As := [.int p1, .ref q3]) (rest := []) X hw (c_X8_keepPlace ez13) (cwV 2 X.1.2.2.2.2 (guV um_X8_84 ui_X8_keepPlace us_X8_keepPlace un_X8 uo_X8_keepPlace) rfl rfl rfl (by decide +kernel) ⟨Nat.le_of_ble_eq_true rfl, Nat.le_of_ble_eq_true rfl⟩) g_a0 (by decide) rfl rfl hl.1 rfl (Nat.le_of_ble_eq_true rfl) dX8_readTape_82 ⟨Nat.zero_le _, Nat.zero_le _⟩ (fun H locs hw => ?_)
            refine lv_iconst (v := (0 : Int32)) X.1.1 X.1.2.1 dX8_readTape_85 (by decide) ?_
            refine lv_istore (lv' := [(6, .int (0 : Int32)), (5, .int x11), (4, .int x7), (3, .ref q3), (0, .ref a0), (1, .int p1), (2, .int p2)]) X.1.1 X.1.2.1 dX8_readTape_86 hl (by decide) rfl (fun ls hl => ?_)
            obtain ⟨z18, ez18, hf⟩ := obd hf
            refine wlp_X8_readTape_88 X g_a0 g_q9 g_q3 eq9 fuel _ _ _ _ _ _ ez18 hw (lv_sub hl [0, 1, 2, 3, 4, 6] rfl) (fun x ex H locs ls hw hl => ?_)
            subst ex
            refine lv_aload_n X.1.1 X.1.2.1 dX8_readTape_120 rfl (lv_at hl 3 rfl) ?_
            refine r_geti (k := 4) (j := 4) X hw rfl inX4 g_q3 rfl (by decide) (by decide) uf_X8_102 rfl dX8_readTape_121 ?_
            cases hf
            exact r_retI (v := zI z18.2 q3 4) X hw hr hlk rfl dX8_readTape_124
          · skip
            rw [if_neg c_12] at hf
            refine lv_bipush (v := (-3 : Int32)) X.1.1 X.1.2.1 dX8_readTape_76 (by decide) ?_
            cases hf
            exact r_retI (v := (-3 : Int32)) X hw hr hlk rfl dX8_readTape_78
        · skip
          rw [if_neg c_8] at hf
          refine lv_bipush (v := (-2 : Int32)) X.1.1 X.1.2.1 dX8_readTape_43 (by decide) ?_
          cases hf
          exact r_retI (v := (-2 : Int32)) X hw hr hlk rfl dX8_readTape_45
      · skip
        rw [if_neg c_5] at hf
        refine lv_bipush (v := (-2 : Int32)) X.1.1 X.1.2.1 dX8_readTape_27 (by decide) ?_
        cases hf
        exact r_retI (v := (-2 : Int32)) X hw hr hlk rfl dX8_readTape_29
/-! X8_read -/
def f_X8_read (h : Hs) (a0 : Nat) (p1 : Int32) (p2 : Int32) (M : Mm) : Option (Int32 × Mm) :=
  gd (ok h a0 8) <|
  (f_X8_readTape h a0 p1 p2 M).bind fun z1 =>
  dq (zR h a0 0) fun q2 =>
  gd (ok h q2 6) <|
  lt_ (sI z1.2 q2 1 (0 : Int32)) fun M3 =>
  some (z1.1, M3)
set_option maxHeartbeats 4000000 in
set_option maxRecDepth 100000 in
theorem c_X8_read {l : Launch} {D : va_G} {cy : Nat → ClassId} {h : Hs} {a0 : Nat} {p1 : Int32} {p2 : Int32} {M : Mm} {z : (Int32 × Mm)} (hf : f_X8_read h a0 p1 p2 M = some z) : CtI l D cy yX8_read (wu yX8_read cX8_read 4 (some .int)) ({ frames := 5, cells := 0, slots := 0, locals := 126 }) [.ref a0, .int p1, .int p2] h M z.1 z.2 := by
  refine enterI (cc := cX8_read) (maxL := 4) (ret := (some .int)) (by decide) (Nat.le_of_ble_eq_true rfl) ?_
  intro p e s m args below meth c A ls X hw hr hlk hl
  have hl : lv_has ls 4 [(0, .ref a0), (1, .int p1), (2, .int p2)] := hl
  unfold f_X8_read at hf
  refine lv_aload_n X.1.1 X.1.2.1 dX8_read_0 rfl (lv_at hl 0 rfl) ?_
  refine lv_iload_n X.1.1 X.1.2.1 dX8_read_1 rfl (lv_at hl 1 rfl) ?_
  refine lv_iload_n X.1.1 X.1.2.1 dX8_read_2 rfl (lv_at hl 2 rfl) ?_
  obtain ⟨g_a0, hf⟩ := ogd hf
  obtain ⟨z1, ez1, hf⟩ := obd hf
  refine r_callVI (As := [.int p1, .int p2]) (rest := []) X hw (c_X8_readTape ez1) (cwV 2 X.1.2.2.2.2 (guV um_X8_95 ui_X8_readTape us_X8_readTape un_X8 uo_X8_readTape) rfl rfl rfl (by decide +kernel) ⟨Nat.le_of_ble_eq_true rfl, Nat.le_of_ble_eq_true rfl⟩) g_a0 (by decide) rfl rfl hl.1 rfl (Nat.le_of_ble_eq_true rfl) dX8_read_3 ⟨Nat.zero_le _, Nat.zero_le _⟩ (fun H locs hw => ?_)
  refine lv_istore_n (lv' := [(3, .int z1.1), (0, .ref a0), (1, .int p1), (2, .int p2)]) X.1.1 X.1.2.1 dX8_read_6 rfl hl (by decide) rfl (fun ls hl => ?_)
  refine lv_aload_n X.1.1 X.1.2.1 dX8_read_7 rfl (lv_at hl 1 rfl) ?_
  obtain ⟨q2, eq2, hf⟩ := odq hf
  refine r_getq (k := 8) (j := 0) X hw rfl inX8 g_a0 rfl (by decide) (by decide) uf_X8_12 rfl dX8_read_8 eq2 ?_
  refine lv_iconst (v := (0 : Int32)) X.1.1 X.1.2.1 dX8_read_11 (by decide) ?_
  obtain ⟨g_q2, hf⟩ := ogd hf
  refine r_puti (k := 6) (j := 1) X hw rfl inX6 tyX6_ok nmX6 g_q2 rfl (by decide) (by decide) uf_X8_73 rfl rfl rfl rfl dX8_read_12 (fun H locs hw => ?_)
  obtain ⟨M3, eM3, hf⟩ := olt hf
  rw [← eM3] at hw
  refine lv_iload_n X.1.1 X.1.2.1 dX8_read_15 rfl (lv_at hl 0 rfl) ?_
  cases hf
  exact r_retI (v := z1.1) X hw hr hlk rfl dX8_read_16
/-! X8_tear -/
def f_X8_tear (h : Hs) (a0 : Nat) (p1 : Int32) (p2 : Int32) (p3 : Int32) (M : Mm) : Option (Int32 × Mm) :=
  gd (ok h a0 8) <|
  dq (zR h a0 1) fun q1 =>
  gd (ok h q1 0) <|
  (f_X0_fedGaugeAt h q1 p1 M).bind fun z2 =>
  mq z2
    (
     some ((-1 : Int32), M)
    )
    (fun q3 =>
     if p2 < 0 then
       some ((-1 : Int32), M)
     else
       if p3 < p2 then
         some ((-1 : Int32), M)
       else
         gd (ok h q3 4) <|
         if p3 < (zI M q3 4) then
           (f_X8_keepPlace h a0 p1 q3 M).bind fun z7 =>
           (f_X4_tearOut h q3 p2 p3 z7).bind fun z8 =>
           some (z8.1, z8.2)
         else
           some ((-1 : Int32), M)
    )
set_option maxHeartbeats 4000000 in
set_option maxRecDepth 100000 in
theorem c_X8_tear {l : Launch} {D : va_G} {cy : Nat → ClassId} {h : Hs} {a0 : Nat} {p1 : Int32} {p2 : Int32} {p3 : Int32} {M : Mm} {z : (Int32 × Mm)} (hf : f_X8_tear h a0 p1 p2 p3 M = some z) : CtI l D cy yX8_tear (wu yX8_tear cX8_tear 5 (some .int)) ({ frames := 3, cells := 0, slots := 0, locals := 65 }) [.ref a0, .int p1, .int p2, .int p3] h M z.1 z.2 := by
  refine enterI (cc := cX8_tear) (maxL := 5) (ret := (some .int)) (by decide) (Nat.le_of_ble_eq_true rfl) ?_
  intro p e s m args below meth c A ls X hw hr hlk hl
  have hl : lv_has ls 5 [(0, .ref a0), (1, .int p1), (2, .int p2), (3, .int p3)] := hl
  unfold f_X8_tear at hf
  refine lv_aload_n X.1.1 X.1.2.1 dX8_tear_0 rfl (lv_at hl 0 rfl) ?_
  obtain ⟨g_a0, hf⟩ := ogd hf
  obtain ⟨q1, eq1, hf⟩ := odq hf
  refine r_getq (k := 8) (j := 1) X hw rfl inX8 g_a0 rfl (by decide) (by decide) uf_X8_19 rfl dX8_tear_1 eq1 ?_
  refine lv_iload_n X.1.1 X.1.2.1 dX8_tear_4 rfl (lv_at hl 1 rfl) ?_
  obtain ⟨g_q1, hf⟩ := ogd hf
  obtain ⟨z2, ez2, hf⟩ := obd hf
  refine r_callVQ (As := [.int p1]) (rest := []) X hw (c_X0_fedGaugeAt ez2) (cwV 1 X.1.2.2.2.2 (guV um_X8_99 ui_X0_fedGaugeAt us_X0_fedGaugeAt un_X0 uo_X0_fedGaugeAt) rfl rfl rfl (by decide +kernel) ⟨Nat.le_of_ble_eq_true rfl, Nat.le_of_ble_eq_true rfl⟩) g_q1 (by decide) rfl rfl hl.1 rfl (Nat.le_of_ble_eq_true rfl) dX8_tear_5 ⟨Nat.zero_le _, Nat.zero_le _⟩ (fun H locs hw => ?_)
  obtain ⟨nq3, hf⟩ | ⟨q3, nq3, hf⟩ := omq hf
  · rw [nq3]
    refine lv_astoreN (lv' := [(4, .null), (0, .ref a0), (1, .int p1), (2, .int p2), (3, .int p3)]) X.1.1 X.1.2.1 dX8_tear_8 hl (by decide) rfl (fun ls hl => ?_)
    refine lv_aloadN X.1.1 X.1.2.1 dX8_tear_10 (lv_at hl 0 rfl) ?_
    refine lv_ifnullN (tgt := 33) X.1.1 X.1.2.1 dX8_tear_12 (by decide) ?_
    refine lv_iconst (v := (-1 : Int32)) X.1.1 X.1.2.1 dX8_tear_33 (by decide) ?_
    cases hf
    exact r_retI (v := (-1 : Int32)) X hw hr hlk rfl dX8_tear_34
  · rw [nq3]
    refine lv_astore (lv' := [(4, .ref q3), (0, .ref a0), (1, .int p1), (2, .int p2), (3, .int p3)]) X.1.1 X.1.2.1 dX8_tear_8 hl (by decide) rfl (fun ls hl => ?_)
    refine lv_aload X.1.1 X.1.2.1 dX8_tear_10 (lv_at hl 0 rfl) ?_
    refine lv_ifnull X.1.1 X.1.2.1 dX8_tear_12 ?_
    refine lv_iload_n X.1.1 X.1.2.1 dX8_tear_15 rfl (lv_at hl 3 rfl) ?_
    refine lv_if_lt (tgt := 33) X.1.1 X.1.2.1 dX8_tear_16 (by decide) (fun c_4 => ?_) (fun c_4 => ?_)
    · skip
      rw [if_pos c_4] at hf
      refine lv_iconst (v := (-1 : Int32)) X.1.1 X.1.2.1 dX8_tear_33 (by decide) ?_
      cases hf
      exact r_retI (v := (-1 : Int32)) X hw hr hlk rfl dX8_tear_34
    · skip
      rw [if_neg c_4] at hf
      refine lv_iload_n X.1.1 X.1.2.1 dX8_tear_19 rfl (lv_at hl 3 rfl) ?_
      refine lv_iload_n X.1.1 X.1.2.1 dX8_tear_20 rfl (lv_at hl 4 rfl) ?_
      refine lv_icmp_gt (tgt := 33) X.1.1 X.1.2.1 dX8_tear_21 (by decide) (fun c_5 => ?_) (fun c_5 => ?_)
      · skip
        rw [if_pos c_5] at hf
        refine lv_iconst (v := (-1 : Int32)) X.1.1 X.1.2.1 dX8_tear_33 (by decide) ?_
        cases hf
        exact r_retI (v := (-1 : Int32)) X hw hr hlk rfl dX8_tear_34
      · skip
        rw [if_neg c_5] at hf
        refine lv_iload_n X.1.1 X.1.2.1 dX8_tear_24 rfl (lv_at hl 4 rfl) ?_
        refine lv_aload X.1.1 X.1.2.1 dX8_tear_25 (lv_at hl 0 rfl) ?_
        obtain ⟨g_q3, hf⟩ := ogd hf
        refine r_geti (k := 4) (j := 4) X hw rfl inX4 g_q3 rfl (by decide) (by decide) uf_X8_102 rfl dX8_tear_27 ?_
        refine lv_icmp_lt (tgt := 35) X.1.1 X.1.2.1 dX8_tear_30 (by decide) (fun c_6 => ?_) (fun c_6 => ?_)
        · skip
          rw [if_pos c_6] at hf
          refine lv_aload_n X.1.1 X.1.2.1 dX8_tear_35 rfl (lv_at hl 1 rfl) ?_
          refine lv_iload_n X.1.1 X.1.2.1 dX8_tear_36 rfl (lv_at hl 2 rfl) ?_
          refine lv_aload X.1.1 X.1.2.1 dX8_tear_37 (lv_at hl 0 rfl) ?_
          obtain ⟨z7, ez7, hf⟩ := obd hf
          refine r_callVV (As := [.int p1, .ref q3]) (rest := []) X hw (c_X8_keepPlace ez7) (cwV 2 X.1.2.2.2.2 (guV um_X8_84 ui_X8_keepPlace us_X8_keepPlace un_X8 uo_X8_keepPlace) rfl rfl rfl (by decide +kernel) ⟨Nat.le_of_ble_eq_true rfl, Nat.le_of_ble_eq_true rfl⟩) g_a0 (by decide) rfl rfl hl.1 rfl (Nat.le_of_ble_eq_true rfl) dX8_tear_39 ⟨Nat.zero_le _, Nat.zero_le _⟩ (fun H locs hw => ?_)
          refine lv_aload X.1.1 X.1.2.1 dX8_tear_42 (lv_at hl 0 rfl) ?_
          refine lv_iload_n X.1.1 X.1.2.1 dX8_tear_44 rfl (lv_at hl 3 rfl) ?_
          refine lv_iload_n X.1.1 X.1.2.1 dX8_tear_45 rfl (lv_at hl 4 rfl) ?_
          obtain ⟨z8, ez8, hf⟩ := obd hf
          refine r_callVI (As := [.int p2, .int p3]) (rest := []) X hw (c_X4_tearOut ez8) (cwV 2 X.1.2.2.2.2 (guV um_X8_105 ui_X4_tearOut us_X4_tearOut un_X4 uo_X4_tearOut) rfl rfl rfl (by decide +kernel) ⟨Nat.le_of_ble_eq_true rfl, Nat.le_of_ble_eq_true rfl⟩) g_q3 (by decide) rfl rfl hl.1 rfl (Nat.le_of_ble_eq_true rfl) dX8_tear_46 ⟨Nat.zero_le _, Nat.zero_le _⟩ (fun H locs hw => ?_)
          cases hf
          exact r_retI (v := z8.1) X hw hr hlk rfl dX8_tear_49
        · skip
          rw [if_neg c_6] at hf
          refine lv_iconst (v := (-1 : Int32)) X.1.1 X.1.2.1 dX8_tear_33 (by decide) ?_
          cases hf
          exact r_retI (v := (-1 : Int32)) X hw hr hlk rfl dX8_tear_34
/-! X8_fill -/
def f_X8_fill (h : Hs) (a0 : Nat) (p1 : Int32) (p2 : Int32) (p3 : Int32) (M : Mm) : Option (Int32 × Mm) :=
  gd (ok h a0 8) <|
  dq (zR h a0 1) fun q1 =>
  gd (ok h q1 0) <|
  (f_X0_fedGaugeAt h q1 p1 M).bind fun z2 =>
  mq z2
    (
     some ((0 : Int32), M)
    )
    (fun q3 =>
     (f_X8_isWithin h p3.toInt64 (-1000000 : Int32) (1000000 : Int32) M).bind fun z4 =>
     if z4 = 0 then
       some ((0 : Int32), M)
     else
       gd (ok h q3 4) <|
       (f_X4_hasGap h q3 p2 M).bind fun z6 =>
       if ¬ z6 = 0 then
         (f_X8_keepPlace h a0 p1 q3 M).bind fun z8 =>
         (f_X4_set h q3 p2 p3 z8).bind fun z9 =>
         some ((1 : Int32), z9)
       else
         some ((0 : Int32), M)
    )
set_option maxHeartbeats 4000000 in
set_option maxRecDepth 100000 in
theorem c_X8_fill {l : Launch} {D : va_G} {cy : Nat → ClassId} {h : Hs} {a0 : Nat} {p1 : Int32} {p2 : Int32} {p3 : Int32} {M : Mm} {z : (Int32 × Mm)} (hf : f_X8_fill h a0 p1 p2 p3 M = some z) : CtI l D cy yX8_fill (wu yX8_fill cX8_fill 5 (some .boolean)) ({ frames := 3, cells := 0, slots := 0, locals := 65 }) [.ref a0, .int p1, .int p2, .int p3] h M z.1 z.2 := by
  refine enterI (cc := cX8_fill) (maxL := 5) (ret := (some .boolean)) (by decide) (Nat.le_of_ble_eq_true rfl) ?_
  intro p e s m args below meth c A ls X hw hr hlk hl
  have hl : lv_has ls 5 [(0, .ref a0), (1, .int p1), (2, .int p2), (3, .int p3)] := hl
  unfold f_X8_fill at hf
  refine lv_aload_n X.1.1 X.1.2.1 dX8_fill_0 rfl (lv_at hl 0 rfl) ?_
  obtain ⟨g_a0, hf⟩ := ogd hf
  obtain ⟨q1, eq1, hf⟩ := odq hf
  refine r_getq (k := 8) (j := 1) X hw rfl inX8 g_a0 rfl (by decide) (by decide) uf_X8_19 rfl dX8_fill_1 eq1 ?_
  refine lv_iload_n X.1.1 X.1.2.1 dX8_fill_4 rfl (lv_at hl 1 rfl) ?_
  obtain ⟨g_q1, hf⟩ := ogd hf
  obtain ⟨z2, ez2, hf⟩ := obd hf
  refine r_callVQ (As := [.int p1]) (rest := []) X hw (c_X0_fedGaugeAt ez2) (cwV 1 X.1.2.2.2.2 (guV um_X8_99 ui_X0_fedGaugeAt us_X0_fedGaugeAt un_X0 uo_X0_fedGaugeAt) rfl rfl rfl (by decide +kernel) ⟨Nat.le_of_ble_eq_true rfl, Nat.le_of_ble_eq_true rfl⟩) g_q1 (by decide) rfl rfl hl.1 rfl (Nat.le_of_ble_eq_true rfl) dX8_fill_5 ⟨Nat.zero_le _, Nat.zero_le _⟩ (fun H locs hw => ?_)
  obtain ⟨nq3, hf⟩ | ⟨q3, nq3, hf⟩ := omq hf
  · rw [nq3]
    refine lv_astoreN (lv' := [(4, .null), (0, .ref a0), (1, .int p1), (2, .int p2), (3, .int p3)]) X.1.1 X.1.2.1 dX8_fill_8 hl (by decide) rfl (fun ls hl => ?_)
    refine lv_aloadN X.1.1 X.1.2.1 dX8_fill_10 (lv_at hl 0 rfl) ?_
    refine lv_ifnullN (tgt := 36) X.1.1 X.1.2.1 dX8_fill_12 (by decide) ?_
    refine lv_iconst (v := (0 : Int32)) X.1.1 X.1.2.1 dX8_fill_36 (by decide) ?_
    cases hf
    exact r_retI (v := (0 : Int32)) X hw hr hlk rfl dX8_fill_37
  · rw [nq3]
    refine lv_astore (lv' := [(4, .ref q3), (0, .ref a0), (1, .int p1), (2, .int p2), (3, .int p3)]) X.1.1 X.1.2.1 dX8_fill_8 hl (by decide) rfl (fun ls hl => ?_)
    refine lv_aload X.1.1 X.1.2.1 dX8_fill_10 (lv_at hl 0 rfl) ?_
    refine lv_ifnull X.1.1 X.1.2.1 dX8_fill_12 ?_
    refine lv_iload_n X.1.1 X.1.2.1 dX8_fill_15 rfl (lv_at hl 4 rfl) ?_
    refine lv_i2l X.1.1 X.1.2.1 dX8_fill_16 rfl ?_
    refine lv_ldc (v := (-1000000 : Int32)) X.1.1 X.1.2.1 X.1.2.2.2.1 (X.1.2.2.2.2 _ uc_X8_108) dX8_fill_17 ?_
    refine lv_ldc (v := (1000000 : Int32)) X.1.1 X.1.2.1 X.1.2.2.2.1 (X.1.2.2.2.2 _ uc_X8_109) dX8_fill_19 ?_
    obtain ⟨z4, ez4, hf⟩ := obd hf
    refine r_callSI (As := [.long p3.toInt64, .int (-1000000 : Int32), .int (1000000 : Int32)]) (rest := []) X hw (c_X8_isWithin ez4) (va_cwS 3 X.1.2.2.2.2 (guS um_X8_110 ut_X8_isWithin un_X8 uo_X8_isWithin) rfl rfl rfl (by decide +kernel) ⟨Nat.le_of_ble_eq_true rfl, Nat.le_of_ble_eq_true rfl⟩) rfl hl.1 rfl (Nat.le_of_ble_eq_true rfl) dX8_fill_21 ⟨Nat.zero_le _, Nat.zero_le _⟩ (fun H locs hw => ?_)
    refine lv_if_eq (tgt := 36) X.1.1 X.1.2.1 dX8_fill_24 (by decide) (fun c_5 => ?_) (fun c_5 => ?_)
    · skip
      rw [if_pos c_5] at hf
      refine lv_iconst (v := (0 : Int32)) X.1.1 X.1.2.1 dX8_fill_36 (by decide) ?_
      cases hf
      exact r_retI (v := (0 : Int32)) X hw hr hlk rfl dX8_fill_37
    · skip
      rw [if_neg c_5] at hf
      refine lv_aload X.1.1 X.1.2.1 dX8_fill_27 (lv_at hl 0 rfl) ?_
      refine lv_iload_n X.1.1 X.1.2.1 dX8_fill_29 rfl (lv_at hl 3 rfl) ?_
      obtain ⟨g_q3, hf⟩ := ogd hf
      obtain ⟨z6, ez6, hf⟩ := obd hf
      refine r_callVI (As := [.int p2]) (rest := []) X hw (c_X4_hasGap ez6) (cwV 1 X.1.2.2.2.2 (guV um_X8_114 ui_X4_hasGap us_X4_hasGap un_X4 uo_X4_hasGap) rfl rfl rfl (by decide +kernel) ⟨Nat.le_of_ble_eq_true rfl, Nat.le_of_ble_eq_true rfl⟩) g_q3 (by decide) rfl rfl hl.1 rfl (Nat.le_of_ble_eq_true rfl) dX8_fill_30 ⟨Nat.zero_le _, Nat.zero_le _⟩ (fun H locs hw => ?_)
      refine lv_if_ne (tgt := 38) X.1.1 X.1.2.1 dX8_fill_33 (by decide) (fun c_7 => ?_) (fun c_7 => ?_)
      · skip
        rw [if_pos c_7] at hf
        refine lv_aload_n X.1.1 X.1.2.1 dX8_fill_38 rfl (lv_at hl 1 rfl) ?_
        refine lv_iload_n X.1.1 X.1.2.1 dX8_fill_39 rfl (lv_at hl 2 rfl) ?_
        refine lv_aload X.1.1 X.1.2.1 dX8_fill_40 (lv_at hl 0 rfl) ?_
        obtain ⟨z8, ez8, hf⟩ := obd hf
        refine r_callVV (As := [.int p1, .ref q3]) (rest := []) X hw (c_X8_keepPlace ez8) (cwV 2 X.1.2.2.2.2 (guV um_X8_84 ui_X8_keepPlace us_X8_keepPlace un_X8 uo_X8_keepPlace) rfl rfl rfl (by decide +kernel) ⟨Nat.le_of_ble_eq_true rfl, Nat.le_of_ble_eq_true rfl⟩) g_a0 (by decide) rfl rfl hl.1 rfl (Nat.le_of_ble_eq_true rfl) dX8_fill_42 ⟨Nat.zero_le _, Nat.zero_le _⟩ (fun H locs hw => ?_)
        refine lv_aload X.1.1 X.1.2.1 dX8_fill_45 (lv_at hl 0 rfl) ?_
        refine lv_iload_n X.1.1 X.1.2.1 dX8_fill_47 rfl (lv_at hl 3 rfl) ?_
        refine lv_iload_n X.1.1 X.1.2.1 dX8_fill_48 rfl (lv_at hl 4 rfl) ?_
        obtain ⟨z9, ez9, hf⟩ := obd hf
        refine r_callVV (As := [.int p2, .int p3]) (rest := []) X hw (c_X4_set ez9) (cwV 2 X.1.2.2.2.2 (guV um_X8_117 ui_X4_set us_X4_set un_X4 uo_X4_set) rfl rfl rfl (by decide +kernel) ⟨Nat.le_of_ble_eq_true rfl, Nat.le_of_ble_eq_true rfl⟩) g_q3 (by decide) rfl rfl hl.1 rfl (Nat.le_of_ble_eq_true rfl) dX8_fill_49 ⟨Nat.zero_le _, Nat.zero_le _⟩ (fun H locs hw => ?_)
        refine lv_iconst (v := (1 : Int32)) X.1.1 X.1.2.1 dX8_fill_52 (by decide) ?_
        cases hf
        exact r_retI (v := (1 : Int32)) X hw hr hlk rfl dX8_fill_53
      · skip
        rw [if_neg (fun z => z c_7)] at hf
        refine lv_iconst (v := (0 : Int32)) X.1.1 X.1.2.1 dX8_fill_36 (by decide) ?_
        cases hf
        exact r_retI (v := (0 : Int32)) X hw hr hlk rfl dX8_fill_37
/-! X8_row -/
def f_X8_row (h : Hs) (a0 : Nat) (p1 : Int32) (p2 : Int32) (M : Mm) : Option (Int32 × Mm) :=
  gd (ok h a0 8) <|
  dq (zR h a0 1) fun q1 =>
  gd (ok h q1 0) <|
  (f_X0_gaugeAt h q1 p1 M).bind fun z2 =>
  mq z2
    (
     some ((-1 : Int32), M)
    )
    (fun q3 =>
     dq (zR h a0 2) fun q4 =>
     gd (ok h q4 5) <|
     (f_X5_reckon h q4 q1 q3 (0 : Int32) M).bind fun z5 =>
     if p2 = (0 : Int32) then
       (f_X0_spansOf h q1 q3 z5).bind fun z7 =>
       some (z7, z5)
     else
       if p2 = (1 : Int32) then
         some (zI z5 q4 6, z5)
       else
         if p2 = (2 : Int32) then
           some (zI z5 q4 7, z5)
         else
           if p2 = (3 : Int32) then
             some (zI z5 q4 8, z5)
           else
             if p2 = (4 : Int32) then
               some (zI z5 q4 9, z5)
             else
               if p2 = (5 : Int32) then
                 some (zI z5 q4 11, z5)
               else
                 if p2 = (6 : Int32) then
                   some (zI z5 q4 10, z5)
                 else
                   some ((-1 : Int32), z5)
    )
set_option maxHeartbeats 4000000 in
set_option maxRecDepth 100000 in
theorem c_X8_row {l : Launch} {D : va_G} {cy : Nat → ClassId} {h : Hs} {a0 : Nat} {p1 : Int32} {p2 : Int32} {M : Mm} {z : (Int32 × Mm)} (hf : f_X8_row h a0 p1 p2 M = some z) : CtI l D cy yX8_row (wu yX8_row cX8_row 4 (some .int)) ({ frames := 5, cells := 0, slots := 0, locals := 115 }) [.ref a0, .int p1, .int p2] h M z.1 z.2 := by
  refine enterI (cc := cX8_row) (maxL := 4) (ret := (some .int)) (by decide) (Nat.le_of_ble_eq_true rfl) ?_
  intro p e s m args below meth c A ls X hw hr hlk hl
  have hl : lv_has ls 4 [(0, .ref a0), (1, .int p1), (2, .int p2)] := hl
  unfold f_X8_row at hf
  refine lv_aload_n X.1.1 X.1.2.1 dX8_row_0 rfl (lv_at hl 0 rfl) ?_
  obtain ⟨g_a0, hf⟩ := ogd hf
  obtain ⟨q1, eq1, hf⟩ := odq hf
  refine r_getq (k := 8) (j := 1) X hw rfl inX8 g_a0 rfl (by decide) (by decide) uf_X8_19 rfl dX8_row_1 eq1 ?_
  refine lv_iload_n X.1.1 X.1.2.1 dX8_row_4 rfl (lv_at hl 1 rfl) ?_
  obtain ⟨g_q1, hf⟩ := ogd hf
  obtain ⟨z2, ez2, hf⟩ := obd hf
  refine r_callVQ (As := [.int p1]) (rest := []) X hw (c_X0_gaugeAt ez2) (cwV 1 X.1.2.2.2.2 (guV um_X8_121 ui_X0_gaugeAt us_X0_gaugeAt un_X0 uo_X0_gaugeAt) rfl rfl rfl (by decide +kernel) ⟨Nat.le_of_ble_eq_true rfl, Nat.le_of_ble_eq_true rfl⟩) g_q1 (by decide) rfl rfl hl.1 rfl (Nat.le_of_ble_eq_true rfl) dX8_row_5 ⟨Nat.zero_le _, Nat.zero_le _⟩ (fun H locs hw => ?_)
  obtain ⟨nq3, hf⟩ | ⟨q3, nq3, hf⟩ := omq hf
  · rw [nq3]
    refine lv_astore_nN (lv' := [(3, .null), (0, .ref a0), (1, .int p1), (2, .int p2)]) X.1.1 X.1.2.1 dX8_row_8 rfl hl (by decide) rfl (fun ls hl => ?_)
    refine lv_aload_nN X.1.1 X.1.2.1 dX8_row_9 rfl (lv_at hl 0 rfl) ?_
    refine lv_ifnonnullN X.1.1 X.1.2.1 dX8_row_10 ?_
    refine lv_iconst (v := (-1 : Int32)) X.1.1 X.1.2.1 dX8_row_13 (by decide) ?_
    cases hf
    exact r_retI (v := (-1 : Int32)) X hw hr hlk rfl dX8_row_14
  · rw [nq3]
    refine lv_astore_n (lv' := [(3, .ref q3), (0, .ref a0), (1, .int p1), (2, .int p2)]) X.1.1 X.1.2.1 dX8_row_8 rfl hl (by decide) rfl (fun ls hl => ?_)
    refine lv_aload_n X.1.1 X.1.2.1 dX8_row_9 rfl (lv_at hl 0 rfl) ?_
    refine lv_ifnonnull (tgt := 15) X.1.1 X.1.2.1 dX8_row_10 (by decide) ?_
    refine lv_aload_n X.1.1 X.1.2.1 dX8_row_15 rfl (lv_at hl 1 rfl) ?_
    obtain ⟨q4, eq4, hf⟩ := odq hf
    refine r_getq (k := 8) (j := 2) X hw rfl inX8 g_a0 rfl (by decide) (by decide) uf_X8_26 rfl dX8_row_16 eq4 ?_
    refine lv_aload_n X.1.1 X.1.2.1 dX8_row_19 rfl (lv_at hl 1 rfl) ?_
    refine r_getq (k := 8) (j := 1) X hw rfl inX8 g_a0 rfl (by decide) (by decide) uf_X8_19 rfl dX8_row_20 eq1 ?_
    refine lv_aload_n X.1.1 X.1.2.1 dX8_row_23 rfl (lv_at hl 0 rfl) ?_
    refine lv_iconst (v := (0 : Int32)) X.1.1 X.1.2.1 dX8_row_24 (by decide) ?_
    obtain ⟨g_q4, hf⟩ := ogd hf
    obtain ⟨z5, ez5, hf⟩ := obd hf
    refine r_callVV (As := [.ref q1, .ref q3, .int (0 : Int32)]) (rest := []) X hw (c_X5_reckon ez5) (cwV 3 X.1.2.2.2.2 (guV um_X8_124 ui_X5_reckon us_X5_reckon un_X5 uo_X5_reckon) rfl rfl rfl (by decide +kernel) ⟨Nat.le_of_ble_eq_true rfl, Nat.le_of_ble_eq_true rfl⟩) g_q4 (by decide) rfl rfl hl.1 rfl (Nat.le_of_ble_eq_true rfl) dX8_row_25 ⟨Nat.zero_le _, Nat.zero_le _⟩ (fun H locs hw => ?_)
    refine lv_iload_n X.1.1 X.1.2.1 dX8_row_28 rfl (lv_at hl 3 rfl) ?_
    by_cases c_6 : p2 = (0 : Int32)
    · rw [if_pos c_6] at hf
      refine lv_tableIn (off := 43) (tgt := 72) X.1.1 X.1.2.1 dX8_row_29 (by rw [c_6]; decide) (by rw [c_6]; decide) (by rw [c_6]; decide) (by decide) ?_
      refine lv_aload_n X.1.1 X.1.2.1 dX8_row_72 rfl (lv_at hl 1 rfl) ?_
      refine r_getq (k := 8) (j := 1) X hw rfl inX8 g_a0 rfl (by decide) (by decide) uf_X8_19 rfl dX8_row_73 eq1 ?_
      refine lv_aload_n X.1.1 X.1.2.1 dX8_row_76 rfl (lv_at hl 0 rfl) ?_
      obtain ⟨z7, ez7, hf⟩ := obd hf
      refine r_callVI (As := [.ref q3]) (rest := []) X hw (c_X0_spansOf ez7) (cwV 1 X.1.2.2.2.2 (guV um_X8_128 ui_X0_spansOf us_X0_spansOf un_X0 uo_X0_spansOf) rfl rfl rfl (by decide +kernel) ⟨Nat.le_of_ble_eq_true rfl, Nat.le_of_ble_eq_true rfl⟩) g_q1 (by decide) rfl rfl hl.1 rfl (Nat.le_of_ble_eq_true rfl) dX8_row_77 ⟨Nat.zero_le _, Nat.zero_le _⟩ (fun H locs hw => ?_)
      cases hf
      exact r_retI (v := z7) X hw hr hlk rfl dX8_row_80
    · rw [if_neg c_6] at hf
      by_cases c_8 : p2 = (1 : Int32)
      · rw [if_pos c_8] at hf
        refine lv_tableIn (off := 52) (tgt := 81) X.1.1 X.1.2.1 dX8_row_29 (by rw [c_8]; decide) (by rw [c_8]; decide) (by rw [c_8]; decide) (by decide) ?_
        refine lv_aload_n X.1.1 X.1.2.1 dX8_row_81 rfl (lv_at hl 1 rfl) ?_
        refine r_getq (k := 8) (j := 2) X hw rfl inX8 g_a0 rfl (by decide) (by decide) uf_X8_26 rfl dX8_row_82 eq4 ?_
        refine r_geti (k := 5) (j := 6) X hw rfl inX5 g_q4 rfl (by decide) (by decide) uf_X8_132 rfl dX8_row_85 ?_
        cases hf
        exact r_retI (v := zI z5 q4 6) X hw hr hlk rfl dX8_row_88
      · rw [if_neg c_8] at hf
        by_cases c_9 : p2 = (2 : Int32)
        · rw [if_pos c_9] at hf
          refine lv_tableIn (off := 60) (tgt := 89) X.1.1 X.1.2.1 dX8_row_29 (by rw [c_9]; decide) (by rw [c_9]; decide) (by rw [c_9]; decide) (by decide) ?_
          refine lv_aload_n X.1.1 X.1.2.1 dX8_row_89 rfl (lv_at hl 1 rfl) ?_
          refine r_getq (k := 8) (j := 2) X hw rfl inX8 g_a0 rfl (by decide) (by decide) uf_X8_26 rfl dX8_row_90 eq4 ?_
          refine r_geti (k := 5) (j := 7) X hw rfl inX5 g_q4 rfl (by decide) (by decide) uf_X8_135 rfl dX8_row_93 ?_
          cases hf
          exact r_retI (v := zI z5 q4 7) X hw hr hlk rfl dX8_row_96
        · rw [if_neg c_9] at hf
          by_cases c_10 : p2 = (3 : Int32)
          · rw [if_pos c_10] at hf
            refine lv_tableIn (off := 68) (tgt := 97) X.1.1 X.1.2.1 dX8_row_29 (by rw [c_10]; decide) (by rw [c_10]; decide) (by rw [c_10]; decide) (by decide) ?_
            refine lv_aload_n X.1.1 X.1.2.1 dX8_row_97 rfl (lv_at hl 1 rfl) ?_
            refine r_getq (k := 8) (j := 2) X hw rfl inX8 g_a0 rfl (by decide) (by decide) uf_X8_26 rfl dX8_row_98 eq4 ?_
            refine r_geti (k := 5) (j := 8) X hw rfl inX5 g_q4 rfl (by decide) (by decide) uf_X8_138 rfl dX8_row_101 ?_
            cases hf
            exact r_retI (v := zI z5 q4 8) X hw hr hlk rfl dX8_row_104
          · rw [if_neg c_10] at hf
            by_cases c_11 : p2 = (4 : Int32)
            · rw [if_pos c_11] at hf
              refine lv_tableIn (off := 76) (tgt := 105) X.1.1 X.1.2.1 dX8_row_29 (by rw [c_11]; decide) (by rw [c_11]; decide) (by rw [c_11]; decide) (by decide) ?_
              refine lv_aload_n X.1.1 X.1.2.1 dX8_row_105 rfl (lv_at hl 1 rfl) ?_
              refine r_getq (k := 8) (j := 2) X hw rfl inX8 g_a0 rfl (by decide) (by decide) uf_X8_26 rfl dX8_row_106 eq4 ?_
              refine r_geti (k := 5) (j := 9) X hw rfl inX5 g_q4 rfl (by decide) (by decide) uf_X8_141 rfl dX8_row_109 ?_
              cases hf
              exact r_retI (v := zI z5 q4 9) X hw hr hlk rfl dX8_row_112
            · rw [if_neg c_11] at hf
              by_cases c_12 : p2 = (5 : Int32)
              · rw [if_pos c_12] at hf
                refine lv_tableIn (off := 84) (tgt := 113) X.1.1 X.1.2.1 dX8_row_29 (by rw [c_12]; decide) (by rw [c_12]; decide) (by rw [c_12]; decide) (by decide) ?_
                refine lv_aload_n X.1.1 X.1.2.1 dX8_row_113 rfl (lv_at hl 1 rfl) ?_
                refine r_getq (k := 8) (j := 2) X hw rfl inX8 g_a0 rfl (by decide) (by decide) uf_X8_26 rfl dX8_row_114 eq4 ?_
                refine r_geti (k := 5) (j := 11) X hw rfl inX5 g_q4 rfl (by decide) (by decide) uf_X8_144 rfl dX8_row_117 ?_
                cases hf
                exact r_retI (v := zI z5 q4 11) X hw hr hlk rfl dX8_row_120
              · rw [if_neg c_12] at hf
                by_cases c_13 : p2 = (6 : Int32)
                · rw [if_pos c_13] at hf
                  refine lv_tableIn (off := 92) (tgt := 121) X.1.1 X.1.2.1 dX8_row_29 (by rw [c_13]; decide) (by rw [c_13]; decide) (by rw [c_13]; decide) (by decide) ?_
                  refine lv_aload_n X.1.1 X.1.2.1 dX8_row_121 rfl (lv_at hl 1 rfl) ?_
                  refine r_getq (k := 8) (j := 2) X hw rfl inX8 g_a0 rfl (by decide) (by decide) uf_X8_26 rfl dX8_row_122 eq4 ?_
                  refine r_geti (k := 5) (j := 10) X hw rfl inX5 g_q4 rfl (by decide) (by decide) uf_X8_147 rfl dX8_row_125 ?_
                  cases hf
                  exact r_retI (v := zI z5 q4 10) X hw hr hlk rfl dX8_row_128
                · rw [if_neg c_13] at hf
                  refine lv_tableOut (tgt := 129) X.1.1 X.1.2.1 dX8_row_29 (by have q : p2.toInt < 0 ∨ 6 < p2.toInt ∨ p2.toInt = 0 ∨ p2.toInt = 1 ∨ p2.toInt = 2 ∨ p2.toInt = 3 ∨ p2.toInt = 4 ∨ p2.toInt = 5 ∨ p2.toInt = 6 := (by omega); rcases q with q | q | q | q | q | q | q | q | q; exact Or.inl q; exact Or.inr q; exact absurd ((sw_eq q).trans (by decide)) c_6; exact absurd ((sw_eq q).trans (by decide)) c_8; exact absurd ((sw_eq q).trans (by decide)) c_9; exact absurd ((sw_eq q).trans (by decide)) c_10; exact absurd ((sw_eq q).trans (by decide)) c_11; exact absurd ((sw_eq q).trans (by decide)) c_12; exact absurd ((sw_eq q).trans (by decide)) c_13) (by decide) ?_
                  refine lv_iconst (v := (-1 : Int32)) X.1.1 X.1.2.1 dX8_row_129 (by decide) ?_
                  cases hf
                  exact r_retI (v := (-1 : Int32)) X hw hr hlk rfl dX8_row_130
/-! X8_ofCycle -/
def f_X8_ofCycle (h : Hs) (a0 : Nat) (p1 : Int32) (p2 : Int32) (M : Mm) : Option Int32 :=
  gd (ok h a0 8) <|
  dq (zR h a0 2) fun q1 =>
  gd (ok h q1 5) <|
  (f_X5_firstOf h q1 p1 M).bind fun z2 =>
  (f_X5_secondOf h q1 p1 M).bind fun z3 =>
  if p2 = (0 : Int32) then
    (f_X5_turnAt h q1 z2 M).bind fun z5 =>
    some z5
  else
    if p2 = (1 : Int32) then
      (f_X5_turnAt h q1 z3 M).bind fun z7 =>
      some z7
    else
      if p2 = (2 : Int32) then
        some z2
      else
        if p2 = (3 : Int32) then
          some z3
        else
          if p2 = (4 : Int32) then
            (f_X5_closerOf h q1 p1 M).bind fun z11 =>
            some z11
          else
            if p2 = (5 : Int32) then
              (f_X5_rangeOf h q1 z2 z3 M).bind fun z13 =>
              some z13
            else
              (f_X5_meanOf h q1 z2 z3 M).bind fun z14 =>
              some z14
set_option maxHeartbeats 4000000 in
set_option maxRecDepth 100000 in
theorem c_X8_ofCycle {l : Launch} {D : va_G} {cy : Nat → ClassId} {h : Hs} {a0 : Nat} {p1 : Int32} {p2 : Int32} {M : Mm} {z : Int32} (hf : f_X8_ofCycle h a0 p1 p2 M = some z) : CtI l D cy yX8_ofCycle (wu yX8_ofCycle cX8_ofCycle 5 (some .int)) ({ frames := 2, cells := 0, slots := 0, locals := 47 }) [.ref a0, .int p1, .int p2] h M z M := by
  refine enterI (cc := cX8_ofCycle) (maxL := 5) (ret := (some .int)) (by decide) (Nat.le_of_ble_eq_true rfl) ?_
  intro p e s m args below meth c A ls X hw hr hlk hl
  have hl : lv_has ls 5 [(0, .ref a0), (1, .int p1), (2, .int p2)] := hl
  unfold f_X8_ofCycle at hf
  refine lv_aload_n X.1.1 X.1.2.1 dX8_ofCycle_0 rfl (lv_at hl 0 rfl) ?_
  obtain ⟨g_a0, hf⟩ := ogd hf
  obtain ⟨q1, eq1, hf⟩ := odq hf
  refine r_getq (k := 8) (j := 2) X hw rfl inX8 g_a0 rfl (by decide) (by decide) uf_X8_26 rfl dX8_ofCycle_1 eq1 ?_
  refine lv_iload_n X.1.1 X.1.2.1 dX8_ofCycle_4 rfl (lv_at hl 1 rfl) ?_
  obtain ⟨g_q1, hf⟩ := ogd hf
  obtain ⟨z2, ez2, hf⟩ := obd hf
  refine r_callVI (As := [.int p1]) (rest := []) X hw (c_X5_firstOf ez2) (cwV 1 X.1.2.2.2.2 (guV um_X8_316 ui_X5_firstOf us_X5_firstOf un_X5 uo_X5_firstOf) rfl rfl rfl (by decide +kernel) ⟨Nat.le_of_ble_eq_true rfl, Nat.le_of_ble_eq_true rfl⟩) g_q1 (by decide) rfl rfl hl.1 rfl (Nat.le_of_ble_eq_true rfl) dX8_ofCycle_5 ⟨Nat.zero_le _, Nat.zero_le _⟩ (fun H locs hw => ?_)
  refine lv_istore_n (lv' := [(3, .int z2), (0, .ref a0), (1, .int p1), (2, .int p2)]) X.1.1 X.1.2.1 dX8_ofCycle_8 rfl hl (by decide) rfl (fun ls hl => ?_)
  refine lv_aload_n X.1.1 X.1.2.1 dX8_ofCycle_9 rfl (lv_at hl 1 rfl) ?_
  refine r_getq (k := 8) (j := 2) X hw rfl inX8 g_a0 rfl (by decide) (by decide) uf_X8_26 rfl dX8_ofCycle_10 eq1 ?_
  refine lv_iload_n X.1.1 X.1.2.1 dX8_ofCycle_13 rfl (lv_at hl 2 rfl) ?_
  obtain ⟨z3, ez3, hf⟩ := obd hf
  refine r_callVI (As := [.int p1]) (rest := []) X hw (c_X5_secondOf ez3) (cwV 1 X.1.2.2.2.2 (guV um_X8_319 ui_X5_secondOf us_X5_secondOf un_X5 uo_X5_secondOf) rfl rfl rfl (by decide +kernel) ⟨Nat.le_of_ble_eq_true rfl, Nat.le_of_ble_eq_true rfl⟩) g_q1 (by decide) rfl rfl hl.1 rfl (Nat.le_of_ble_eq_true rfl) dX8_ofCycle_14 ⟨Nat.zero_le _, Nat.zero_le _⟩ (fun H locs hw => ?_)
  refine lv_istore (lv' := [(4, .int z3), (3, .int z2), (0, .ref a0), (1, .int p1), (2, .int p2)]) X.1.1 X.1.2.1 dX8_ofCycle_17 hl (by decide) rfl (fun ls hl => ?_)
  refine lv_iload_n X.1.1 X.1.2.1 dX8_ofCycle_19 rfl (lv_at hl 4 rfl) ?_
  by_cases c_4 : p2 = (0 : Int32)
  · rw [if_pos c_4] at hf
    refine lv_tableIn (off := 40) (tgt := 60) X.1.1 X.1.2.1 dX8_ofCycle_20 (by rw [c_4]; decide) (by rw [c_4]; decide) (by rw [c_4]; decide) (by decide) ?_
    refine lv_aload_n X.1.1 X.1.2.1 dX8_ofCycle_60 rfl (lv_at hl 2 rfl) ?_
    refine r_getq (k := 8) (j := 2) X hw rfl inX8 g_a0 rfl (by decide) (by decide) uf_X8_26 rfl dX8_ofCycle_61 eq1 ?_
    refine lv_iload_n X.1.1 X.1.2.1 dX8_ofCycle_64 rfl (lv_at hl 1 rfl) ?_
    obtain ⟨z5, ez5, hf⟩ := obd hf
    refine r_callVI (As := [.int z2]) (rest := []) X hw (c_X5_turnAt ez5) (cwV 1 X.1.2.2.2.2 (guV um_X8_167 ui_X5_turnAt us_X5_turnAt un_X5 uo_X5_turnAt) rfl rfl rfl (by decide +kernel) ⟨Nat.le_of_ble_eq_true rfl, Nat.le_of_ble_eq_true rfl⟩) g_q1 (by decide) rfl rfl hl.1 rfl (Nat.le_of_ble_eq_true rfl) dX8_ofCycle_65 ⟨Nat.zero_le _, Nat.zero_le _⟩ (fun H locs hw => ?_)
    cases hf
    exact r_retI X hw hr hlk rfl dX8_ofCycle_68
  · rw [if_neg c_4] at hf
    by_cases c_6 : p2 = (1 : Int32)
    · rw [if_pos c_6] at hf
      refine lv_tableIn (off := 49) (tgt := 69) X.1.1 X.1.2.1 dX8_ofCycle_20 (by rw [c_6]; decide) (by rw [c_6]; decide) (by rw [c_6]; decide) (by decide) ?_
      refine lv_aload_n X.1.1 X.1.2.1 dX8_ofCycle_69 rfl (lv_at hl 2 rfl) ?_
      refine r_getq (k := 8) (j := 2) X hw rfl inX8 g_a0 rfl (by decide) (by decide) uf_X8_26 rfl dX8_ofCycle_70 eq1 ?_
      refine lv_iload X.1.1 X.1.2.1 dX8_ofCycle_73 (lv_at hl 0 rfl) ?_
      obtain ⟨z7, ez7, hf⟩ := obd hf
      refine r_callVI (As := [.int z3]) (rest := []) X hw (c_X5_turnAt ez7) (cwV 1 X.1.2.2.2.2 (guV um_X8_167 ui_X5_turnAt us_X5_turnAt un_X5 uo_X5_turnAt) rfl rfl rfl (by decide +kernel) ⟨Nat.le_of_ble_eq_true rfl, Nat.le_of_ble_eq_true rfl⟩) g_q1 (by decide) rfl rfl hl.1 rfl (Nat.le_of_ble_eq_true rfl) dX8_ofCycle_75 ⟨Nat.zero_le _, Nat.zero_le _⟩ (fun H locs hw => ?_)
      cases hf
      exact r_retI X hw hr hlk rfl dX8_ofCycle_78
    · rw [if_neg c_6] at hf
      by_cases c_8 : p2 = (2 : Int32)
      · rw [if_pos c_8] at hf
        refine lv_tableIn (off := 59) (tgt := 79) X.1.1 X.1.2.1 dX8_ofCycle_20 (by rw [c_8]; decide) (by rw [c_8]; decide) (by rw [c_8]; decide) (by decide) ?_
        refine lv_iload_n X.1.1 X.1.2.1 dX8_ofCycle_79 rfl (lv_at hl 1 rfl) ?_
        cases hf
        exact r_retI X hw hr hlk rfl dX8_ofCycle_80
      · rw [if_neg c_8] at hf
        by_cases c_9 : p2 = (3 : Int32)
        · rw [if_pos c_9] at hf
          refine lv_tableIn (off := 61) (tgt := 81) X.1.1 X.1.2.1 dX8_ofCycle_20 (by rw [c_9]; decide) (by rw [c_9]; decide) (by rw [c_9]; decide) (by decide) ?_
          refine lv_iload X.1.1 X.1.2.1 dX8_ofCycle_81 (lv_at hl 0 rfl) ?_
          cases hf
          exact r_retI X hw hr hlk rfl dX8_ofCycle_83
        · rw [if_neg c_9] at hf
          by_cases c_10 : p2 = (4 : Int32)
          · rw [if_pos c_10] at hf
            refine lv_tableIn (off := 64) (tgt := 84) X.1.1 X.1.2.1 dX8_ofCycle_20 (by rw [c_10]; decide) (by rw [c_10]; decide) (by rw [c_10]; decide) (by decide) ?_
            refine lv_aload_n X.1.1 X.1.2.1 dX8_ofCycle_84 rfl (lv_at hl 2 rfl) ?_
            refine r_getq (k := 8) (j := 2) X hw rfl inX8 g_a0 rfl (by decide) (by decide) uf_X8_26 rfl dX8_ofCycle_85 eq1 ?_
            refine lv_iload_n X.1.1 X.1.2.1 dX8_ofCycle_88 rfl (lv_at hl 3 rfl) ?_
            obtain ⟨z11, ez11, hf⟩ := obd hf
            refine r_callVI (As := [.int p1]) (rest := []) X hw (c_X5_closerOf ez11) (cwV 1 X.1.2.2.2.2 (guV um_X8_322 ui_X5_closerOf us_X5_closerOf un_X5 uo_X5_closerOf) rfl rfl rfl (by decide +kernel) ⟨Nat.le_of_ble_eq_true rfl, Nat.le_of_ble_eq_true rfl⟩) g_q1 (by decide) rfl rfl hl.1 rfl (Nat.le_of_ble_eq_true rfl) dX8_ofCycle_89 ⟨Nat.zero_le _, Nat.zero_le _⟩ (fun H locs hw => ?_)
            cases hf
            exact r_retI X hw hr hlk rfl dX8_ofCycle_92
          · rw [if_neg c_10] at hf
            by_cases c_12 : p2 = (5 : Int32)
            · rw [if_pos c_12] at hf
              refine lv_tableIn (off := 73) (tgt := 93) X.1.1 X.1.2.1 dX8_ofCycle_20 (by rw [c_12]; decide) (by rw [c_12]; decide) (by rw [c_12]; decide) (by decide) ?_
              refine lv_aload_n X.1.1 X.1.2.1 dX8_ofCycle_93 rfl (lv_at hl 2 rfl) ?_
              refine r_getq (k := 8) (j := 2) X hw rfl inX8 g_a0 rfl (by decide) (by decide) uf_X8_26 rfl dX8_ofCycle_94 eq1 ?_
              refine lv_iload_n X.1.1 X.1.2.1 dX8_ofCycle_97 rfl (lv_at hl 1 rfl) ?_
              refine lv_iload X.1.1 X.1.2.1 dX8_ofCycle_98 (lv_at hl 0 rfl) ?_
              obtain ⟨z13, ez13, hf⟩ := obd hf
              refine r_callVI (As := [.int z2, .int z3]) (rest := []) X hw (c_X5_rangeOf ez13) (cwV 2 X.1.2.2.2.2 (guV um_X8_325 ui_X5_rangeOf us_X5_rangeOf un_X5 uo_X5_rangeOf) rfl rfl rfl (by decide +kernel) ⟨Nat.le_of_ble_eq_true rfl, Nat.le_of_ble_eq_true rfl⟩) g_q1 (by decide) rfl rfl hl.1 rfl (Nat.le_of_ble_eq_true rfl) dX8_ofCycle_100 ⟨Nat.zero_le _, Nat.zero_le _⟩ (fun H locs hw => ?_)
              cases hf
              exact r_retI X hw hr hlk rfl dX8_ofCycle_103
            · rw [if_neg c_12] at hf
              refine lv_tableOut (tgt := 104) X.1.1 X.1.2.1 dX8_ofCycle_20 (by have q : p2.toInt < 0 ∨ 5 < p2.toInt ∨ p2.toInt = 0 ∨ p2.toInt = 1 ∨ p2.toInt = 2 ∨ p2.toInt = 3 ∨ p2.toInt = 4 ∨ p2.toInt = 5 := (by omega); rcases q with q | q | q | q | q | q | q | q; exact Or.inl q; exact Or.inr q; exact absurd ((sw_eq q).trans (by decide)) c_4; exact absurd ((sw_eq q).trans (by decide)) c_6; exact absurd ((sw_eq q).trans (by decide)) c_8; exact absurd ((sw_eq q).trans (by decide)) c_9; exact absurd ((sw_eq q).trans (by decide)) c_10; exact absurd ((sw_eq q).trans (by decide)) c_12) (by decide) ?_
              refine lv_aload_n X.1.1 X.1.2.1 dX8_ofCycle_104 rfl (lv_at hl 2 rfl) ?_
              refine r_getq (k := 8) (j := 2) X hw rfl inX8 g_a0 rfl (by decide) (by decide) uf_X8_26 rfl dX8_ofCycle_105 eq1 ?_
              refine lv_iload_n X.1.1 X.1.2.1 dX8_ofCycle_108 rfl (lv_at hl 1 rfl) ?_
              refine lv_iload X.1.1 X.1.2.1 dX8_ofCycle_109 (lv_at hl 0 rfl) ?_
              obtain ⟨z14, ez14, hf⟩ := obd hf
              refine r_callVI (As := [.int z2, .int z3]) (rest := []) X hw (c_X5_meanOf ez14) (cwV 2 X.1.2.2.2.2 (guV um_X8_328 ui_X5_meanOf us_X5_meanOf un_X5 uo_X5_meanOf) rfl rfl rfl (by decide +kernel) ⟨Nat.le_of_ble_eq_true rfl, Nat.le_of_ble_eq_true rfl⟩) g_q1 (by decide) rfl rfl hl.1 rfl (Nat.le_of_ble_eq_true rfl) dX8_ofCycle_111 ⟨Nat.zero_le _, Nat.zero_le _⟩ (fun H locs hw => ?_)
              cases hf
              exact r_retI X hw hr hlk rfl dX8_ofCycle_114
/-! X8_checkTape -/
def lp_X8_checkTape_58 (h : Hs) (a0 : Nat) (q4 : Nat) (q7 : Nat) (M : Mm) : Nat → Int32 → Option ((Int32 × Mm) ⊕ Int32)
  | 0, _ => none
  | n + 1, v3 =>
    if (zI M q7 1) ≤ v3 then
      some (.inr v3)
    else
      (f_X6_byteAt h q7 v3 M).bind fun z10 =>
      if z10 < (zI M q4 9) then
        lt_ (v3 + (1 : Int32)) fun x12 =>
        lp_X8_checkTape_58 h a0 q4 q7 M n x12
      else
        some (.inl ((-2 : Int32), M))
set_option maxHeartbeats 4000000 in
set_option maxRecDepth 100000 in
theorem wlp_X8_checkTape_58 {l : Launch} {D : va_G} {cy : Nat → ClassId} {h : Hs} {a0 : Nat} {q4 : Nat} {q7 : Nat} {M : Mm} {p : Program} {e : Env} {s : State} {m : MethodId} {args : Array Value} {below : List Frame} {meth : Method} {c : Code} {A : Nat → Prop} (X : Cx p s m args c cX8_checkTape 4 gtbl RX8 D cy A) {zf : (Int32 × Mm)} (hr : meth.sig.returnType = (some .int)) (hlk : meth.locks = false) (g_a0 : ok h a0 8) (g_q4 : ok h q4 5) (g_q7 : ok h q7 6) (eq4 : zR h a0 2 = some q4) (eq7 : zR h a0 0 = some q7) : ∀ (n : Nat) (v3 : Int32) (z : ((Int32 × Mm) ⊕ Int32)) (H : Heap) (locs : List Loc) (ls : Array Slot), lp_X8_checkTape_58 h a0 q4 q7 M n v3 = some z → Wd D cy A s.heap h M H locs → lv_has ls 4 [(3, .int v3), (0, .ref a0)] → (∀ rr, z = .inl rr → rr = zf) → (∀ x : Int32, z = .inr x → ∀ (H : Heap) (locs : List Loc) (ls : Array Slot), Wd D cy A s.heap h M H locs → lv_has ls 4 [(3, .int x), (0, .ref a0)] → W p l e ({ frames := 5, cells := 0, slots := 0, locals := 115 } : Room) s m args below meth c H locs 0 0 (QI below D cy A h args s zf.1 zf.2) (F0 m 96 ls [])) → W p l e ({ frames := 5, cells := 0, slots := 0, locals := 115 } : Room) s m args below meth c H locs 0 0 (QI below D cy A h args s zf.1 zf.2) (F0 m 58 ls []) := by
  intro n
  induction n with
  | zero => intro v3 z H locs ls hf hw hl kr kx; exact absurd hf (by intro q; cases q)
  | succ n ih =>
    intro v3 z H locs ls hf hw hl kr kx
    unfold lp_X8_checkTape_58 at hf
    refine lv_iload_n X.1.1 X.1.2.1 dX8_checkTape_58 rfl (lv_at hl 0 rfl) ?_
    refine lv_aload_n X.1.1 X.1.2.1 dX8_checkTape_59 rfl (lv_at hl 1 rfl) ?_
    refine r_getq (k := 8) (j := 0) X hw rfl inX8 g_a0 rfl (by decide) (by decide) uf_X8_12 rfl dX8_checkTape_60 eq7 ?_
    refine r_geti (k := 6) (j := 1) X hw rfl inX6 g_q7 rfl (by decide) (by decide) uf_X8_73 rfl dX8_checkTape_63 ?_
    refine lv_icmp_ge (tgt := 96) X.1.1 X.1.2.1 dX8_checkTape_66 (by decide) (fun c_9 => ?_) (fun c_9 => ?_)
    · skip
      rw [if_pos c_9] at hf
      cases hf
      exact kx _ rfl _ _ _ hw (lv_sub hl [0, 1] rfl)
    · skip
      rw [if_neg c_9] at hf
      refine lv_aload_n X.1.1 X.1.2.1 dX8_checkTape_69 rfl (lv_at hl 1 rfl) ?_
      refine r_getq (k := 8) (j := 0) X hw rfl inX8 g_a0 rfl (by decide) (by decide) uf_X8_12 rfl dX8_checkTape_70 eq7 ?_
      refine lv_iload_n X.1.1 X.1.2.1 dX8_checkTape_73 rfl (lv_at hl 0 rfl) ?_
      obtain ⟨z10, ez10, hf⟩ := obd hf
      refine r_callVI (As := [.int v3]) (rest := []) X hw (c_X6_byteAt ez10) (cwV 1 X.1.2.2.2.2 (guV um_X8_331 ui_X6_byteAt us_X6_byteAt un_X6 uo_X6_byteAt) rfl rfl rfl (by decide +kernel) ⟨Nat.le_of_ble_eq_true rfl, Nat.le_of_ble_eq_true rfl⟩) g_q7 (by decide) rfl rfl hl.1 rfl (Nat.le_of_ble_eq_true rfl) dX8_checkTape_74 ⟨Nat.zero_le _, Nat.zero_le _⟩ (fun H locs hw => ?_)
      refine lv_aload_n X.1.1 X.1.2.1 dX8_checkTape_77 rfl (lv_at hl 1 rfl) ?_
      refine r_getq (k := 8) (j := 2) X hw rfl inX8 g_a0 rfl (by decide) (by decide) uf_X8_26 rfl dX8_checkTape_78 eq4 ?_
      refine r_geti (k := 5) (j := 9) X hw rfl inX5 g_q4 rfl (by decide) (by decide) uf_X8_141 rfl dX8_checkTape_81 ?_
      refine lv_icmp_lt (tgt := 90) X.1.1 X.1.2.1 dX8_checkTape_84 (by decide) (fun c_11 => ?_) (fun c_11 => ?_)
      · skip
        rw [if_pos c_11] at hf
        obtain ⟨x12, ex12, hf⟩ := olt hf
        refine lv_iinc (v := x12) (lv' := [(3, .int x12), (0, .ref a0)]) X.1.1 X.1.2.1 dX8_checkTape_90 hl (k := 0) rfl (by rw [ex12]; rfl) (by decide) rfl (fun ls hl => ?_)
        refine lv_goto (tgt := 58) X.1.1 X.1.2.1 dX8_checkTape_93 (by decide) ?_
        exact ih _ _ _ _ _ hf hw (lv_sub hl [0, 1] rfl) kr kx
      · skip
        rw [if_neg c_11] at hf
        refine lv_bipush (v := (-2 : Int32)) X.1.1 X.1.2.1 dX8_checkTape_87 (by decide) ?_
        cases hf
        cases kr _ rfl
        exact r_retI (v := (-2 : Int32)) X hw hr hlk rfl dX8_checkTape_89
def lp_X8_checkTape_105 (h : Hs) (a0 : Nat) (q4 : Nat) (q15 : Nat) : Nat → Int32 → Mm → Option (Int32 × Mm)
  | 0, _, _ => none
  | n + 1, v3, M =>
    if (zI M q4 11) ≤ v3 then
      some (v3, M)
    else
      (f_X5_firstOf h q4 v3 M).bind fun z18 =>
      (f_X5_secondOf h q4 v3 M).bind fun z19 =>
      (f_X1_pair h q15 z18 z19 M).bind fun z20 =>
      lt_ (v3 + (1 : Int32)) fun x21 =>
      lp_X8_checkTape_105 h a0 q4 q15 n x21 z20
set_option maxHeartbeats 4000000 in
set_option maxRecDepth 100000 in
theorem wlp_X8_checkTape_105 {l : Launch} {D : va_G} {cy : Nat → ClassId} {h : Hs} {a0 : Nat} {q4 : Nat} {q15 : Nat} {p : Program} {e : Env} {s : State} {m : MethodId} {args : Array Value} {below : List Frame} {meth : Method} {c : Code} {A : Nat → Prop} (X : Cx p s m args c cX8_checkTape 4 gtbl RX8 D cy A) {Q : State → Prop} (g_a0 : ok h a0 8) (g_q4 : ok h q4 5) (g_q15 : ok h q15 1) (eq4 : zR h a0 2 = some q4) (eq15 : zR h a0 4 = some q15) : ∀ (n : Nat) (v3 : Int32) (M : Mm) (z : (Int32 × Mm)) (H : Heap) (locs : List Loc) (ls : Array Slot), lp_X8_checkTape_105 h a0 q4 q15 n v3 M = some z → Wd D cy A s.heap h M H locs → lv_has ls 4 [(3, .int v3), (0, .ref a0)] → (∀ x : (Int32 × Mm), z = x → ∀ (H : Heap) (locs : List Loc) (ls : Array Slot), Wd D cy A s.heap h x.2 H locs → lv_has ls 4 [(3, .int x.1), (0, .ref a0)] → W p l e ({ frames := 5, cells := 0, slots := 0, locals := 115 } : Room) s m args below meth c H locs 0 0 Q (F0 m 145 ls [])) → W p l e ({ frames := 5, cells := 0, slots := 0, locals := 115 } : Room) s m args below meth c H locs 0 0 Q (F0 m 105 ls []) := by
  intro n
  induction n with
  | zero => intro v3 M z H locs ls hf hw hl kx; exact absurd hf (by intro q; cases q)
  | succ n ih =>
    intro v3 M z H locs ls hf hw hl kx
    unfold lp_X8_checkTape_105 at hf
    refine lv_iload_n X.1.1 X.1.2.1 dX8_checkTape_105 rfl (lv_at hl 0 rfl) ?_
    refine lv_aload_n X.1.1 X.1.2.1 dX8_checkTape_106 rfl (lv_at hl 1 rfl) ?_
    refine r_getq (k := 8) (j := 2) X hw rfl inX8 g_a0 rfl (by decide) (by decide) uf_X8_26 rfl dX8_checkTape_107 eq4 ?_
    refine r_geti (k := 5) (j := 11) X hw rfl inX5 g_q4 rfl (by decide) (by decide) uf_X8_144 rfl dX8_checkTape_110 ?_
    refine lv_icmp_ge (tgt := 145) X.1.1 X.1.2.1 dX8_checkTape_113 (by decide) (fun c_17 => ?_) (fun c_17 => ?_)
    · skip
      rw [if_pos c_17] at hf
      cases hf
      exact kx _ rfl _ _ _ hw (lv_sub hl [0, 1] rfl)
    · skip
      rw [if_neg c_17] at hf
      refine lv_aload_n X.1.1 X.1.2.1 dX8_checkTape_116 rfl (lv_at hl 1 rfl) ?_
      refine r_getq (k := 8) (j := 4) X hw rfl inX8 g_a0 rfl (by decide) (by decide) uf_X8_40 rfl dX8_checkTape_117 eq15 ?_
      refine lv_aload_n X.1.1 X.1.2.1 dX8_checkTape_120 rfl (lv_at hl 1 rfl) ?_
      refine r_getq (k := 8) (j := 2) X hw rfl inX8 g_a0 rfl (by decide) (by decide) uf_X8_26 rfl dX8_checkTape_121 eq4 ?_
      refine lv_iload_n X.1.1 X.1.2.1 dX8_checkTape_124 rfl (lv_at hl 0 rfl) ?_
      obtain ⟨z18, ez18, hf⟩ := obd hf
      refine r_callVI (As := [.int v3]) (rest := [.ref q15]) X hw (c_X5_firstOf ez18) (cwV 1 X.1.2.2.2.2 (guV um_X8_316 ui_X5_firstOf us_X5_firstOf un_X5 uo_X5_firstOf) rfl rfl rfl (by decide +kernel) ⟨Nat.le_of_ble_eq_true rfl, Nat.le_of_ble_eq_true rfl⟩) g_q4 (by decide) rfl rfl hl.1 rfl (Nat.le_of_ble_eq_true rfl) dX8_checkTape_125 ⟨Nat.zero_le _, Nat.zero_le _⟩ (fun H locs hw => ?_)
      refine lv_aload_n X.1.1 X.1.2.1 dX8_checkTape_128 rfl (lv_at hl 1 rfl) ?_
      refine r_getq (k := 8) (j := 2) X hw rfl inX8 g_a0 rfl (by decide) (by decide) uf_X8_26 rfl dX8_checkTape_129 eq4 ?_
      refine lv_iload_n X.1.1 X.1.2.1 dX8_checkTape_132 rfl (lv_at hl 0 rfl) ?_
      obtain ⟨z19, ez19, hf⟩ := obd hf
      refine r_callVI (As := [.int v3]) (rest := [.int z18, .ref q15]) X hw (c_X5_secondOf ez19) (cwV 1 X.1.2.2.2.2 (guV um_X8_319 ui_X5_secondOf us_X5_secondOf un_X5 uo_X5_secondOf) rfl rfl rfl (by decide +kernel) ⟨Nat.le_of_ble_eq_true rfl, Nat.le_of_ble_eq_true rfl⟩) g_q4 (by decide) rfl rfl hl.1 rfl (Nat.le_of_ble_eq_true rfl) dX8_checkTape_133 ⟨Nat.zero_le _, Nat.zero_le _⟩ (fun H locs hw => ?_)
      obtain ⟨z20, ez20, hf⟩ := obd hf
      refine r_callVV (As := [.int z18, .int z19]) (rest := []) X hw (c_X1_pair ez20) (cwV 2 X.1.2.2.2.2 (guV um_X8_337 ui_X1_pair us_X1_pair un_X1 uo_X1_pair) rfl rfl rfl (by decide +kernel) ⟨Nat.le_of_ble_eq_true rfl, Nat.le_of_ble_eq_true rfl⟩) g_q15 (by decide) rfl rfl hl.1 rfl (Nat.le_of_ble_eq_true rfl) dX8_checkTape_136 ⟨Nat.zero_le _, Nat.zero_le _⟩ (fun H locs hw => ?_)
      obtain ⟨x21, ex21, hf⟩ := olt hf
      refine lv_iinc (v := x21) (lv' := [(3, .int x21), (0, .ref a0)]) X.1.1 X.1.2.1 dX8_checkTape_139 hl (k := 0) rfl (by rw [ex21]; rfl) (by decide) rfl (fun ls hl => ?_)
      refine lv_goto (tgt := 105) X.1.1 X.1.2.1 dX8_checkTape_142 (by decide) ?_
      exact ih _ _ _ _ _ _ hf hw (lv_sub hl [0, 1] rfl) kx
def lp_X8_checkTape_147 (h : Hs) (a0 : Nat) (q7 : Nat) (q15 : Nat) : Nat → Int32 → Mm → Option (Int32 × Mm)
  | 0, _, _ => none
  | n + 1, v3, M =>
    if (zI M q7 1) ≤ (v3 + (1 : Int32)) then
      some (v3, M)
    else
      (f_X6_byteAt h q7 v3 M).bind fun z24 =>
      (f_X6_byteAt h q7 (v3 + (1 : Int32)) M).bind fun z25 =>
      (f_X1_tell h q15 z24 z25 M).bind fun z26 =>
      lt_ (v3 + (2 : Int32)) fun x27 =>
      lp_X8_checkTape_147 h a0 q7 q15 n x27 z26
set_option maxHeartbeats 4000000 in
set_option maxRecDepth 100000 in
theorem wlp_X8_checkTape_147 {l : Launch} {D : va_G} {cy : Nat → ClassId} {h : Hs} {a0 : Nat} {q7 : Nat} {q15 : Nat} {p : Program} {e : Env} {s : State} {m : MethodId} {args : Array Value} {below : List Frame} {meth : Method} {c : Code} {A : Nat → Prop} (X : Cx p s m args c cX8_checkTape 4 gtbl RX8 D cy A) {Q : State → Prop} (g_a0 : ok h a0 8) (g_q7 : ok h q7 6) (g_q15 : ok h q15 1) (eq7 : zR h a0 0 = some q7) (eq15 : zR h a0 4 = some q15) : ∀ (n : Nat) (v3 : Int32) (M : Mm) (z : (Int32 × Mm)) (H : Heap) (locs : List Loc) (ls : Array Slot), lp_X8_checkTape_147 h a0 q7 q15 n v3 M = some z → Wd D cy A s.heap h M H locs → lv_has ls 4 [(3, .int v3), (0, .ref a0)] → (∀ x : (Int32 × Mm), z = x → ∀ (H : Heap) (locs : List Loc) (ls : Array Slot), Wd D cy A s.heap h x.2 H locs → lv_has ls 4 [(3, .int x.1), (0, .ref a0)] → W p l e ({ frames := 5, cells := 0, slots := 0, locals := 115 } : Room) s m args below meth c H locs 0 0 Q (F0 m 191 ls [])) → W p l e ({ frames := 5, cells := 0, slots := 0, locals := 115 } : Room) s m args below meth c H locs 0 0 Q (F0 m 147 ls []) := by
  intro n
  induction n with
  | zero => intro v3 M z H locs ls hf hw hl kx; exact absurd hf (by intro q; cases q)
  | succ n ih =>
    intro v3 M z H locs ls hf hw hl kx
    unfold lp_X8_checkTape_147 at hf
    refine lv_iload_n X.1.1 X.1.2.1 dX8_checkTape_147 rfl (lv_at hl 0 rfl) ?_
    refine lv_iconst (v := (1 : Int32)) X.1.1 X.1.2.1 dX8_checkTape_148 (by decide) ?_
    refine lv_iadd X.1.1 X.1.2.1 dX8_checkTape_149 ?_
    refine lv_aload_n X.1.1 X.1.2.1 dX8_checkTape_150 rfl (lv_at hl 1 rfl) ?_
    refine r_getq (k := 8) (j := 0) X hw rfl inX8 g_a0 rfl (by decide) (by decide) uf_X8_12 rfl dX8_checkTape_151 eq7 ?_
    refine r_geti (k := 6) (j := 1) X hw rfl inX6 g_q7 rfl (by decide) (by decide) uf_X8_73 rfl dX8_checkTape_154 ?_
    refine lv_icmp_ge (tgt := 191) X.1.1 X.1.2.1 dX8_checkTape_157 (by decide) (fun c_23 => ?_) (fun c_23 => ?_)
    · skip
      rw [if_pos c_23] at hf
      cases hf
      exact kx _ rfl _ _ _ hw (lv_sub hl [0, 1] rfl)
    · skip
      rw [if_neg c_23] at hf
      refine lv_aload_n X.1.1 X.1.2.1 dX8_checkTape_160 rfl (lv_at hl 1 rfl) ?_
      refine r_getq (k := 8) (j := 4) X hw rfl inX8 g_a0 rfl (by decide) (by decide) uf_X8_40 rfl dX8_checkTape_161 eq15 ?_
      refine lv_aload_n X.1.1 X.1.2.1 dX8_checkTape_164 rfl (lv_at hl 1 rfl) ?_
      refine r_getq (k := 8) (j := 0) X hw rfl inX8 g_a0 rfl (by decide) (by decide) uf_X8_12 rfl dX8_checkTape_165 eq7 ?_
      refine lv_iload_n X.1.1 X.1.2.1 dX8_checkTape_168 rfl (lv_at hl 0 rfl) ?_
      obtain ⟨z24, ez24, hf⟩ := obd hf
      refine r_callVI (As := [.int v3]) (rest := [.ref q15]) X hw (c_X6_byteAt ez24) (cwV 1 X.1.2.2.2.2 (guV um_X8_331 ui_X6_byteAt us_X6_byteAt un_X6 uo_X6_byteAt) rfl rfl rfl (by decide +kernel) ⟨Nat.le_of_ble_eq_true rfl, Nat.le_of_ble_eq_true rfl⟩) g_q7 (by decide) rfl rfl hl.1 rfl (Nat.le_of_ble_eq_true rfl) dX8_checkTape_169 ⟨Nat.zero_le _, Nat.zero_le _⟩ (fun H locs hw => ?_)
      refine lv_aload_n X.1.1 X.1.2.1 dX8_checkTape_172 rfl (lv_at hl 1 rfl) ?_
      refine r_getq (k := 8) (j := 0) X hw rfl inX8 g_a0 rfl (by decide) (by decide) uf_X8_12 rfl dX8_checkTape_173 eq7 ?_
      refine lv_iload_n X.1.1 X.1.2.1 dX8_checkTape_176 rfl (lv_at hl 0 rfl) ?_
      refine lv_iconst (v := (1 : Int32)) X.1.1 X.1.2.1 dX8_checkTape_177 (by decide) ?_
      refine lv_iadd X.1.1 X.1.2.1 dX8_checkTape_178 ?_
      obtain ⟨z25, ez25, hf⟩ := obd hf
      refine r_callVI (As := [.int (v3 + (1 : Int32))]) (rest := [.int z24, .ref q15]) X hw (c_X6_byteAt ez25) (cwV 1 X.1.2.2.2.2 (guV um_X8_331 ui_X6_byteAt us_X6_byteAt un_X6 uo_X6_byteAt) rfl rfl rfl (by decide +kernel) ⟨Nat.le_of_ble_eq_true rfl, Nat.le_of_ble_eq_true rfl⟩) g_q7 (by decide) rfl rfl hl.1 rfl (Nat.le_of_ble_eq_true rfl) dX8_checkTape_179 ⟨Nat.zero_le _, Nat.zero_le _⟩ (fun H locs hw => ?_)
      obtain ⟨z26, ez26, hf⟩ := obd hf
      refine r_callVV (As := [.int z24, .int z25]) (rest := []) X hw (c_X1_tell ez26) (cwV 2 X.1.2.2.2.2 (guV um_X8_340 ui_X1_tell us_X1_tell un_X1 uo_X1_tell) rfl rfl rfl (by decide +kernel) ⟨Nat.le_of_ble_eq_true rfl, Nat.le_of_ble_eq_true rfl⟩) g_q15 (by decide) rfl rfl hl.1 rfl (Nat.le_of_ble_eq_true rfl) dX8_checkTape_182 ⟨Nat.zero_le _, Nat.zero_le _⟩ (fun H locs hw => ?_)
      obtain ⟨x27, ex27, hf⟩ := olt hf
      refine lv_iinc (v := x27) (lv' := [(3, .int x27), (0, .ref a0)]) X.1.1 X.1.2.1 dX8_checkTape_185 hl (k := 0) rfl (by rw [ex27]; rfl) (by decide) rfl (fun ls hl => ?_)
      refine lv_goto (tgt := 147) X.1.1 X.1.2.1 dX8_checkTape_188 (by decide) ?_
      exact ih _ _ _ _ _ _ hf hw (lv_sub hl [0, 1] rfl) kx
def f_X8_checkTape (h : Hs) (a0 : Nat) (p1 : Int32) (M : Mm) : Option (Int32 × Mm) :=
  gd (ok h a0 8) <|
  dq (zR h a0 1) fun q1 =>
  gd (ok h q1 0) <|
  (f_X0_gaugeAt h q1 p1 M).bind fun z2 =>
  mq z2
    (
     some ((-1 : Int32), M)
    )
    (fun q3 =>
     dq (zR h a0 2) fun q4 =>
     gd (ok h q4 5) <|
     (f_X5_reckon h q4 q1 q3 (0 : Int32) M).bind fun z5 =>
     if (256 : Int32) < (zI z5 q4 9) then
       some ((-2 : Int32), z5)
     else
       dq (zR h a0 0) fun q7 =>
       gd (ok h q7 6) <|
       if ((zI z5 q7 1) - (zI z5 q7 1) / (2 : Int32) * (2 : Int32)) = 0 then
         (lp_X8_checkTape_58 h a0 q4 q7 z5 fuel (0 : Int32)).bind fun z13 =>
         sm z13 (fun r => some r) (fun y14 =>
           dq (zR h a0 4) fun q15 =>
           gd (ok h q15 1) <|
           (f_X1_begin h q15 z5).bind fun z16 =>
           (lp_X8_checkTape_105 h a0 q4 q15 fuel (0 : Int32) z16).bind fun z22 =>
           (lp_X8_checkTape_147 h a0 q7 q15 fuel (0 : Int32) z22.2).bind fun z28 =>
           (f_X1_leastWrong h q15 (zI z28.2 q4 9) z28.2).bind fun z29 =>
           some ((1 : Int32) + z29, z28.2)
           )
       else
         some ((-2 : Int32), z5)
    )
set_option maxHeartbeats 4000000 in
set_option maxRecDepth 100000 in
theorem c_X8_checkTape {l : Launch} {D : va_G} {cy : Nat → ClassId} {h : Hs} {a0 : Nat} {p1 : Int32} {M : Mm} {z : (Int32 × Mm)} (hf : f_X8_checkTape h a0 p1 M = some z) : CtI l D cy yX8_checkTape (wu yX8_checkTape cX8_checkTape 4 (some .int)) ({ frames := 5, cells := 0, slots := 0, locals := 115 }) [.ref a0, .int p1] h M z.1 z.2 := by
  refine enterI (cc := cX8_checkTape) (maxL := 4) (ret := (some .int)) (by decide) (Nat.le_of_ble_eq_true rfl) ?_
  intro p e s m args below meth c A ls X hw hr hlk hl
  have hl : lv_has ls 4 [(0, .ref a0), (1, .int p1)] := hl
  unfold f_X8_checkTape at hf
  refine lv_aload_n X.1.1 X.1.2.1 dX8_checkTape_0 rfl (lv_at hl 0 rfl) ?_
  obtain ⟨g_a0, hf⟩ := ogd hf
  obtain ⟨q1, eq1, hf⟩ := odq hf
  refine r_getq (k := 8) (j := 1) X hw rfl inX8 g_a0 rfl (by decide) (by decide) uf_X8_19 rfl dX8_checkTape_1 eq1 ?_
  refine lv_iload_n X.1.1 X.1.2.1 dX8_checkTape_4 rfl (lv_at hl 1 rfl) ?_
  obtain ⟨g_q1, hf⟩ := ogd hf
  obtain ⟨z2, ez2, hf⟩ := obd hf
  refine r_callVQ (As := [.int p1]) (rest := []) X hw (c_X0_gaugeAt ez2) (cwV 1 X.1.2.2.2.2 (guV um_X8_121 ui_X0_gaugeAt us_X0_gaugeAt un_X0 uo_X0_gaugeAt) rfl rfl rfl (by decide +kernel) ⟨Nat.le_of_ble_eq_true rfl, Nat.le_of_ble_eq_true rfl⟩) g_q1 (by decide) rfl rfl hl.1 rfl (Nat.le_of_ble_eq_true rfl) dX8_checkTape_5 ⟨Nat.zero_le _, Nat.zero_le _⟩ (fun H locs hw => ?_)
  obtain ⟨nq3, hf⟩ | ⟨q3, nq3, hf⟩ := omq hf
  · rw [nq3]
    refine lv_astore_nN (lv' := [(2, .null), (0, .ref a0), (1, .int p1)]) X.1.1 X.1.2.1 dX8_checkTape_8 rfl hl (by decide) rfl (fun ls hl => ?_)
    refine lv_aload_nN X.1.1 X.1.2.1 dX8_checkTape_9 rfl (lv_at hl 0 rfl) ?_
    refine lv_ifnonnullN X.1.1 X.1.2.1 dX8_checkTape_10 ?_
    refine lv_iconst (v := (-1 : Int32)) X.1.1 X.1.2.1 dX8_checkTape_13 (by decide) ?_
    cases hf
    exact r_retI (v := (-1 : Int32)) X hw hr hlk rfl dX8_checkTape_14
  · rw [nq3]
    refine lv_astore_n (lv' := [(2, .ref q3), (0, .ref a0), (1, .int p1)]) X.1.1 X.1.2.1 dX8_checkTape_8 rfl hl (by decide) rfl (fun ls hl => ?_)
    refine lv_aload_n X.1.1 X.1.2.1 dX8_checkTape_9 rfl (lv_at hl 0 rfl) ?_
    refine lv_ifnonnull (tgt := 15) X.1.1 X.1.2.1 dX8_checkTape_10 (by decide) ?_
    refine lv_aload_n X.1.1 X.1.2.1 dX8_checkTape_15 rfl (lv_at hl 1 rfl) ?_
    obtain ⟨q4, eq4, hf⟩ := odq hf
    refine r_getq (k := 8) (j := 2) X hw rfl inX8 g_a0 rfl (by decide) (by decide) uf_X8_26 rfl dX8_checkTape_16 eq4 ?_
    refine lv_aload_n X.1.1 X.1.2.1 dX8_checkTape_19 rfl (lv_at hl 1 rfl) ?_
    refine r_getq (k := 8) (j := 1) X hw rfl inX8 g_a0 rfl (by decide) (by decide) uf_X8_19 rfl dX8_checkTape_20 eq1 ?_
    refine lv_aload_n X.1.1 X.1.2.1 dX8_checkTape_23 rfl (lv_at hl 0 rfl) ?_
    refine lv_iconst (v := (0 : Int32)) X.1.1 X.1.2.1 dX8_checkTape_24 (by decide) ?_
    obtain ⟨g_q4, hf⟩ := ogd hf
    obtain ⟨z5, ez5, hf⟩ := obd hf
    refine r_callVV (As := [.ref q1, .ref q3, .int (0 : Int32)]) (rest := []) X hw (c_X5_reckon ez5) (cwV 3 X.1.2.2.2.2 (guV um_X8_124 ui_X5_reckon us_X5_reckon un_X5 uo_X5_reckon) rfl rfl rfl (by decide +kernel) ⟨Nat.le_of_ble_eq_true rfl, Nat.le_of_ble_eq_true rfl⟩) g_q4 (by decide) rfl rfl hl.1 rfl (Nat.le_of_ble_eq_true rfl) dX8_checkTape_25 ⟨Nat.zero_le _, Nat.zero_le _⟩ (fun H locs hw => ?_)
    refine lv_aload_n X.1.1 X.1.2.1 dX8_checkTape_28 rfl (lv_at hl 1 rfl) ?_
    refine r_getq (k := 8) (j := 2) X hw rfl inX8 g_a0 rfl (by decide) (by decide) uf_X8_26 rfl dX8_checkTape_29 eq4 ?_
    refine r_geti (k := 5) (j := 9) X hw rfl inX5 g_q4 rfl (by decide) (by decide) uf_X8_141 rfl dX8_checkTape_32 ?_
    refine lv_sipush (v := (256 : Int32)) X.1.1 X.1.2.1 dX8_checkTape_35 (by decide) ?_
    refine lv_icmp_gt (tgt := 53) X.1.1 X.1.2.1 dX8_checkTape_38 (by decide) (fun c_6 => ?_) (fun c_6 => ?_)
    · skip
      rw [if_pos c_6] at hf
      refine lv_bipush (v := (-2 : Int32)) X.1.1 X.1.2.1 dX8_checkTape_53 (by decide) ?_
      cases hf
      exact r_retI (v := (-2 : Int32)) X hw hr hlk rfl dX8_checkTape_55
    · skip
      rw [if_neg c_6] at hf
      refine lv_aload_n X.1.1 X.1.2.1 dX8_checkTape_41 rfl (lv_at hl 1 rfl) ?_
      obtain ⟨q7, eq7, hf⟩ := odq hf
      refine r_getq (k := 8) (j := 0) X hw rfl inX8 g_a0 rfl (by decide) (by decide) uf_X8_12 rfl dX8_checkTape_42 eq7 ?_
      obtain ⟨g_q7, hf⟩ := ogd hf
      refine r_geti (k := 6) (j := 1) X hw rfl inX6 g_q7 rfl (by decide) (by decide) uf_X8_73 rfl dX8_checkTape_45 ?_
      refine lv_iconst (v := (2 : Int32)) X.1.1 X.1.2.1 dX8_checkTape_48 (by decide) ?_
      refine lv_irem X.1.1 X.1.2.1 dX8_checkTape_49 (by decide) ?_
      refine lv_if_eq (tgt := 56) X.1.1 X.1.2.1 dX8_checkTape_50 (by decide) (fun c_8 => ?_) (fun c_8 => ?_)
      · skip
        rw [if_pos c_8] at hf
        refine lv_iconst (v := (0 : Int32)) X.1.1 X.1.2.1 dX8_checkTape_56 (by decide) ?_
        refine lv_istore_n (lv' := [(3, .int (0 : Int32)), (2, .ref q3), (0, .ref a0), (1, .int p1)]) X.1.1 X.1.2.1 dX8_checkTape_57 rfl hl (by decide) rfl (fun ls hl => ?_)
        obtain ⟨z13, ez13, hf⟩ := obd hf
        refine wlp_X8_checkTape_58 X hr hlk g_a0 g_q4 g_q7 eq4 eq7 fuel _ _ _ _ _ ez13 hw (lv_sub hl [0, 2] rfl) (fun rr er => ?_) (fun y14 ex H locs ls hw hl => ?_)
        · subst er
          exact Option.some.inj hf
        · subst ex
          dsimp only [sm] at hf
          refine lv_aload_n X.1.1 X.1.2.1 dX8_checkTape_96 rfl (lv_at hl 1 rfl) ?_
          obtain ⟨q15, eq15, hf⟩ := odq hf
          refine r_getq (k := 8) (j := 4) X hw rfl inX8 g_a0 rfl (by decide) (by decide) uf_X8_40 rfl dX8_checkTape_97 eq15 ?_
          obtain ⟨g_q15, hf⟩ := ogd hf
          obtain ⟨z16, ez16, hf⟩ := obd hf
          refine r_callVV (As := []) (rest := []) X hw (c_X1_begin ez16) (cwV 0 X.1.2.2.2.2 (guV um_X8_334 ui_X1_begin us_X1_begin un_X1 uo_X1_begin) rfl rfl rfl (by decide +kernel) ⟨Nat.le_of_ble_eq_true rfl, Nat.le_of_ble_eq_true rfl⟩) g_q15 (by decide) rfl rfl hl.1 rfl (Nat.le_of_ble_eq_true rfl) dX8_checkTape_100 ⟨Nat.zero_le _, Nat.zero_le _⟩ (fun H locs hw => ?_)
          refine lv_iconst (v := (0 : Int32)) X.1.1 X.1.2.1 dX8_checkTape_103 (by decide) ?_
          refine lv_istore_n (lv' := [(3, .int (0 : Int32)), (0, .ref a0)]) X.1.1 X.1.2.1 dX8_checkTape_104 rfl hl (by decide) rfl (fun ls hl => ?_)
          obtain ⟨z22, ez22, hf⟩ := obd hf
          refine wlp_X8_checkTape_105 X g_a0 g_q4 g_q15 eq4 eq15 fuel _ _ _ _ _ _ ez22 hw (lv_sub hl [0, 1] rfl) (fun x ex H locs ls hw hl => ?_)
          subst ex
          refine lv_iconst (v := (0 : Int32)) X.1.1 X.1.2.1 dX8_checkTape_145 (by decide) ?_
          refine lv_istore_n (lv' := [(3, .int (0 : Int32)), (0, .ref a0)]) X.1.1 X.1.2.1 dX8_checkTape_146 rfl hl (by decide) rfl (fun ls hl => ?_)
          obtain ⟨z28, ez28, hf⟩ := obd hf
          refine wlp_X8_checkTape_147 X g_a0 g_q7 g_q15 eq7 eq15 fuel _ _ _ _ _ _ ez28 hw (lv_sub hl [0, 1] rfl) (fun x ex H locs ls hw hl => ?_)
          subst ex
          refine lv_iconst (v := (1 : Int32)) X.1.1 X.1.2.1 dX8_checkTape_191 (by decide) ?_
          refine lv_aload_n X.1.1 X.1.2.1 dX8_checkTape_192 rfl (lv_at hl 1 rfl) ?_
          refine r_getq (k := 8) (j := 4) X hw rfl inX8 g_a0 rfl (by decide) (by decide) uf_X8_40 rfl dX8_checkTape_193 eq15 ?_
          refine lv_aload_n X.1.1 X.1.2.1 dX8_checkTape_196 rfl (lv_at hl 1 rfl) ?_
          refine r_getq (k := 8) (j := 2) X hw rfl inX8 g_a0 rfl (by decide) (by decide) uf_X8_26 rfl dX8_checkTape_197 eq4 ?_
          refine r_geti (k := 5) (j := 9) X hw rfl inX5 g_q4 rfl (by decide) (by decide) uf_X8_141 rfl dX8_checkTape_200 ?_
          obtain ⟨z29, ez29, hf⟩ := obd hf
          refine r_callVI (As := [.int (zI z28.2 q4 9)]) (rest := [.int (1 : Int32)]) X hw (c_X1_leastWrong ez29) (cwV 1 X.1.2.2.2.2 (guV um_X8_343 ui_X1_leastWrong us_X1_leastWrong un_X1 uo_X1_leastWrong) rfl rfl rfl (by decide +kernel) ⟨Nat.le_of_ble_eq_true rfl, Nat.le_of_ble_eq_true rfl⟩) g_q15 (by decide) rfl rfl hl.1 rfl (Nat.le_of_ble_eq_true rfl) dX8_checkTape_203 ⟨Nat.zero_le _, Nat.zero_le _⟩ (fun H locs hw => ?_)
          refine lv_iadd X.1.1 X.1.2.1 dX8_checkTape_206 ?_
          cases hf
          exact r_retI (v := (1 : Int32) + z29) X hw hr hlk rfl dX8_checkTape_207
      · skip
        rw [if_neg c_8] at hf
        refine lv_bipush (v := (-2 : Int32)) X.1.1 X.1.2.1 dX8_checkTape_53 (by decide) ?_
        cases hf
        exact r_retI (v := (-2 : Int32)) X hw hr hlk rfl dX8_checkTape_55
/-! X8_check -/
def f_X8_check (h : Hs) (a0 : Nat) (p1 : Int32) (M : Mm) : Option (Int32 × Mm) :=
  gd (ok h a0 8) <|
  (f_X8_checkTape h a0 p1 M).bind fun z1 =>
  dq (zR h a0 0) fun q2 =>
  gd (ok h q2 6) <|
  lt_ (sI z1.2 q2 1 (0 : Int32)) fun M3 =>
  some (z1.1, M3)
set_option maxHeartbeats 4000000 in
set_option maxRecDepth 100000 in
theorem c_X8_check {l : Launch} {D : va_G} {cy : Nat → ClassId} {h : Hs} {a0 : Nat} {p1 : Int32} {M : Mm} {z : (Int32 × Mm)} (hf : f_X8_check h a0 p1 M = some z) : CtI l D cy yX8_check (wu yX8_check cX8_check 3 (some .int)) ({ frames := 6, cells := 0, slots := 0, locals := 138 }) [.ref a0, .int p1] h M z.1 z.2 := by
  refine enterI (cc := cX8_check) (maxL := 3) (ret := (some .int)) (by decide) (Nat.le_of_ble_eq_true rfl) ?_
  intro p e s m args below meth c A ls X hw hr hlk hl
  have hl : lv_has ls 3 [(0, .ref a0), (1, .int p1)] := hl
  unfold f_X8_check at hf
  refine lv_aload_n X.1.1 X.1.2.1 dX8_check_0 rfl (lv_at hl 0 rfl) ?_
  refine lv_iload_n X.1.1 X.1.2.1 dX8_check_1 rfl (lv_at hl 1 rfl) ?_
  obtain ⟨g_a0, hf⟩ := ogd hf
  obtain ⟨z1, ez1, hf⟩ := obd hf
  refine r_callVI (As := [.int p1]) (rest := []) X hw (c_X8_checkTape ez1) (cwV 1 X.1.2.2.2.2 (guV um_X8_175 ui_X8_checkTape us_X8_checkTape un_X8 uo_X8_checkTape) rfl rfl rfl (by decide +kernel) ⟨Nat.le_of_ble_eq_true rfl, Nat.le_of_ble_eq_true rfl⟩) g_a0 (by decide) rfl rfl hl.1 rfl (Nat.le_of_ble_eq_true rfl) dX8_check_2 ⟨Nat.zero_le _, Nat.zero_le _⟩ (fun H locs hw => ?_)
  refine lv_istore_n (lv' := [(2, .int z1.1), (0, .ref a0), (1, .int p1)]) X.1.1 X.1.2.1 dX8_check_5 rfl hl (by decide) rfl (fun ls hl => ?_)
  refine lv_aload_n X.1.1 X.1.2.1 dX8_check_6 rfl (lv_at hl 1 rfl) ?_
  obtain ⟨q2, eq2, hf⟩ := odq hf
  refine r_getq (k := 8) (j := 0) X hw rfl inX8 g_a0 rfl (by decide) (by decide) uf_X8_12 rfl dX8_check_7 eq2 ?_
  refine lv_iconst (v := (0 : Int32)) X.1.1 X.1.2.1 dX8_check_10 (by decide) ?_
  obtain ⟨g_q2, hf⟩ := ogd hf
  refine r_puti (k := 6) (j := 1) X hw rfl inX6 tyX6_ok nmX6 g_q2 rfl (by decide) (by decide) uf_X8_73 rfl rfl rfl rfl dX8_check_11 (fun H locs hw => ?_)
  obtain ⟨M3, eM3, hf⟩ := olt hf
  rw [← eM3] at hw
  refine lv_iload_n X.1.1 X.1.2.1 dX8_check_14 rfl (lv_at hl 0 rfl) ?_
  cases hf
  exact r_retI (v := z1.1) X hw hr hlk rfl dX8_check_15
/-! X8_keepDetail -/
def f_X8_keepDetail (h : Hs) (a0 : Nat) (p1 : Int32) (p2 : Nat) (M : Mm) : Option Mm :=
  gd (ok h a0 8) <|
  dq (zR h a0 7) fun q1 =>
  gd (ok h q1 2) <|
  (f_X2_copyFrom h q1 p2 M).bind fun z2 =>
  lt_ (sI z2 a0 9 p1) fun M3 =>
  lt_ (sI M3 a0 8 (-1 : Int32)) fun M4 =>
  some M4
set_option maxHeartbeats 4000000 in
set_option maxRecDepth 100000 in
theorem c_X8_keepDetail {l : Launch} {D : va_G} {cy : Nat → ClassId} {h : Hs} {a0 : Nat} {p1 : Int32} {p2 : Nat} {M : Mm} {z : Mm} (hf : f_X8_keepDetail h a0 p1 p2 M = some z) : CtV l D cy yX8_keepDetail (wu yX8_keepDetail cX8_keepDetail 3 none) ({ frames := 3, cells := 0, slots := 0, locals := 64 }) [.ref a0, .int p1, .ref p2] h M z := by
  refine enterV (cc := cX8_keepDetail) (maxL := 3) (ret := none) (by decide) (Nat.le_of_ble_eq_true rfl) ?_
  intro p e s m args below meth c A ls X hw hr hlk hl
  have hl : lv_has ls 3 [(0, .ref a0), (1, .int p1), (2, .ref p2)] := hl
  unfold f_X8_keepDetail at hf
  refine lv_aload_n X.1.1 X.1.2.1 dX8_keepDetail_0 rfl (lv_at hl 0 rfl) ?_
  obtain ⟨g_a0, hf⟩ := ogd hf
  obtain ⟨q1, eq1, hf⟩ := odq hf
  refine r_getq (k := 8) (j := 7) X hw rfl inX8 g_a0 rfl (by decide) (by decide) uf_X8_54 rfl dX8_keepDetail_1 eq1 ?_
  refine lv_aload_n X.1.1 X.1.2.1 dX8_keepDetail_4 rfl (lv_at hl 2 rfl) ?_
  obtain ⟨g_q1, hf⟩ := ogd hf
  obtain ⟨z2, ez2, hf⟩ := obd hf
  refine r_callVV (As := [.ref p2]) (rest := []) X hw (c_X2_copyFrom ez2) (cwV 1 X.1.2.2.2.2 (guV um_X8_285 ui_X2_copyFrom us_X2_copyFrom un_X2 uo_X2_copyFrom) rfl rfl rfl (by decide +kernel) ⟨Nat.le_of_ble_eq_true rfl, Nat.le_of_ble_eq_true rfl⟩) g_q1 (by decide) rfl rfl hl.1 rfl (Nat.le_of_ble_eq_true rfl) dX8_keepDetail_5 ⟨Nat.zero_le _, Nat.zero_le _⟩ (fun H locs hw => ?_)
  refine lv_aload_n X.1.1 X.1.2.1 dX8_keepDetail_8 rfl (lv_at hl 0 rfl) ?_
  refine lv_iload_n X.1.1 X.1.2.1 dX8_keepDetail_9 rfl (lv_at hl 1 rfl) ?_
  refine r_puti (k := 8) (j := 9) X hw rfl inX8 tyX8_ok nmX8 g_a0 rfl (by decide) (by decide) uf_X8_62 rfl rfl rfl rfl dX8_keepDetail_10 (fun H locs hw => ?_)
  obtain ⟨M3, eM3, hf⟩ := olt hf
  rw [← eM3] at hw
  refine lv_aload_n X.1.1 X.1.2.1 dX8_keepDetail_13 rfl (lv_at hl 0 rfl) ?_
  refine lv_iconst (v := (-1 : Int32)) X.1.1 X.1.2.1 dX8_keepDetail_14 (by decide) ?_
  refine r_puti (k := 8) (j := 8) X hw rfl inX8 tyX8_ok nmX8 g_a0 rfl (by decide) (by decide) uf_X8_58 rfl rfl rfl rfl dX8_keepDetail_15 (fun H locs hw => ?_)
  obtain ⟨M4, eM4, hf⟩ := olt hf
  rw [← eM4] at hw
  cases hf
  exact r_retV X hw hr hlk dX8_keepDetail_18
/-! X8_detail -/
def f_X8_detail (h : Hs) (a0 : Nat) (p1 : Int32) (p2 : Int32) (M : Mm) : Option (Int32 × Mm) :=
  gd (ok h a0 8) <|
  dq (zR h a0 1) fun q1 =>
  gd (ok h q1 0) <|
  (f_X0_detailAt h q1 p1 M).bind fun z2 =>
  mq z2
    (
     some ((0 : Int32), M)
    )
    (fun q3 =>
     if p2 = (-1 : Int32) then
       (f_X8_keepDetail h a0 p1 q3 M).bind fun z5 =>
       gd (ok h q3 2) <|
       lt_ (sI z5 q3 3 p2) fun M6 =>
       some ((1 : Int32), M6)
     else
       (f_X0_placeAt h q1 p2 M).bind fun z7 =>
       mq z7
         (
          some ((0 : Int32), M)
         )
         (fun q8 =>
          (f_X8_keepDetail h a0 p1 q3 M).bind fun z9 =>
          gd (ok h q3 2) <|
          lt_ (sI z9 q3 3 p2) fun M10 =>
          some ((1 : Int32), M10)
         )
    )
set_option maxHeartbeats 4000000 in
set_option maxRecDepth 100000 in
theorem c_X8_detail {l : Launch} {D : va_G} {cy : Nat → ClassId} {h : Hs} {a0 : Nat} {p1 : Int32} {p2 : Int32} {M : Mm} {z : (Int32 × Mm)} (hf : f_X8_detail h a0 p1 p2 M = some z) : CtI l D cy yX8_detail (wu yX8_detail cX8_detail 4 (some .boolean)) ({ frames := 4, cells := 0, slots := 0, locals := 86 }) [.ref a0, .int p1, .int p2] h M z.1 z.2 := by
  refine enterI (cc := cX8_detail) (maxL := 4) (ret := (some .boolean)) (by decide) (Nat.le_of_ble_eq_true rfl) ?_
  intro p e s m args below meth c A ls X hw hr hlk hl
  have hl : lv_has ls 4 [(0, .ref a0), (1, .int p1), (2, .int p2)] := hl
  unfold f_X8_detail at hf
  refine lv_aload_n X.1.1 X.1.2.1 dX8_detail_0 rfl (lv_at hl 0 rfl) ?_
  obtain ⟨g_a0, hf⟩ := ogd hf
  obtain ⟨q1, eq1, hf⟩ := odq hf
  refine r_getq (k := 8) (j := 1) X hw rfl inX8 g_a0 rfl (by decide) (by decide) uf_X8_19 rfl dX8_detail_1 eq1 ?_
  refine lv_iload_n X.1.1 X.1.2.1 dX8_detail_4 rfl (lv_at hl 1 rfl) ?_
  obtain ⟨g_q1, hf⟩ := ogd hf
  obtain ⟨z2, ez2, hf⟩ := obd hf
  refine r_callVQ (As := [.int p1]) (rest := []) X hw (c_X0_detailAt ez2) (cwV 1 X.1.2.2.2.2 (guV um_X8_178 ui_X0_detailAt us_X0_detailAt un_X0 uo_X0_detailAt) rfl rfl rfl (by decide +kernel) ⟨Nat.le_of_ble_eq_true rfl, Nat.le_of_ble_eq_true rfl⟩) g_q1 (by decide) rfl rfl hl.1 rfl (Nat.le_of_ble_eq_true rfl) dX8_detail_5 ⟨Nat.zero_le _, Nat.zero_le _⟩ (fun H locs hw => ?_)
  obtain ⟨nq3, hf⟩ | ⟨q3, nq3, hf⟩ := omq hf
  · rw [nq3]
    refine lv_astore_nN (lv' := [(3, .null), (0, .ref a0), (1, .int p1), (2, .int p2)]) X.1.1 X.1.2.1 dX8_detail_8 rfl hl (by decide) rfl (fun ls hl => ?_)
    refine lv_aload_nN X.1.1 X.1.2.1 dX8_detail_9 rfl (lv_at hl 0 rfl) ?_
    refine lv_ifnullN (tgt := 29) X.1.1 X.1.2.1 dX8_detail_10 (by decide) ?_
    refine lv_iconst (v := (0 : Int32)) X.1.1 X.1.2.1 dX8_detail_29 (by decide) ?_
    cases hf
    exact r_retI (v := (0 : Int32)) X hw hr hlk rfl dX8_detail_30
  · rw [nq3]
    refine lv_astore_n (lv' := [(3, .ref q3), (0, .ref a0), (1, .int p1), (2, .int p2)]) X.1.1 X.1.2.1 dX8_detail_8 rfl hl (by decide) rfl (fun ls hl => ?_)
    refine lv_aload_n X.1.1 X.1.2.1 dX8_detail_9 rfl (lv_at hl 0 rfl) ?_
    refine lv_ifnull X.1.1 X.1.2.1 dX8_detail_10 ?_
    refine lv_iload_n X.1.1 X.1.2.1 dX8_detail_13 rfl (lv_at hl 3 rfl) ?_
    refine lv_iconst (v := (-1 : Int32)) X.1.1 X.1.2.1 dX8_detail_14 (by decide) ?_
    refine lv_icmp_eq (tgt := 31) X.1.1 X.1.2.1 dX8_detail_15 (by decide) (fun c_4 => ?_) (fun c_4 => ?_)
    · skip
      rw [if_pos c_4] at hf
      refine lv_aload_n X.1.1 X.1.2.1 dX8_detail_31 rfl (lv_at hl 1 rfl) ?_
      refine lv_iload_n X.1.1 X.1.2.1 dX8_detail_32 rfl (lv_at hl 2 rfl) ?_
      refine lv_aload_n X.1.1 X.1.2.1 dX8_detail_33 rfl (lv_at hl 0 rfl) ?_
      obtain ⟨z5, ez5, hf⟩ := obd hf
      refine r_callVV (As := [.int p1, .ref q3]) (rest := []) X hw (c_X8_keepDetail ez5) (cwV 2 X.1.2.2.2.2 (guV um_X8_182 ui_X8_keepDetail us_X8_keepDetail un_X8 uo_X8_keepDetail) rfl rfl rfl (by decide +kernel) ⟨Nat.le_of_ble_eq_true rfl, Nat.le_of_ble_eq_true rfl⟩) g_a0 (by decide) rfl rfl hl.1 rfl (Nat.le_of_ble_eq_true rfl) dX8_detail_34 ⟨Nat.zero_le _, Nat.zero_le _⟩ (fun H locs hw => ?_)
      refine lv_aload_n X.1.1 X.1.2.1 dX8_detail_37 rfl (lv_at hl 0 rfl) ?_
      refine lv_iload_n X.1.1 X.1.2.1 dX8_detail_38 rfl (lv_at hl 3 rfl) ?_
      obtain ⟨g_q3, hf⟩ := ogd hf
      refine r_puti (k := 2) (j := 3) X hw rfl inX2 tyX2_ok nmX2 g_q3 rfl (by decide) (by decide) uf_X8_186 rfl rfl rfl rfl dX8_detail_39 (fun H locs hw => ?_)
      obtain ⟨M6, eM6, hf⟩ := olt hf
      rw [← eM6] at hw
      refine lv_iconst (v := (1 : Int32)) X.1.1 X.1.2.1 dX8_detail_42 (by decide) ?_
      cases hf
      exact r_retI (v := (1 : Int32)) X hw hr hlk rfl dX8_detail_43
    · skip
      rw [if_neg c_4] at hf
      refine lv_aload_n X.1.1 X.1.2.1 dX8_detail_18 rfl (lv_at hl 1 rfl) ?_
      refine r_getq (k := 8) (j := 1) X hw rfl inX8 g_a0 rfl (by decide) (by decide) uf_X8_19 rfl dX8_detail_19 eq1 ?_
      refine lv_iload_n X.1.1 X.1.2.1 dX8_detail_22 rfl (lv_at hl 3 rfl) ?_
      obtain ⟨z7, ez7, hf⟩ := obd hf
      refine r_callVQ (As := [.int p2]) (rest := []) X hw (c_X0_placeAt ez7) (cwV 1 X.1.2.2.2.2 (guV um_X8_76 ui_X0_placeAt us_X0_placeAt un_X0 uo_X0_placeAt) rfl rfl rfl (by decide +kernel) ⟨Nat.le_of_ble_eq_true rfl, Nat.le_of_ble_eq_true rfl⟩) g_q1 (by decide) rfl rfl hl.1 rfl (Nat.le_of_ble_eq_true rfl) dX8_detail_23 ⟨Nat.zero_le _, Nat.zero_le _⟩ (fun H locs hw => ?_)
      obtain ⟨nq8, hf⟩ | ⟨q8, nq8, hf⟩ := omq hf
      · rw [nq8]
        refine lv_ifnonnullN X.1.1 X.1.2.1 dX8_detail_26 ?_
        refine lv_iconst (v := (0 : Int32)) X.1.1 X.1.2.1 dX8_detail_29 (by decide) ?_
        cases hf
        exact r_retI (v := (0 : Int32)) X hw hr hlk rfl dX8_detail_30
      · rw [nq8]
        refine lv_ifnonnull (tgt := 31) X.1.1 X.1.2.1 dX8_detail_26 (by decide) ?_
        refine lv_aload_n X.1.1 X.1.2.1 dX8_detail_31 rfl (lv_at hl 1 rfl) ?_
        refine lv_iload_n X.1.1 X.1.2.1 dX8_detail_32 rfl (lv_at hl 2 rfl) ?_
        refine lv_aload_n X.1.1 X.1.2.1 dX8_detail_33 rfl (lv_at hl 0 rfl) ?_
        obtain ⟨z9, ez9, hf⟩ := obd hf
        refine r_callVV (As := [.int p1, .ref q3]) (rest := []) X hw (c_X8_keepDetail ez9) (cwV 2 X.1.2.2.2.2 (guV um_X8_182 ui_X8_keepDetail us_X8_keepDetail un_X8 uo_X8_keepDetail) rfl rfl rfl (by decide +kernel) ⟨Nat.le_of_ble_eq_true rfl, Nat.le_of_ble_eq_true rfl⟩) g_a0 (by decide) rfl rfl hl.1 rfl (Nat.le_of_ble_eq_true rfl) dX8_detail_34 ⟨Nat.zero_le _, Nat.zero_le _⟩ (fun H locs hw => ?_)
        refine lv_aload_n X.1.1 X.1.2.1 dX8_detail_37 rfl (lv_at hl 0 rfl) ?_
        refine lv_iload_n X.1.1 X.1.2.1 dX8_detail_38 rfl (lv_at hl 3 rfl) ?_
        obtain ⟨g_q3, hf⟩ := ogd hf
        refine r_puti (k := 2) (j := 3) X hw rfl inX2 tyX2_ok nmX2 g_q3 rfl (by decide) (by decide) uf_X8_186 rfl rfl rfl rfl dX8_detail_39 (fun H locs hw => ?_)
        obtain ⟨M10, eM10, hf⟩ := olt hf
        rw [← eM10] at hw
        refine lv_iconst (v := (1 : Int32)) X.1.1 X.1.2.1 dX8_detail_42 (by decide) ?_
        cases hf
        exact r_retI (v := (1 : Int32)) X hw hr hlk rfl dX8_detail_43
/-! X8_bound -/
def f_X8_bound (h : Hs) (a0 : Nat) (p1 : Int32) (p2 : Int32) (p3 : Int32) (M : Mm) : Option (Int32 × Mm) :=
  gd (ok h a0 8) <|
  dq (zR h a0 1) fun q1 =>
  gd (ok h q1 0) <|
  (f_X0_detailAt h q1 p1 M).bind fun z2 =>
  mq z2
    (
     some ((-1 : Int32), M)
    )
    (fun q3 =>
     if p2 ≤ 0 then
       some ((-1 : Int32), M)
     else
       (f_X8_isBearsAsTold h p3 M).bind fun z5 =>
       if z5 = 0 then
         some ((-1 : Int32), M)
       else
         gd (ok h q3 2) <|
         dq (zR h q3 0) fun q7 =>
         gd (ok h q7 3) <|
         (f_X3_takes h q7 p2 M).bind fun z8 =>
         if ¬ z8 = 0 then
           (f_X8_keepDetail h a0 p1 q3 M).bind fun z10 =>
           (f_X3_add h q7 p2 p3 z10).bind fun z11 =>
           some (z11.1, z11.2)
         else
           some ((-1 : Int32), M)
    )
set_option maxHeartbeats 4000000 in
set_option maxRecDepth 100000 in
theorem c_X8_bound {l : Launch} {D : va_G} {cy : Nat → ClassId} {h : Hs} {a0 : Nat} {p1 : Int32} {p2 : Int32} {p3 : Int32} {M : Mm} {z : (Int32 × Mm)} (hf : f_X8_bound h a0 p1 p2 p3 M = some z) : CtI l D cy yX8_bound (wu yX8_bound cX8_bound 5 (some .int)) ({ frames := 4, cells := 0, slots := 0, locals := 86 }) [.ref a0, .int p1, .int p2, .int p3] h M z.1 z.2 := by
  refine enterI (cc := cX8_bound) (maxL := 5) (ret := (some .int)) (by decide) (Nat.le_of_ble_eq_true rfl) ?_
  intro p e s m args below meth c A ls X hw hr hlk hl
  have hl : lv_has ls 5 [(0, .ref a0), (1, .int p1), (2, .int p2), (3, .int p3)] := hl
  unfold f_X8_bound at hf
  refine lv_aload_n X.1.1 X.1.2.1 dX8_bound_0 rfl (lv_at hl 0 rfl) ?_
  obtain ⟨g_a0, hf⟩ := ogd hf
  obtain ⟨q1, eq1, hf⟩ := odq hf
  refine r_getq (k := 8) (j := 1) X hw rfl inX8 g_a0 rfl (by decide) (by decide) uf_X8_19 rfl dX8_bound_1 eq1 ?_
  refine lv_iload_n X.1.1 X.1.2.1 dX8_bound_4 rfl (lv_at hl 1 rfl) ?_
  obtain ⟨g_q1, hf⟩ := ogd hf
  obtain ⟨z2, ez2, hf⟩ := obd hf
  refine r_callVQ (As := [.int p1]) (rest := []) X hw (c_X0_detailAt ez2) (cwV 1 X.1.2.2.2.2 (guV um_X8_178 ui_X0_detailAt us_X0_detailAt un_X0 uo_X0_detailAt) rfl rfl rfl (by decide +kernel) ⟨Nat.le_of_ble_eq_true rfl, Nat.le_of_ble_eq_true rfl⟩) g_q1 (by decide) rfl rfl hl.1 rfl (Nat.le_of_ble_eq_true rfl) dX8_bound_5 ⟨Nat.zero_le _, Nat.zero_le _⟩ (fun H locs hw => ?_)
  obtain ⟨nq3, hf⟩ | ⟨q3, nq3, hf⟩ := omq hf
  · rw [nq3]
    refine lv_astoreN (lv' := [(4, .null), (0, .ref a0), (1, .int p1), (2, .int p2), (3, .int p3)]) X.1.1 X.1.2.1 dX8_bound_8 hl (by decide) rfl (fun ls hl => ?_)
    refine lv_aloadN X.1.1 X.1.2.1 dX8_bound_10 (lv_at hl 0 rfl) ?_
    refine lv_ifnullN (tgt := 38) X.1.1 X.1.2.1 dX8_bound_12 (by decide) ?_
    refine lv_iconst (v := (-1 : Int32)) X.1.1 X.1.2.1 dX8_bound_38 (by decide) ?_
    cases hf
    exact r_retI (v := (-1 : Int32)) X hw hr hlk rfl dX8_bound_39
  · rw [nq3]
    refine lv_astore (lv' := [(4, .ref q3), (0, .ref a0), (1, .int p1), (2, .int p2), (3, .int p3)]) X.1.1 X.1.2.1 dX8_bound_8 hl (by decide) rfl (fun ls hl => ?_)
    refine lv_aload X.1.1 X.1.2.1 dX8_bound_10 (lv_at hl 0 rfl) ?_
    refine lv_ifnull X.1.1 X.1.2.1 dX8_bound_12 ?_
    refine lv_iload_n X.1.1 X.1.2.1 dX8_bound_15 rfl (lv_at hl 3 rfl) ?_
    refine lv_if_le (tgt := 38) X.1.1 X.1.2.1 dX8_bound_16 (by decide) (fun c_4 => ?_) (fun c_4 => ?_)
    · skip
      rw [if_pos c_4] at hf
      refine lv_iconst (v := (-1 : Int32)) X.1.1 X.1.2.1 dX8_bound_38 (by decide) ?_
      cases hf
      exact r_retI (v := (-1 : Int32)) X hw hr hlk rfl dX8_bound_39
    · skip
      rw [if_neg c_4] at hf
      refine lv_iload_n X.1.1 X.1.2.1 dX8_bound_19 rfl (lv_at hl 4 rfl) ?_
      obtain ⟨z5, ez5, hf⟩ := obd hf
      refine r_callSI (As := [.int p3]) (rest := []) X hw (c_X8_isBearsAsTold ez5) (va_cwS 1 X.1.2.2.2.2 (guS um_X8_189 ut_X8_isBearsAsTold un_X8 uo_X8_isBearsAsTold) rfl rfl rfl (by decide +kernel) ⟨Nat.le_of_ble_eq_true rfl, Nat.le_of_ble_eq_true rfl⟩) rfl hl.1 rfl (Nat.le_of_ble_eq_true rfl) dX8_bound_20 ⟨Nat.zero_le _, Nat.zero_le _⟩ (fun H locs hw => ?_)
      refine lv_if_eq (tgt := 38) X.1.1 X.1.2.1 dX8_bound_23 (by decide) (fun c_6 => ?_) (fun c_6 => ?_)
      · skip
        rw [if_pos c_6] at hf
        refine lv_iconst (v := (-1 : Int32)) X.1.1 X.1.2.1 dX8_bound_38 (by decide) ?_
        cases hf
        exact r_retI (v := (-1 : Int32)) X hw hr hlk rfl dX8_bound_39
      · skip
        rw [if_neg c_6] at hf
        refine lv_aload X.1.1 X.1.2.1 dX8_bound_26 (lv_at hl 0 rfl) ?_
        obtain ⟨g_q3, hf⟩ := ogd hf
        obtain ⟨q7, eq7, hf⟩ := odq hf
        refine r_getq (k := 2) (j := 0) X hw rfl inX2 g_q3 rfl (by decide) (by decide) uf_X8_192 rfl dX8_bound_28 eq7 ?_
        refine lv_iload_n X.1.1 X.1.2.1 dX8_bound_31 rfl (lv_at hl 3 rfl) ?_
        obtain ⟨g_q7, hf⟩ := ogd hf
        obtain ⟨z8, ez8, hf⟩ := obd hf
        refine r_callVI (As := [.int p2]) (rest := []) X hw (c_X3_takes ez8) (cwV 1 X.1.2.2.2.2 (guV um_X8_196 ui_X3_takes us_X3_takes un_X3 uo_X3_takes) rfl rfl rfl (by decide +kernel) ⟨Nat.le_of_ble_eq_true rfl, Nat.le_of_ble_eq_true rfl⟩) g_q7 (by decide) rfl rfl hl.1 rfl (Nat.le_of_ble_eq_true rfl) dX8_bound_32 ⟨Nat.zero_le _, Nat.zero_le _⟩ (fun H locs hw => ?_)
        refine lv_if_ne (tgt := 40) X.1.1 X.1.2.1 dX8_bound_35 (by decide) (fun c_9 => ?_) (fun c_9 => ?_)
        · skip
          rw [if_pos c_9] at hf
          refine lv_aload_n X.1.1 X.1.2.1 dX8_bound_40 rfl (lv_at hl 1 rfl) ?_
          refine lv_iload_n X.1.1 X.1.2.1 dX8_bound_41 rfl (lv_at hl 2 rfl) ?_
          refine lv_aload X.1.1 X.1.2.1 dX8_bound_42 (lv_at hl 0 rfl) ?_
          obtain ⟨z10, ez10, hf⟩ := obd hf
          refine r_callVV (As := [.int p1, .ref q3]) (rest := []) X hw (c_X8_keepDetail ez10) (cwV 2 X.1.2.2.2.2 (guV um_X8_182 ui_X8_keepDetail us_X8_keepDetail un_X8 uo_X8_keepDetail) rfl rfl rfl (by decide +kernel) ⟨Nat.le_of_ble_eq_true rfl, Nat.le_of_ble_eq_true rfl⟩) g_a0 (by decide) rfl rfl hl.1 rfl (Nat.le_of_ble_eq_true rfl) dX8_bound_44 ⟨Nat.zero_le _, Nat.zero_le _⟩ (fun H locs hw => ?_)
          refine lv_aload X.1.1 X.1.2.1 dX8_bound_47 (lv_at hl 0 rfl) ?_
          refine r_getq (k := 2) (j := 0) X hw rfl inX2 g_q3 rfl (by decide) (by decide) uf_X8_192 rfl dX8_bound_49 eq7 ?_
          refine lv_iload_n X.1.1 X.1.2.1 dX8_bound_52 rfl (lv_at hl 3 rfl) ?_
          refine lv_iload_n X.1.1 X.1.2.1 dX8_bound_53 rfl (lv_at hl 4 rfl) ?_
          obtain ⟨z11, ez11, hf⟩ := obd hf
          refine r_callVI (As := [.int p2, .int p3]) (rest := []) X hw (c_X3_add ez11) (cwV 2 X.1.2.2.2.2 (guV um_X8_201 ui_X3_add us_X3_add un_X3 uo_X3_add) rfl rfl rfl (by decide +kernel) ⟨Nat.le_of_ble_eq_true rfl, Nat.le_of_ble_eq_true rfl⟩) g_q7 (by decide) rfl rfl hl.1 rfl (Nat.le_of_ble_eq_true rfl) dX8_bound_54 ⟨Nat.zero_le _, Nat.zero_le _⟩ (fun H locs hw => ?_)
          cases hf
          exact r_retI (v := z11.1) X hw hr hlk rfl dX8_bound_57
        · skip
          rw [if_neg (fun z => z c_9)] at hf
          refine lv_iconst (v := (-1 : Int32)) X.1.1 X.1.2.1 dX8_bound_38 (by decide) ?_
          cases hf
          exact r_retI (v := (-1 : Int32)) X hw hr hlk rfl dX8_bound_39
/-! X8_mean -/
def f_X8_mean (h : Hs) (a0 : Nat) (p1 : Int32) (p2 : Int32) (p3 : Int32) (M : Mm) : Option (Int32 × Mm) :=
  gd (ok h a0 8) <|
  dq (zR h a0 1) fun q1 =>
  gd (ok h q1 0) <|
  (f_X0_detailAt h q1 p1 M).bind fun z2 =>
  mq z2
    (
     some ((-1 : Int32), M)
    )
    (fun q3 =>
     (f_X8_isWithin h p3.toInt64 (10 : Int32) (400 : Int32) M).bind fun z4 =>
     if z4 = 0 then
       some ((-1 : Int32), M)
     else
       gd (ok h q3 2) <|
       dq (zR h q3 1) fun q6 =>
       gd (ok h q6 3) <|
       (f_X3_takes h q6 p2 M).bind fun z7 =>
       if ¬ z7 = 0 then
         (f_X8_keepDetail h a0 p1 q3 M).bind fun z9 =>
         (f_X3_add h q6 p2 p3 z9).bind fun z10 =>
         some (z10.1, z10.2)
       else
         some ((-1 : Int32), M)
    )
set_option maxHeartbeats 4000000 in
set_option maxRecDepth 100000 in
theorem c_X8_mean {l : Launch} {D : va_G} {cy : Nat → ClassId} {h : Hs} {a0 : Nat} {p1 : Int32} {p2 : Int32} {p3 : Int32} {M : Mm} {z : (Int32 × Mm)} (hf : f_X8_mean h a0 p1 p2 p3 M = some z) : CtI l D cy yX8_mean (wu yX8_mean cX8_mean 5 (some .int)) ({ frames := 4, cells := 0, slots := 0, locals := 86 }) [.ref a0, .int p1, .int p2, .int p3] h M z.1 z.2 := by
  refine enterI (cc := cX8_mean) (maxL := 5) (ret := (some .int)) (by decide) (Nat.le_of_ble_eq_true rfl) ?_
  intro p e s m args below meth c A ls X hw hr hlk hl
  have hl : lv_has ls 5 [(0, .ref a0), (1, .int p1), (2, .int p2), (3, .int p3)] := hl
  unfold f_X8_mean at hf
  refine lv_aload_n X.1.1 X.1.2.1 dX8_mean_0 rfl (lv_at hl 0 rfl) ?_
  obtain ⟨g_a0, hf⟩ := ogd hf
  obtain ⟨q1, eq1, hf⟩ := odq hf
  refine r_getq (k := 8) (j := 1) X hw rfl inX8 g_a0 rfl (by decide) (by decide) uf_X8_19 rfl dX8_mean_1 eq1 ?_
  refine lv_iload_n X.1.1 X.1.2.1 dX8_mean_4 rfl (lv_at hl 1 rfl) ?_
  obtain ⟨g_q1, hf⟩ := ogd hf
  obtain ⟨z2, ez2, hf⟩ := obd hf
  refine r_callVQ (As := [.int p1]) (rest := []) X hw (c_X0_detailAt ez2) (cwV 1 X.1.2.2.2.2 (guV um_X8_178 ui_X0_detailAt us_X0_detailAt un_X0 uo_X0_detailAt) rfl rfl rfl (by decide +kernel) ⟨Nat.le_of_ble_eq_true rfl, Nat.le_of_ble_eq_true rfl⟩) g_q1 (by decide) rfl rfl hl.1 rfl (Nat.le_of_ble_eq_true rfl) dX8_mean_5 ⟨Nat.zero_le _, Nat.zero_le _⟩ (fun H locs hw => ?_)
  obtain ⟨nq3, hf⟩ | ⟨q3, nq3, hf⟩ := omq hf
  · rw [nq3]
    refine lv_astoreN (lv' := [(4, .null), (0, .ref a0), (1, .int p1), (2, .int p2), (3, .int p3)]) X.1.1 X.1.2.1 dX8_mean_8 hl (by decide) rfl (fun ls hl => ?_)
    refine lv_aloadN X.1.1 X.1.2.1 dX8_mean_10 (lv_at hl 0 rfl) ?_
    refine lv_ifnullN (tgt := 40) X.1.1 X.1.2.1 dX8_mean_12 (by decide) ?_
    refine lv_iconst (v := (-1 : Int32)) X.1.1 X.1.2.1 dX8_mean_40 (by decide) ?_
    cases hf
    exact r_retI (v := (-1 : Int32)) X hw hr hlk rfl dX8_mean_41
  · rw [nq3]
    refine lv_astore (lv' := [(4, .ref q3), (0, .ref a0), (1, .int p1), (2, .int p2), (3, .int p3)]) X.1.1 X.1.2.1 dX8_mean_8 hl (by decide) rfl (fun ls hl => ?_)
    refine lv_aload X.1.1 X.1.2.1 dX8_mean_10 (lv_at hl 0 rfl) ?_
    refine lv_ifnull X.1.1 X.1.2.1 dX8_mean_12 ?_
    refine lv_iload_n X.1.1 X.1.2.1 dX8_mean_15 rfl (lv_at hl 4 rfl) ?_
    refine lv_i2l X.1.1 X.1.2.1 dX8_mean_16 rfl ?_
    refine lv_bipush (v := (10 : Int32)) X.1.1 X.1.2.1 dX8_mean_17 (by decide) ?_
    refine lv_sipush (v := (400 : Int32)) X.1.1 X.1.2.1 dX8_mean_19 (by decide) ?_
    obtain ⟨z4, ez4, hf⟩ := obd hf
    refine r_callSI (As := [.long p3.toInt64, .int (10 : Int32), .int (400 : Int32)]) (rest := []) X hw (c_X8_isWithin ez4) (va_cwS 3 X.1.2.2.2.2 (guS um_X8_110 ut_X8_isWithin un_X8 uo_X8_isWithin) rfl rfl rfl (by decide +kernel) ⟨Nat.le_of_ble_eq_true rfl, Nat.le_of_ble_eq_true rfl⟩) rfl hl.1 rfl (Nat.le_of_ble_eq_true rfl) dX8_mean_22 ⟨Nat.zero_le _, Nat.zero_le _⟩ (fun H locs hw => ?_)
    refine lv_if_eq (tgt := 40) X.1.1 X.1.2.1 dX8_mean_25 (by decide) (fun c_5 => ?_) (fun c_5 => ?_)
    · skip
      rw [if_pos c_5] at hf
      refine lv_iconst (v := (-1 : Int32)) X.1.1 X.1.2.1 dX8_mean_40 (by decide) ?_
      cases hf
      exact r_retI (v := (-1 : Int32)) X hw hr hlk rfl dX8_mean_41
    · skip
      rw [if_neg c_5] at hf
      refine lv_aload X.1.1 X.1.2.1 dX8_mean_28 (lv_at hl 0 rfl) ?_
      obtain ⟨g_q3, hf⟩ := ogd hf
      obtain ⟨q6, eq6, hf⟩ := odq hf
      refine r_getq (k := 2) (j := 1) X hw rfl inX2 g_q3 rfl (by decide) (by decide) uf_X8_204 rfl dX8_mean_30 eq6 ?_
      refine lv_iload_n X.1.1 X.1.2.1 dX8_mean_33 rfl (lv_at hl 3 rfl) ?_
      obtain ⟨g_q6, hf⟩ := ogd hf
      obtain ⟨z7, ez7, hf⟩ := obd hf
      refine r_callVI (As := [.int p2]) (rest := []) X hw (c_X3_takes ez7) (cwV 1 X.1.2.2.2.2 (guV um_X8_196 ui_X3_takes us_X3_takes un_X3 uo_X3_takes) rfl rfl rfl (by decide +kernel) ⟨Nat.le_of_ble_eq_true rfl, Nat.le_of_ble_eq_true rfl⟩) g_q6 (by decide) rfl rfl hl.1 rfl (Nat.le_of_ble_eq_true rfl) dX8_mean_34 ⟨Nat.zero_le _, Nat.zero_le _⟩ (fun H locs hw => ?_)
      refine lv_if_ne (tgt := 42) X.1.1 X.1.2.1 dX8_mean_37 (by decide) (fun c_8 => ?_) (fun c_8 => ?_)
      · skip
        rw [if_pos c_8] at hf
        refine lv_aload_n X.1.1 X.1.2.1 dX8_mean_42 rfl (lv_at hl 1 rfl) ?_
        refine lv_iload_n X.1.1 X.1.2.1 dX8_mean_43 rfl (lv_at hl 2 rfl) ?_
        refine lv_aload X.1.1 X.1.2.1 dX8_mean_44 (lv_at hl 0 rfl) ?_
        obtain ⟨z9, ez9, hf⟩ := obd hf
        refine r_callVV (As := [.int p1, .ref q3]) (rest := []) X hw (c_X8_keepDetail ez9) (cwV 2 X.1.2.2.2.2 (guV um_X8_182 ui_X8_keepDetail us_X8_keepDetail un_X8 uo_X8_keepDetail) rfl rfl rfl (by decide +kernel) ⟨Nat.le_of_ble_eq_true rfl, Nat.le_of_ble_eq_true rfl⟩) g_a0 (by decide) rfl rfl hl.1 rfl (Nat.le_of_ble_eq_true rfl) dX8_mean_46 ⟨Nat.zero_le _, Nat.zero_le _⟩ (fun H locs hw => ?_)
        refine lv_aload X.1.1 X.1.2.1 dX8_mean_49 (lv_at hl 0 rfl) ?_
        refine r_getq (k := 2) (j := 1) X hw rfl inX2 g_q3 rfl (by decide) (by decide) uf_X8_204 rfl dX8_mean_51 eq6 ?_
        refine lv_iload_n X.1.1 X.1.2.1 dX8_mean_54 rfl (lv_at hl 3 rfl) ?_
        refine lv_iload_n X.1.1 X.1.2.1 dX8_mean_55 rfl (lv_at hl 4 rfl) ?_
        obtain ⟨z10, ez10, hf⟩ := obd hf
        refine r_callVI (As := [.int p2, .int p3]) (rest := []) X hw (c_X3_add ez10) (cwV 2 X.1.2.2.2.2 (guV um_X8_201 ui_X3_add us_X3_add un_X3 uo_X3_add) rfl rfl rfl (by decide +kernel) ⟨Nat.le_of_ble_eq_true rfl, Nat.le_of_ble_eq_true rfl⟩) g_q6 (by decide) rfl rfl hl.1 rfl (Nat.le_of_ble_eq_true rfl) dX8_mean_56 ⟨Nat.zero_le _, Nat.zero_le _⟩ (fun H locs hw => ?_)
        cases hf
        exact r_retI (v := z10.1) X hw hr hlk rfl dX8_mean_59
      · skip
        rw [if_neg (fun z => z c_8)] at hf
        refine lv_iconst (v := (-1 : Int32)) X.1.1 X.1.2.1 dX8_mean_40 (by decide) ?_
        cases hf
        exact r_retI (v := (-1 : Int32)) X hw hr hlk rfl dX8_mean_41
/-! X8_limit -/
def f_X8_limit (h : Hs) (a0 : Nat) (p1 : Int32) (p2 : Int32) (M : Mm) : Option (Int32 × Mm) :=
  gd (ok h a0 8) <|
  dq (zR h a0 1) fun q1 =>
  gd (ok h q1 0) <|
  (f_X0_detailAt h q1 p1 M).bind fun z2 =>
  mq z2
    (
     some ((0 : Int32), M)
    )
    (fun q3 =>
     (f_X8_isWithin h p2.toInt64 (0 : Int32) (4000000 : Int32) M).bind fun z4 =>
     if ¬ z4 = 0 then
       (f_X8_keepDetail h a0 p1 q3 M).bind fun z6 =>
       gd (ok h q3 2) <|
       lt_ (sI z6 q3 5 p2) fun M7 =>
       some ((1 : Int32), M7)
     else
       some ((0 : Int32), M)
    )
set_option maxHeartbeats 4000000 in
set_option maxRecDepth 100000 in
theorem c_X8_limit {l : Launch} {D : va_G} {cy : Nat → ClassId} {h : Hs} {a0 : Nat} {p1 : Int32} {p2 : Int32} {M : Mm} {z : (Int32 × Mm)} (hf : f_X8_limit h a0 p1 p2 M = some z) : CtI l D cy yX8_limit (wu yX8_limit cX8_limit 4 (some .boolean)) ({ frames := 4, cells := 0, slots := 0, locals := 86 }) [.ref a0, .int p1, .int p2] h M z.1 z.2 := by
  refine enterI (cc := cX8_limit) (maxL := 4) (ret := (some .boolean)) (by decide) (Nat.le_of_ble_eq_true rfl) ?_
  intro p e s m args below meth c A ls X hw hr hlk hl
  have hl : lv_has ls 4 [(0, .ref a0), (1, .int p1), (2, .int p2)] := hl
  unfold f_X8_limit at hf
  refine lv_aload_n X.1.1 X.1.2.1 dX8_limit_0 rfl (lv_at hl 0 rfl) ?_
  obtain ⟨g_a0, hf⟩ := ogd hf
  obtain ⟨q1, eq1, hf⟩ := odq hf
  refine r_getq (k := 8) (j := 1) X hw rfl inX8 g_a0 rfl (by decide) (by decide) uf_X8_19 rfl dX8_limit_1 eq1 ?_
  refine lv_iload_n X.1.1 X.1.2.1 dX8_limit_4 rfl (lv_at hl 1 rfl) ?_
  obtain ⟨g_q1, hf⟩ := ogd hf
  obtain ⟨z2, ez2, hf⟩ := obd hf
  refine r_callVQ (As := [.int p1]) (rest := []) X hw (c_X0_detailAt ez2) (cwV 1 X.1.2.2.2.2 (guV um_X8_178 ui_X0_detailAt us_X0_detailAt un_X0 uo_X0_detailAt) rfl rfl rfl (by decide +kernel) ⟨Nat.le_of_ble_eq_true rfl, Nat.le_of_ble_eq_true rfl⟩) g_q1 (by decide) rfl rfl hl.1 rfl (Nat.le_of_ble_eq_true rfl) dX8_limit_5 ⟨Nat.zero_le _, Nat.zero_le _⟩ (fun H locs hw => ?_)
  obtain ⟨nq3, hf⟩ | ⟨q3, nq3, hf⟩ := omq hf
  · rw [nq3]
    refine lv_astore_nN (lv' := [(3, .null), (0, .ref a0), (1, .int p1), (2, .int p2)]) X.1.1 X.1.2.1 dX8_limit_8 rfl hl (by decide) rfl (fun ls hl => ?_)
    refine lv_aload_nN X.1.1 X.1.2.1 dX8_limit_9 rfl (lv_at hl 0 rfl) ?_
    refine lv_ifnullN (tgt := 24) X.1.1 X.1.2.1 dX8_limit_10 (by decide) ?_
    refine lv_iconst (v := (0 : Int32)) X.1.1 X.1.2.1 dX8_limit_24 (by decide) ?_
    cases hf
    exact r_retI (v := (0 : Int32)) X hw hr hlk rfl dX8_limit_25
  · rw [nq3]
    refine lv_astore_n (lv' := [(3, .ref q3), (0, .ref a0), (1, .int p1), (2, .int p2)]) X.1.1 X.1.2.1 dX8_limit_8 rfl hl (by decide) rfl (fun ls hl => ?_)
    refine lv_aload_n X.1.1 X.1.2.1 dX8_limit_9 rfl (lv_at hl 0 rfl) ?_
    refine lv_ifnull X.1.1 X.1.2.1 dX8_limit_10 ?_
    refine lv_iload_n X.1.1 X.1.2.1 dX8_limit_13 rfl (lv_at hl 3 rfl) ?_
    refine lv_i2l X.1.1 X.1.2.1 dX8_limit_14 rfl ?_
    refine lv_iconst (v := (0 : Int32)) X.1.1 X.1.2.1 dX8_limit_15 (by decide) ?_
    refine lv_ldc (v := (4000000 : Int32)) X.1.1 X.1.2.1 X.1.2.2.2.1 (X.1.2.2.2.2 _ uc_X8_207) dX8_limit_16 ?_
    obtain ⟨z4, ez4, hf⟩ := obd hf
    refine r_callSI (As := [.long p2.toInt64, .int (0 : Int32), .int (4000000 : Int32)]) (rest := []) X hw (c_X8_isWithin ez4) (va_cwS 3 X.1.2.2.2.2 (guS um_X8_110 ut_X8_isWithin un_X8 uo_X8_isWithin) rfl rfl rfl (by decide +kernel) ⟨Nat.le_of_ble_eq_true rfl, Nat.le_of_ble_eq_true rfl⟩) rfl hl.1 rfl (Nat.le_of_ble_eq_true rfl) dX8_limit_18 ⟨Nat.zero_le _, Nat.zero_le _⟩ (fun H locs hw => ?_)
    refine lv_if_ne (tgt := 26) X.1.1 X.1.2.1 dX8_limit_21 (by decide) (fun c_5 => ?_) (fun c_5 => ?_)
    · skip
      rw [if_pos c_5] at hf
      refine lv_aload_n X.1.1 X.1.2.1 dX8_limit_26 rfl (lv_at hl 1 rfl) ?_
      refine lv_iload_n X.1.1 X.1.2.1 dX8_limit_27 rfl (lv_at hl 2 rfl) ?_
      refine lv_aload_n X.1.1 X.1.2.1 dX8_limit_28 rfl (lv_at hl 0 rfl) ?_
      obtain ⟨z6, ez6, hf⟩ := obd hf
      refine r_callVV (As := [.int p1, .ref q3]) (rest := []) X hw (c_X8_keepDetail ez6) (cwV 2 X.1.2.2.2.2 (guV um_X8_182 ui_X8_keepDetail us_X8_keepDetail un_X8 uo_X8_keepDetail) rfl rfl rfl (by decide +kernel) ⟨Nat.le_of_ble_eq_true rfl, Nat.le_of_ble_eq_true rfl⟩) g_a0 (by decide) rfl rfl hl.1 rfl (Nat.le_of_ble_eq_true rfl) dX8_limit_29 ⟨Nat.zero_le _, Nat.zero_le _⟩ (fun H locs hw => ?_)
      refine lv_aload_n X.1.1 X.1.2.1 dX8_limit_32 rfl (lv_at hl 0 rfl) ?_
      refine lv_iload_n X.1.1 X.1.2.1 dX8_limit_33 rfl (lv_at hl 3 rfl) ?_
      obtain ⟨g_q3, hf⟩ := ogd hf
      refine r_puti (k := 2) (j := 5) X hw rfl inX2 tyX2_ok nmX2 g_q3 rfl (by decide) (by decide) uf_X8_208 rfl rfl rfl rfl dX8_limit_34 (fun H locs hw => ?_)
      obtain ⟨M7, eM7, hf⟩ := olt hf
      rw [← eM7] at hw
      refine lv_iconst (v := (1 : Int32)) X.1.1 X.1.2.1 dX8_limit_37 (by decide) ?_
      cases hf
      exact r_retI (v := (1 : Int32)) X hw hr hlk rfl dX8_limit_38
    · skip
      rw [if_neg (fun z => z c_5)] at hf
      refine lv_iconst (v := (0 : Int32)) X.1.1 X.1.2.1 dX8_limit_24 (by decide) ?_
      cases hf
      exact r_retI (v := (0 : Int32)) X hw hr hlk rfl dX8_limit_25
