/-! X9_turn -/
def f_X9_turn (h : Hs) (a0 : Nat) (p1 : Int32) (p2 : Int32) (p3 : Int32) (M : Mm) : Option (Int32 × Mm) :=
  gd (ok h a0 9) <|
  (f_X9_isGauge h a0 p1 M).bind fun z1 =>
  Option.bind (
    if z1 = 0 then
      some (1 : Int32)
    else
      if p2 < 0 then
        some (1 : Int32)
      else
        if (1 : Int32) < p2 then
          some (1 : Int32)
        else
          if 0 ≤ p3 then
            some (0 : Int32)
          else
            some (1 : Int32)
    ) fun y6 =>
  (f_X9_throwsIf h a0 y6 M).bind fun z7 =>
  if z7.1 = 0 then
    (f_X9_look h a0 p1 (0 : Int32) z7.2).bind fun z9 =>
    Option.bind (
      if ¬ p2 = 0 then
        some (zI z9 a0 19)
      else
        some (zI z9 a0 12)
      ) fun y11 =>
    Option.bind (
      if p3 < y11 then
        some (0 : Int32)
      else
        some (1 : Int32)
      ) fun y13 =>
    (f_X9_throwsIf h a0 y13 z9).bind fun z14 =>
    if z14.1 = 0 then
      if ¬ p2 = 0 then
        dq (zR h a0 18) fun q17 =>
        gd (ok h q17 11) <|
        gd (inb p3 (zN h q17)) <|
        some (zI z14.2 q17 p3.toNatClampNeg, z14.2)
      else
        dq (zR h a0 9) fun q19 =>
        gd (ok h q19 11) <|
        gd (inb p3 (zN h q19)) <|
        some (zI z14.2 q19 p3.toNatClampNeg, z14.2)
    else
      some ((0 : Int32), z14.2)
  else
    some ((0 : Int32), z7.2)
set_option maxHeartbeats 4000000 in
set_option maxRecDepth 100000 in
theorem c_X9_turn {l : Launch} {D : va_G} {cy : Nat → ClassId} {h : Hs} {a0 : Nat} {p1 : Int32} {p2 : Int32} {p3 : Int32} {M : Mm} {z : (Int32 × Mm)} (hf : f_X9_turn h a0 p1 p2 p3 M = some z) : CtI l D cy yX9_turn (wu yX9_turn cX9_turn 4 (some .int)) ({ frames := 6, cells := 0, slots := 0, locals := 142 }) [.ref a0, .int p1, .int p2, .int p3] h M z.1 z.2 := by
  refine enterI (cc := cX9_turn) (maxL := 4) (ret := (some .int)) (by decide) (Nat.le_of_ble_eq_true rfl) ?_
  intro p e s m args below meth c A ls X hw hr hlk hl
  have hl : lv_has ls 4 [(0, .ref a0), (1, .int p1), (2, .int p2), (3, .int p3)] := hl
  unfold f_X9_turn at hf
  refine lv_aload_n X.1.1 X.1.2.1 dX9_turn_0 rfl (lv_at hl 0 rfl) ?_
  refine lv_aload_n X.1.1 X.1.2.1 dX9_turn_1 rfl (lv_at hl 0 rfl) ?_
  refine lv_iload_n X.1.1 X.1.2.1 dX9_turn_2 rfl (lv_at hl 1 rfl) ?_
  obtain ⟨g_a0, hf⟩ := ogd hf
  obtain ⟨z1, ez1, hf⟩ := obd hf
  refine r_callVI (As := [.int p1]) (rest := [.ref a0]) X hw (c_X9_isGauge ez1) (cwV 1 X.1.2.2.2.2 (guV um_X9_154 ui_X9_isGauge us_X9_isGauge un_X9 uo_X9_isGauge) rfl rfl rfl (by decide +kernel) ⟨Nat.le_of_ble_eq_true rfl, Nat.le_of_ble_eq_true rfl⟩) g_a0 (by decide) rfl rfl hl.1 rfl (Nat.le_of_ble_eq_true rfl) dX9_turn_3 ⟨Nat.zero_le _, Nat.zero_le _⟩ (fun H locs hw => ?_)
  obtain ⟨y6, ey6, hf⟩ := obd hf
  have Jy6 : ∀ (H : Heap) (locs : List Loc) (ls : Array Slot), Wd D cy A s.heap h M H locs → lv_has ls 4 [(0, .ref a0), (1, .int p1), (2, .int p2), (3, .int p3)] → W p l e ({ frames := 6, cells := 0, slots := 0, locals := 142 } : Room) s m args below meth c H locs 0 0 (QI below D cy A h args s z.1 z.2) (F0 m 27 ls [.int y6, .ref a0]) := by
    intro H locs ls hw hl
    obtain ⟨z7, ez7, hf⟩ := obd hf
    refine r_callVI (As := [.int y6]) (rest := []) X hw (c_X9_throwsIf ez7) (cwV 1 X.1.2.2.2.2 (guV um_X9_160 ui_X9_throwsIf us_X9_throwsIf un_X9 uo_X9_throwsIf) rfl rfl rfl (by decide +kernel) ⟨Nat.le_of_ble_eq_true rfl, Nat.le_of_ble_eq_true rfl⟩) g_a0 (by decide) rfl rfl hl.1 rfl (Nat.le_of_ble_eq_true rfl) dX9_turn_27 ⟨Nat.zero_le _, Nat.zero_le _⟩ (fun H locs hw => ?_)
    refine lv_if_eq (tgt := 35) X.1.1 X.1.2.1 dX9_turn_30 (by decide) (fun c_8 => ?_) (fun c_8 => ?_)
    · skip
      rw [if_pos c_8] at hf
      refine lv_aload_n X.1.1 X.1.2.1 dX9_turn_35 rfl (lv_at hl 0 rfl) ?_
      refine lv_iload_n X.1.1 X.1.2.1 dX9_turn_36 rfl (lv_at hl 1 rfl) ?_
      refine lv_iconst (v := (0 : Int32)) X.1.1 X.1.2.1 dX9_turn_37 (by decide) ?_
      obtain ⟨z9, ez9, hf⟩ := obd hf
      refine r_callVV (As := [.int p1, .int (0 : Int32)]) (rest := []) X hw (c_X9_look ez9) (cwV 2 X.1.2.2.2.2 (guV um_X9_157 ui_X9_look us_X9_look un_X9 uo_X9_look) rfl rfl rfl (by decide +kernel) ⟨Nat.le_of_ble_eq_true rfl, Nat.le_of_ble_eq_true rfl⟩) g_a0 (by decide) rfl rfl hl.1 rfl (Nat.le_of_ble_eq_true rfl) dX9_turn_38 ⟨Nat.zero_le _, Nat.zero_le _⟩ (fun H locs hw => ?_)
      refine lv_aload_n X.1.1 X.1.2.1 dX9_turn_41 rfl (lv_at hl 0 rfl) ?_
      refine lv_iload_n X.1.1 X.1.2.1 dX9_turn_42 rfl (lv_at hl 3 rfl) ?_
      refine lv_iload_n X.1.1 X.1.2.1 dX9_turn_43 rfl (lv_at hl 2 rfl) ?_
      obtain ⟨y11, ey11, hf⟩ := obd hf
      have Jy11 : ∀ (H : Heap) (locs : List Loc) (ls : Array Slot), Wd D cy A s.heap h z9 H locs → lv_has ls 4 [(0, .ref a0), (2, .int p2), (3, .int p3)] → W p l e ({ frames := 6, cells := 0, slots := 0, locals := 142 } : Room) s m args below meth c H locs 0 0 (QI below D cy A h args s z.1 z.2) (F0 m 58 ls [.int y11, .int p3, .ref a0]) := by
        intro H locs ls hw hl
        obtain ⟨y13, ey13, hf⟩ := obd hf
        have Jy13 : ∀ (H : Heap) (locs : List Loc) (ls : Array Slot), Wd D cy A s.heap h z9 H locs → lv_has ls 4 [(0, .ref a0), (2, .int p2), (3, .int p3)] → W p l e ({ frames := 6, cells := 0, slots := 0, locals := 142 } : Room) s m args below meth c H locs 0 0 (QI below D cy A h args s z.1 z.2) (F0 m 66 ls [.int y13, .ref a0]) := by
          intro H locs ls hw hl
          obtain ⟨z14, ez14, hf⟩ := obd hf
          refine r_callVI (As := [.int y13]) (rest := []) X hw (c_X9_throwsIf ez14) (cwV 1 X.1.2.2.2.2 (guV um_X9_160 ui_X9_throwsIf us_X9_throwsIf un_X9 uo_X9_throwsIf) rfl rfl rfl (by decide +kernel) ⟨Nat.le_of_ble_eq_true rfl, Nat.le_of_ble_eq_true rfl⟩) g_a0 (by decide) rfl rfl hl.1 rfl (Nat.le_of_ble_eq_true rfl) dX9_turn_66 ⟨Nat.zero_le _, Nat.zero_le _⟩ (fun H locs hw => ?_)
          refine lv_if_eq (tgt := 74) X.1.1 X.1.2.1 dX9_turn_69 (by decide) (fun c_15 => ?_) (fun c_15 => ?_)
          · skip
            rw [if_pos c_15] at hf
            refine lv_iload_n X.1.1 X.1.2.1 dX9_turn_74 rfl (lv_at hl 1 rfl) ?_
            refine lv_if_ne (tgt := 87) X.1.1 X.1.2.1 dX9_turn_75 (by decide) (fun c_16 => ?_) (fun c_16 => ?_)
            · skip
              rw [if_pos c_16] at hf
              refine lv_aload_n X.1.1 X.1.2.1 dX9_turn_87 rfl (lv_at hl 0 rfl) ?_
              obtain ⟨q17, eq17, hf⟩ := odq hf
              refine r_getq (k := 9) (j := 18) X hw rfl inX9 g_a0 rfl (by decide) (by decide) uf_X9_49 rfl dX9_turn_88 eq17 ?_
              refine lv_iload_n X.1.1 X.1.2.1 dX9_turn_91 rfl (lv_at hl 2 rfl) ?_
              obtain ⟨g_q17, hf⟩ := ogd hf
              obtain ⟨i_18, hf⟩ := ogd hf
              refine r_iald X hw g_q17 i_18 dX9_turn_92 ?_
              cases hf
              exact r_retI (v := zI z14.2 q17 p3.toNatClampNeg) X hw hr hlk rfl dX9_turn_93
            · skip
              rw [if_neg (fun z => z c_16)] at hf
              refine lv_aload_n X.1.1 X.1.2.1 dX9_turn_78 rfl (lv_at hl 0 rfl) ?_
              obtain ⟨q19, eq19, hf⟩ := odq hf
              refine r_getq (k := 9) (j := 9) X hw rfl inX9 g_a0 rfl (by decide) (by decide) uf_X9_30 rfl dX9_turn_79 eq19 ?_
              refine lv_iload_n X.1.1 X.1.2.1 dX9_turn_82 rfl (lv_at hl 2 rfl) ?_
              obtain ⟨g_q19, hf⟩ := ogd hf
              obtain ⟨i_20, hf⟩ := ogd hf
              refine r_iald X hw g_q19 i_20 dX9_turn_83 ?_
              refine lv_goto (tgt := 93) X.1.1 X.1.2.1 dX9_turn_84 (by decide) ?_
              cases hf
              exact r_retI (v := zI z14.2 q19 p3.toNatClampNeg) X hw hr hlk rfl dX9_turn_93
          · skip
            rw [if_neg c_15] at hf
            refine lv_iconst (v := (0 : Int32)) X.1.1 X.1.2.1 dX9_turn_72 (by decide) ?_
            cases hf
            exact r_retI (v := (0 : Int32)) X hw hr hlk rfl dX9_turn_73
        clear hf
        have hf := ey13
        clear ey13
        refine lv_icmp_lt (tgt := 65) X.1.1 X.1.2.1 dX9_turn_58 (by decide) (fun c_12 => ?_) (fun c_12 => ?_)
        · skip
          rw [if_pos c_12] at hf
          refine lv_iconst (v := (0 : Int32)) X.1.1 X.1.2.1 dX9_turn_65 (by decide) ?_
          cases hf
          exact Jy13 _ _ _ hw (lv_sub hl [0, 1, 2] rfl)
        · skip
          rw [if_neg c_12] at hf
          refine lv_iconst (v := (1 : Int32)) X.1.1 X.1.2.1 dX9_turn_61 (by decide) ?_
          refine lv_goto (tgt := 66) X.1.1 X.1.2.1 dX9_turn_62 (by decide) ?_
          cases hf
          exact Jy13 _ _ _ hw (lv_sub hl [0, 1, 2] rfl)
      clear hf
      have hf := ey11
      clear ey11
      refine lv_if_ne (tgt := 54) X.1.1 X.1.2.1 dX9_turn_44 (by decide) (fun c_10 => ?_) (fun c_10 => ?_)
      · skip
        rw [if_pos c_10] at hf
        refine lv_aload_n X.1.1 X.1.2.1 dX9_turn_54 rfl (lv_at hl 0 rfl) ?_
        refine r_geti (k := 9) (j := 19) X hw rfl inX9 g_a0 rfl (by decide) (by decide) uf_X9_151 rfl dX9_turn_55 ?_
        cases hf
        exact Jy11 _ _ _ hw (lv_sub hl [0, 2, 3] rfl)
      · skip
        rw [if_neg (fun z => z c_10)] at hf
        refine lv_aload_n X.1.1 X.1.2.1 dX9_turn_47 rfl (lv_at hl 0 rfl) ?_
        refine r_geti (k := 9) (j := 12) X hw rfl inX9 g_a0 rfl (by decide) (by decide) uf_X9_138 rfl dX9_turn_48 ?_
        refine lv_goto (tgt := 58) X.1.1 X.1.2.1 dX9_turn_51 (by decide) ?_
        cases hf
        exact Jy11 _ _ _ hw (lv_sub hl [0, 2, 3] rfl)
    · skip
      rw [if_neg c_8] at hf
      refine lv_iconst (v := (0 : Int32)) X.1.1 X.1.2.1 dX9_turn_33 (by decide) ?_
      cases hf
      exact r_retI (v := (0 : Int32)) X hw hr hlk rfl dX9_turn_34
  clear hf
  have hf := ey6
  clear ey6
  refine lv_if_eq (tgt := 22) X.1.1 X.1.2.1 dX9_turn_6 (by decide) (fun c_2 => ?_) (fun c_2 => ?_)
  · skip
    rw [if_pos c_2] at hf
    refine lv_iconst (v := (1 : Int32)) X.1.1 X.1.2.1 dX9_turn_22 (by decide) ?_
    refine lv_goto (tgt := 27) X.1.1 X.1.2.1 dX9_turn_23 (by decide) ?_
    cases hf
    exact Jy6 _ _ _ hw (lv_sub hl [0, 1, 2, 3] rfl)
  · skip
    rw [if_neg c_2] at hf
    refine lv_iload_n X.1.1 X.1.2.1 dX9_turn_9 rfl (lv_at hl 2 rfl) ?_
    refine lv_if_lt (tgt := 22) X.1.1 X.1.2.1 dX9_turn_10 (by decide) (fun c_3 => ?_) (fun c_3 => ?_)
    · skip
      rw [if_pos c_3] at hf
      refine lv_iconst (v := (1 : Int32)) X.1.1 X.1.2.1 dX9_turn_22 (by decide) ?_
      refine lv_goto (tgt := 27) X.1.1 X.1.2.1 dX9_turn_23 (by decide) ?_
      cases hf
      exact Jy6 _ _ _ hw (lv_sub hl [0, 1, 2, 3] rfl)
    · skip
      rw [if_neg c_3] at hf
      refine lv_iload_n X.1.1 X.1.2.1 dX9_turn_13 rfl (lv_at hl 2 rfl) ?_
      refine lv_iconst (v := (1 : Int32)) X.1.1 X.1.2.1 dX9_turn_14 (by decide) ?_
      refine lv_icmp_gt (tgt := 22) X.1.1 X.1.2.1 dX9_turn_15 (by decide) (fun c_4 => ?_) (fun c_4 => ?_)
      · skip
        rw [if_pos c_4] at hf
        refine lv_iconst (v := (1 : Int32)) X.1.1 X.1.2.1 dX9_turn_22 (by decide) ?_
        refine lv_goto (tgt := 27) X.1.1 X.1.2.1 dX9_turn_23 (by decide) ?_
        cases hf
        exact Jy6 _ _ _ hw (lv_sub hl [0, 1, 2, 3] rfl)
      · skip
        rw [if_neg c_4] at hf
        refine lv_iload_n X.1.1 X.1.2.1 dX9_turn_18 rfl (lv_at hl 3 rfl) ?_
        refine lv_if_ge (tgt := 26) X.1.1 X.1.2.1 dX9_turn_19 (by decide) (fun c_5 => ?_) (fun c_5 => ?_)
        · skip
          rw [if_pos c_5] at hf
          refine lv_iconst (v := (0 : Int32)) X.1.1 X.1.2.1 dX9_turn_26 (by decide) ?_
          cases hf
          exact Jy6 _ _ _ hw (lv_sub hl [0, 1, 2, 3] rfl)
        · skip
          rw [if_neg c_5] at hf
          refine lv_iconst (v := (1 : Int32)) X.1.1 X.1.2.1 dX9_turn_22 (by decide) ?_
          refine lv_goto (tgt := 27) X.1.1 X.1.2.1 dX9_turn_23 (by decide) ?_
          cases hf
          exact Jy6 _ _ _ hw (lv_sub hl [0, 1, 2, 3] rfl)
/-! X9_rangeOf -/
def f_X9_rangeOf (h : Hs) (a0 : Nat) (p1 : Int32) (M : Mm) : Option Int32 :=
  gd (ok h a0 9) <|
  dq (zR h a0 9) fun q1 =>
  dq (zR h a0 13) fun q2 =>
  gd (ok h q2 11) <|
  gd (inb p1 (zN h q2)) <|
  gd (ok h q1 11) <|
  gd (inb (zI M q2 p1.toNatClampNeg) (zN h q1)) <|
  lt_ (zI M q1 (zI M q2 p1.toNatClampNeg).toNatClampNeg) fun x5 =>
  dq (zR h a0 14) fun q6 =>
  gd (ok h q6 11) <|
  gd (inb p1 (zN h q6)) <|
  gd (inb (zI M q6 p1.toNatClampNeg) (zN h q1)) <|
  lt_ (zI M q1 (zI M q6 p1.toNatClampNeg).toNatClampNeg) fun x9 =>
  if x5 ≤ x9 then
    some (x9 - x5)
  else
    some (x5 - x9)
set_option maxHeartbeats 4000000 in
set_option maxRecDepth 100000 in
theorem c_X9_rangeOf {l : Launch} {D : va_G} {cy : Nat → ClassId} {h : Hs} {a0 : Nat} {p1 : Int32} {M : Mm} {z : Int32} (hf : f_X9_rangeOf h a0 p1 M = some z) : CtI l D cy yX9_rangeOf (wu yX9_rangeOf cX9_rangeOf 4 (some .int)) ({ frames := 0, cells := 0, slots := 0, locals := 0 }) [.ref a0, .int p1] h M z M := by
  refine enterI (cc := cX9_rangeOf) (maxL := 4) (ret := (some .int)) (by decide) (Nat.le_of_ble_eq_true rfl) ?_
  intro p e s m args below meth c A ls X hw hr hlk hl
  have hl : lv_has ls 4 [(0, .ref a0), (1, .int p1)] := hl
  unfold f_X9_rangeOf at hf
  refine lv_aload_n X.1.1 X.1.2.1 dX9_rangeOf_0 rfl (lv_at hl 0 rfl) ?_
  obtain ⟨g_a0, hf⟩ := ogd hf
  obtain ⟨q1, eq1, hf⟩ := odq hf
  refine r_getq (k := 9) (j := 9) X hw rfl inX9 g_a0 rfl (by decide) (by decide) uf_X9_30 rfl dX9_rangeOf_1 eq1 ?_
  refine lv_aload_n X.1.1 X.1.2.1 dX9_rangeOf_4 rfl (lv_at hl 0 rfl) ?_
  obtain ⟨q2, eq2, hf⟩ := odq hf
  refine r_getq (k := 9) (j := 13) X hw rfl inX9 g_a0 rfl (by decide) (by decide) uf_X9_36 rfl dX9_rangeOf_5 eq2 ?_
  refine lv_iload_n X.1.1 X.1.2.1 dX9_rangeOf_8 rfl (lv_at hl 1 rfl) ?_
  obtain ⟨g_q2, hf⟩ := ogd hf
  obtain ⟨i_3, hf⟩ := ogd hf
  refine r_iald X hw g_q2 i_3 dX9_rangeOf_9 ?_
  obtain ⟨g_q1, hf⟩ := ogd hf
  obtain ⟨i_4, hf⟩ := ogd hf
  refine r_iald X hw g_q1 i_4 dX9_rangeOf_10 ?_
  refine lv_topi (fun x5 ex5 => ?_)
  have hf := oltE ex5 hf
  refine lv_istore_n (lv' := [(2, .int x5), (0, .ref a0), (1, .int p1)]) X.1.1 X.1.2.1 dX9_rangeOf_11 rfl hl (by decide) rfl (fun ls hl => ?_)
  refine lv_aload_n X.1.1 X.1.2.1 dX9_rangeOf_12 rfl (lv_at hl 1 rfl) ?_
  refine r_getq (k := 9) (j := 9) X hw rfl inX9 g_a0 rfl (by decide) (by decide) uf_X9_30 rfl dX9_rangeOf_13 eq1 ?_
  refine lv_aload_n X.1.1 X.1.2.1 dX9_rangeOf_16 rfl (lv_at hl 1 rfl) ?_
  obtain ⟨q6, eq6, hf⟩ := odq hf
  refine r_getq (k := 9) (j := 14) X hw rfl inX9 g_a0 rfl (by decide) (by decide) uf_X9_39 rfl dX9_rangeOf_17 eq6 ?_
  refine lv_iload_n X.1.1 X.1.2.1 dX9_rangeOf_20 rfl (lv_at hl 2 rfl) ?_
  obtain ⟨g_q6, hf⟩ := ogd hf
  obtain ⟨i_7, hf⟩ := ogd hf
  refine r_iald X hw g_q6 i_7 dX9_rangeOf_21 ?_
  obtain ⟨i_8, hf⟩ := ogd hf
  refine r_iald X hw g_q1 i_8 dX9_rangeOf_22 ?_
  refine lv_topi (fun x9 ex9 => ?_)
  have hf := oltE ex9 hf
  refine lv_istore_n (lv' := [(3, .int x9), (2, .int x5), (0, .ref a0), (1, .int p1)]) X.1.1 X.1.2.1 dX9_rangeOf_23 rfl hl (by decide) rfl (fun ls hl => ?_)
  refine lv_iload_n X.1.1 X.1.2.1 dX9_rangeOf_24 rfl (lv_at hl 1 rfl) ?_
  refine lv_iload_n X.1.1 X.1.2.1 dX9_rangeOf_25 rfl (lv_at hl 0 rfl) ?_
  refine lv_icmp_le (tgt := 35) X.1.1 X.1.2.1 dX9_rangeOf_26 (by decide) (fun c_10 => ?_) (fun c_10 => ?_)
  · skip
    rw [if_pos c_10] at hf
    refine lv_iload_n X.1.1 X.1.2.1 dX9_rangeOf_35 rfl (lv_at hl 0 rfl) ?_
    refine lv_iload_n X.1.1 X.1.2.1 dX9_rangeOf_36 rfl (lv_at hl 1 rfl) ?_
    refine lv_isub X.1.1 X.1.2.1 dX9_rangeOf_37 ?_
    cases hf
    exact r_retI X hw hr hlk rfl dX9_rangeOf_38
  · skip
    rw [if_neg c_10] at hf
    refine lv_iload_n X.1.1 X.1.2.1 dX9_rangeOf_29 rfl (lv_at hl 1 rfl) ?_
    refine lv_iload_n X.1.1 X.1.2.1 dX9_rangeOf_30 rfl (lv_at hl 0 rfl) ?_
    refine lv_isub X.1.1 X.1.2.1 dX9_rangeOf_31 ?_
    refine lv_goto (tgt := 38) X.1.1 X.1.2.1 dX9_rangeOf_32 (by decide) ?_
    cases hf
    exact r_retI X hw hr hlk rfl dX9_rangeOf_38
/-! X9_meanOf -/
def f_X9_meanOf (h : Hs) (a0 : Nat) (p1 : Int32) (M : Mm) : Option Int32 :=
  gd (ok h a0 9) <|
  dq (zR h a0 9) fun q1 =>
  dq (zR h a0 13) fun q2 =>
  gd (ok h q2 11) <|
  gd (inb p1 (zN h q2)) <|
  gd (ok h q1 11) <|
  gd (inb (zI M q2 p1.toNatClampNeg) (zN h q1)) <|
  dq (zR h a0 14) fun q5 =>
  gd (ok h q5 11) <|
  gd (inb p1 (zN h q5)) <|
  gd (inb (zI M q5 p1.toNatClampNeg) (zN h q1)) <|
  some ((zI M q1 (zI M q2 p1.toNatClampNeg).toNatClampNeg) + (zI M q1 (zI M q5 p1.toNatClampNeg).toNatClampNeg))
set_option maxHeartbeats 4000000 in
set_option maxRecDepth 100000 in
theorem c_X9_meanOf {l : Launch} {D : va_G} {cy : Nat → ClassId} {h : Hs} {a0 : Nat} {p1 : Int32} {M : Mm} {z : Int32} (hf : f_X9_meanOf h a0 p1 M = some z) : CtI l D cy yX9_meanOf (wu yX9_meanOf cX9_meanOf 2 (some .int)) ({ frames := 0, cells := 0, slots := 0, locals := 0 }) [.ref a0, .int p1] h M z M := by
  refine enterI (cc := cX9_meanOf) (maxL := 2) (ret := (some .int)) (by decide) (Nat.le_of_ble_eq_true rfl) ?_
  intro p e s m args below meth c A ls X hw hr hlk hl
  have hl : lv_has ls 2 [(0, .ref a0), (1, .int p1)] := hl
  unfold f_X9_meanOf at hf
  refine lv_aload_n X.1.1 X.1.2.1 dX9_meanOf_0 rfl (lv_at hl 0 rfl) ?_
  obtain ⟨g_a0, hf⟩ := ogd hf
  obtain ⟨q1, eq1, hf⟩ := odq hf
  refine r_getq (k := 9) (j := 9) X hw rfl inX9 g_a0 rfl (by decide) (by decide) uf_X9_30 rfl dX9_meanOf_1 eq1 ?_
  refine lv_aload_n X.1.1 X.1.2.1 dX9_meanOf_4 rfl (lv_at hl 0 rfl) ?_
  obtain ⟨q2, eq2, hf⟩ := odq hf
  refine r_getq (k := 9) (j := 13) X hw rfl inX9 g_a0 rfl (by decide) (by decide) uf_X9_36 rfl dX9_meanOf_5 eq2 ?_
  refine lv_iload_n X.1.1 X.1.2.1 dX9_meanOf_8 rfl (lv_at hl 1 rfl) ?_
  obtain ⟨g_q2, hf⟩ := ogd hf
  obtain ⟨i_3, hf⟩ := ogd hf
  refine r_iald X hw g_q2 i_3 dX9_meanOf_9 ?_
  obtain ⟨g_q1, hf⟩ := ogd hf
  obtain ⟨i_4, hf⟩ := ogd hf
  refine r_iald X hw g_q1 i_4 dX9_meanOf_10 ?_
  refine lv_aload_n X.1.1 X.1.2.1 dX9_meanOf_11 rfl (lv_at hl 0 rfl) ?_
  refine r_getq (k := 9) (j := 9) X hw rfl inX9 g_a0 rfl (by decide) (by decide) uf_X9_30 rfl dX9_meanOf_12 eq1 ?_
  refine lv_aload_n X.1.1 X.1.2.1 dX9_meanOf_15 rfl (lv_at hl 0 rfl) ?_
  obtain ⟨q5, eq5, hf⟩ := odq hf
  refine r_getq (k := 9) (j := 14) X hw rfl inX9 g_a0 rfl (by decide) (by decide) uf_X9_39 rfl dX9_meanOf_16 eq5 ?_
  refine lv_iload_n X.1.1 X.1.2.1 dX9_meanOf_19 rfl (lv_at hl 1 rfl) ?_
  obtain ⟨g_q5, hf⟩ := ogd hf
  obtain ⟨i_6, hf⟩ := ogd hf
  refine r_iald X hw g_q5 i_6 dX9_meanOf_20 ?_
  obtain ⟨i_7, hf⟩ := ogd hf
  refine r_iald X hw g_q1 i_7 dX9_meanOf_21 ?_
  refine lv_iadd X.1.1 X.1.2.1 dX9_meanOf_22 ?_
  cases hf
  exact r_retI X hw hr hlk rfl dX9_meanOf_23
/-! X9_cycle -/
def f_X9_cycle (h : Hs) (a0 : Nat) (p1 : Int32) (p2 : Int32) (p3 : Int32) (M : Mm) : Option (Int32 × Mm) :=
  gd (ok h a0 9) <|
  (f_X9_isGauge h a0 p1 M).bind fun z1 =>
  Option.bind (
    if z1 = 0 then
      some (1 : Int32)
    else
      if p2 < 0 then
        some (1 : Int32)
      else
        if p3 < 0 then
          some (1 : Int32)
        else
          if p3 ≤ (6 : Int32) then
            some (0 : Int32)
          else
            some (1 : Int32)
    ) fun y6 =>
  (f_X9_throwsIf h a0 y6 M).bind fun z7 =>
  if z7.1 = 0 then
    (f_X9_look h a0 p1 (0 : Int32) z7.2).bind fun z9 =>
    Option.bind (
      if p2 < (zI z9 a0 16) then
        some (0 : Int32)
      else
        some (1 : Int32)
      ) fun y11 =>
    (f_X9_throwsIf h a0 y11 z9).bind fun z12 =>
    if z12.1 = 0 then
      if p3 = (0 : Int32) then
        dq (zR h a0 9) fun q15 =>
        dq (zR h a0 13) fun q16 =>
        gd (ok h q16 11) <|
        gd (inb p2 (zN h q16)) <|
        gd (ok h q15 11) <|
        gd (inb (zI z12.2 q16 p2.toNatClampNeg) (zN h q15)) <|
        some (zI z12.2 q15 (zI z12.2 q16 p2.toNatClampNeg).toNatClampNeg, z12.2)
      else
        if p3 = (1 : Int32) then
          dq (zR h a0 9) fun q20 =>
          dq (zR h a0 14) fun q21 =>
          gd (ok h q21 11) <|
          gd (inb p2 (zN h q21)) <|
          gd (ok h q20 11) <|
          gd (inb (zI z12.2 q21 p2.toNatClampNeg) (zN h q20)) <|
          some (zI z12.2 q20 (zI z12.2 q21 p2.toNatClampNeg).toNatClampNeg, z12.2)
        else
          if p3 = (2 : Int32) then
            dq (zR h a0 13) fun q25 =>
            gd (ok h q25 11) <|
            gd (inb p2 (zN h q25)) <|
            some (zI z12.2 q25 p2.toNatClampNeg, z12.2)
          else
            if p3 = (3 : Int32) then
              dq (zR h a0 14) fun q28 =>
              gd (ok h q28 11) <|
              gd (inb p2 (zN h q28)) <|
              some (zI z12.2 q28 p2.toNatClampNeg, z12.2)
            else
              if p3 = (4 : Int32) then
                dq (zR h a0 15) fun q31 =>
                gd (ok h q31 11) <|
                gd (inb p2 (zN h q31)) <|
                some (zI z12.2 q31 p2.toNatClampNeg, z12.2)
              else
                if p3 = (5 : Int32) then
                  (f_X9_rangeOf h a0 p2 z12.2).bind fun z34 =>
                  some (z34, z12.2)
                else
                  (f_X9_meanOf h a0 p2 z12.2).bind fun z35 =>
                  some (z35, z12.2)
    else
      some ((0 : Int32), z12.2)
  else
    some ((0 : Int32), z7.2)
set_option maxHeartbeats 4000000 in
set_option maxRecDepth 100000 in
theorem c_X9_cycle {l : Launch} {D : va_G} {cy : Nat → ClassId} {h : Hs} {a0 : Nat} {p1 : Int32} {p2 : Int32} {p3 : Int32} {M : Mm} {z : (Int32 × Mm)} (hf : f_X9_cycle h a0 p1 p2 p3 M = some z) : CtI l D cy yX9_cycle (wu yX9_cycle cX9_cycle 4 (some .int)) ({ frames := 6, cells := 0, slots := 0, locals := 142 }) [.ref a0, .int p1, .int p2, .int p3] h M z.1 z.2 := by
  refine enterI (cc := cX9_cycle) (maxL := 4) (ret := (some .int)) (by decide) (Nat.le_of_ble_eq_true rfl) ?_
  intro p e s m args below meth c A ls X hw hr hlk hl
  have hl : lv_has ls 4 [(0, .ref a0), (1, .int p1), (2, .int p2), (3, .int p3)] := hl
  unfold f_X9_cycle at hf
  refine lv_aload_n X.1.1 X.1.2.1 dX9_cycle_0 rfl (lv_at hl 0 rfl) ?_
  refine lv_aload_n X.1.1 X.1.2.1 dX9_cycle_1 rfl (lv_at hl 0 rfl) ?_
  refine lv_iload_n X.1.1 X.1.2.1 dX9_cycle_2 rfl (lv_at hl 1 rfl) ?_
  obtain ⟨g_a0, hf⟩ := ogd hf
  obtain ⟨z1, ez1, hf⟩ := obd hf
  refine r_callVI (As := [.int p1]) (rest := [.ref a0]) X hw (c_X9_isGauge ez1) (cwV 1 X.1.2.2.2.2 (guV um_X9_154 ui_X9_isGauge us_X9_isGauge un_X9 uo_X9_isGauge) rfl rfl rfl (by decide +kernel) ⟨Nat.le_of_ble_eq_true rfl, Nat.le_of_ble_eq_true rfl⟩) g_a0 (by decide) rfl rfl hl.1 rfl (Nat.le_of_ble_eq_true rfl) dX9_cycle_3 ⟨Nat.zero_le _, Nat.zero_le _⟩ (fun H locs hw => ?_)
  obtain ⟨y6, ey6, hf⟩ := obd hf
  have Jy6 : ∀ (H : Heap) (locs : List Loc) (ls : Array Slot), Wd D cy A s.heap h M H locs → lv_has ls 4 [(0, .ref a0), (1, .int p1), (2, .int p2), (3, .int p3)] → W p l e ({ frames := 6, cells := 0, slots := 0, locals := 142 } : Room) s m args below meth c H locs 0 0 (QI below D cy A h args s z.1 z.2) (F0 m 28 ls [.int y6, .ref a0]) := by
    intro H locs ls hw hl
    obtain ⟨z7, ez7, hf⟩ := obd hf
    refine r_callVI (As := [.int y6]) (rest := []) X hw (c_X9_throwsIf ez7) (cwV 1 X.1.2.2.2.2 (guV um_X9_160 ui_X9_throwsIf us_X9_throwsIf un_X9 uo_X9_throwsIf) rfl rfl rfl (by decide +kernel) ⟨Nat.le_of_ble_eq_true rfl, Nat.le_of_ble_eq_true rfl⟩) g_a0 (by decide) rfl rfl hl.1 rfl (Nat.le_of_ble_eq_true rfl) dX9_cycle_28 ⟨Nat.zero_le _, Nat.zero_le _⟩ (fun H locs hw => ?_)
    refine lv_if_eq (tgt := 36) X.1.1 X.1.2.1 dX9_cycle_31 (by decide) (fun c_8 => ?_) (fun c_8 => ?_)
    · skip
      rw [if_pos c_8] at hf
      refine lv_aload_n X.1.1 X.1.2.1 dX9_cycle_36 rfl (lv_at hl 0 rfl) ?_
      refine lv_iload_n X.1.1 X.1.2.1 dX9_cycle_37 rfl (lv_at hl 1 rfl) ?_
      refine lv_iconst (v := (0 : Int32)) X.1.1 X.1.2.1 dX9_cycle_38 (by decide) ?_
      obtain ⟨z9, ez9, hf⟩ := obd hf
      refine r_callVV (As := [.int p1, .int (0 : Int32)]) (rest := []) X hw (c_X9_look ez9) (cwV 2 X.1.2.2.2.2 (guV um_X9_157 ui_X9_look us_X9_look un_X9 uo_X9_look) rfl rfl rfl (by decide +kernel) ⟨Nat.le_of_ble_eq_true rfl, Nat.le_of_ble_eq_true rfl⟩) g_a0 (by decide) rfl rfl hl.1 rfl (Nat.le_of_ble_eq_true rfl) dX9_cycle_39 ⟨Nat.zero_le _, Nat.zero_le _⟩ (fun H locs hw => ?_)
      refine lv_aload_n X.1.1 X.1.2.1 dX9_cycle_42 rfl (lv_at hl 0 rfl) ?_
      refine lv_iload_n X.1.1 X.1.2.1 dX9_cycle_43 rfl (lv_at hl 2 rfl) ?_
      refine lv_aload_n X.1.1 X.1.2.1 dX9_cycle_44 rfl (lv_at hl 0 rfl) ?_
      refine r_geti (k := 9) (j := 16) X hw rfl inX9 g_a0 rfl (by decide) (by decide) uf_X9_141 rfl dX9_cycle_45 ?_
      obtain ⟨y11, ey11, hf⟩ := obd hf
      have Jy11 : ∀ (H : Heap) (locs : List Loc) (ls : Array Slot), Wd D cy A s.heap h z9 H locs → lv_has ls 4 [(0, .ref a0), (2, .int p2), (3, .int p3)] → W p l e ({ frames := 6, cells := 0, slots := 0, locals := 142 } : Room) s m args below meth c H locs 0 0 (QI below D cy A h args s z.1 z.2) (F0 m 56 ls [.int y11, .ref a0]) := by
        intro H locs ls hw hl
        obtain ⟨z12, ez12, hf⟩ := obd hf
        refine r_callVI (As := [.int y11]) (rest := []) X hw (c_X9_throwsIf ez12) (cwV 1 X.1.2.2.2.2 (guV um_X9_160 ui_X9_throwsIf us_X9_throwsIf un_X9 uo_X9_throwsIf) rfl rfl rfl (by decide +kernel) ⟨Nat.le_of_ble_eq_true rfl, Nat.le_of_ble_eq_true rfl⟩) g_a0 (by decide) rfl rfl hl.1 rfl (Nat.le_of_ble_eq_true rfl) dX9_cycle_56 ⟨Nat.zero_le _, Nat.zero_le _⟩ (fun H locs hw => ?_)
        refine lv_if_eq (tgt := 64) X.1.1 X.1.2.1 dX9_cycle_59 (by decide) (fun c_13 => ?_) (fun c_13 => ?_)
        · skip
          rw [if_pos c_13] at hf
          refine lv_iload_n X.1.1 X.1.2.1 dX9_cycle_64 rfl (lv_at hl 2 rfl) ?_
          by_cases c_14 : p3 = (0 : Int32)
          · rw [if_pos c_14] at hf
            refine lv_tableIn (off := 39) (tgt := 104) X.1.1 X.1.2.1 dX9_cycle_65 (by rw [c_14]; decide) (by rw [c_14]; decide) (by rw [c_14]; decide) (by decide) ?_
            refine lv_aload_n X.1.1 X.1.2.1 dX9_cycle_104 rfl (lv_at hl 0 rfl) ?_
            obtain ⟨q15, eq15, hf⟩ := odq hf
            refine r_getq (k := 9) (j := 9) X hw rfl inX9 g_a0 rfl (by decide) (by decide) uf_X9_30 rfl dX9_cycle_105 eq15 ?_
            refine lv_aload_n X.1.1 X.1.2.1 dX9_cycle_108 rfl (lv_at hl 0 rfl) ?_
            obtain ⟨q16, eq16, hf⟩ := odq hf
            refine r_getq (k := 9) (j := 13) X hw rfl inX9 g_a0 rfl (by decide) (by decide) uf_X9_36 rfl dX9_cycle_109 eq16 ?_
            refine lv_iload_n X.1.1 X.1.2.1 dX9_cycle_112 rfl (lv_at hl 1 rfl) ?_
            obtain ⟨g_q16, hf⟩ := ogd hf
            obtain ⟨i_17, hf⟩ := ogd hf
            refine r_iald X hw g_q16 i_17 dX9_cycle_113 ?_
            obtain ⟨g_q15, hf⟩ := ogd hf
            obtain ⟨i_18, hf⟩ := ogd hf
            refine r_iald X hw g_q15 i_18 dX9_cycle_114 ?_
            cases hf
            exact r_retI (v := zI z12.2 q15 (zI z12.2 q16 p2.toNatClampNeg).toNatClampNeg) X hw hr hlk rfl dX9_cycle_115
          · rw [if_neg c_14] at hf
            by_cases c_19 : p3 = (1 : Int32)
            · rw [if_pos c_19] at hf
              refine lv_tableIn (off := 51) (tgt := 116) X.1.1 X.1.2.1 dX9_cycle_65 (by rw [c_19]; decide) (by rw [c_19]; decide) (by rw [c_19]; decide) (by decide) ?_
              refine lv_aload_n X.1.1 X.1.2.1 dX9_cycle_116 rfl (lv_at hl 0 rfl) ?_
              obtain ⟨q20, eq20, hf⟩ := odq hf
              refine r_getq (k := 9) (j := 9) X hw rfl inX9 g_a0 rfl (by decide) (by decide) uf_X9_30 rfl dX9_cycle_117 eq20 ?_
              refine lv_aload_n X.1.1 X.1.2.1 dX9_cycle_120 rfl (lv_at hl 0 rfl) ?_
              obtain ⟨q21, eq21, hf⟩ := odq hf
              refine r_getq (k := 9) (j := 14) X hw rfl inX9 g_a0 rfl (by decide) (by decide) uf_X9_39 rfl dX9_cycle_121 eq21 ?_
              refine lv_iload_n X.1.1 X.1.2.1 dX9_cycle_124 rfl (lv_at hl 1 rfl) ?_
              obtain ⟨g_q21, hf⟩ := ogd hf
              obtain ⟨i_22, hf⟩ := ogd hf
              refine r_iald X hw g_q21 i_22 dX9_cycle_125 ?_
              obtain ⟨g_q20, hf⟩ := ogd hf
              obtain ⟨i_23, hf⟩ := ogd hf
              refine r_iald X hw g_q20 i_23 dX9_cycle_126 ?_
              cases hf
              exact r_retI (v := zI z12.2 q20 (zI z12.2 q21 p2.toNatClampNeg).toNatClampNeg) X hw hr hlk rfl dX9_cycle_127
            · rw [if_neg c_19] at hf
              by_cases c_24 : p3 = (2 : Int32)
              · rw [if_pos c_24] at hf
                refine lv_tableIn (off := 63) (tgt := 128) X.1.1 X.1.2.1 dX9_cycle_65 (by rw [c_24]; decide) (by rw [c_24]; decide) (by rw [c_24]; decide) (by decide) ?_
                refine lv_aload_n X.1.1 X.1.2.1 dX9_cycle_128 rfl (lv_at hl 0 rfl) ?_
                obtain ⟨q25, eq25, hf⟩ := odq hf
                refine r_getq (k := 9) (j := 13) X hw rfl inX9 g_a0 rfl (by decide) (by decide) uf_X9_36 rfl dX9_cycle_129 eq25 ?_
                refine lv_iload_n X.1.1 X.1.2.1 dX9_cycle_132 rfl (lv_at hl 1 rfl) ?_
                obtain ⟨g_q25, hf⟩ := ogd hf
                obtain ⟨i_26, hf⟩ := ogd hf
                refine r_iald X hw g_q25 i_26 dX9_cycle_133 ?_
                cases hf
                exact r_retI (v := zI z12.2 q25 p2.toNatClampNeg) X hw hr hlk rfl dX9_cycle_134
              · rw [if_neg c_24] at hf
                by_cases c_27 : p3 = (3 : Int32)
                · rw [if_pos c_27] at hf
                  refine lv_tableIn (off := 70) (tgt := 135) X.1.1 X.1.2.1 dX9_cycle_65 (by rw [c_27]; decide) (by rw [c_27]; decide) (by rw [c_27]; decide) (by decide) ?_
                  refine lv_aload_n X.1.1 X.1.2.1 dX9_cycle_135 rfl (lv_at hl 0 rfl) ?_
                  obtain ⟨q28, eq28, hf⟩ := odq hf
                  refine r_getq (k := 9) (j := 14) X hw rfl inX9 g_a0 rfl (by decide) (by decide) uf_X9_39 rfl dX9_cycle_136 eq28 ?_
                  refine lv_iload_n X.1.1 X.1.2.1 dX9_cycle_139 rfl (lv_at hl 1 rfl) ?_
                  obtain ⟨g_q28, hf⟩ := ogd hf
                  obtain ⟨i_29, hf⟩ := ogd hf
                  refine r_iald X hw g_q28 i_29 dX9_cycle_140 ?_
                  cases hf
                  exact r_retI (v := zI z12.2 q28 p2.toNatClampNeg) X hw hr hlk rfl dX9_cycle_141
                · rw [if_neg c_27] at hf
                  by_cases c_30 : p3 = (4 : Int32)
                  · rw [if_pos c_30] at hf
                    refine lv_tableIn (off := 77) (tgt := 142) X.1.1 X.1.2.1 dX9_cycle_65 (by rw [c_30]; decide) (by rw [c_30]; decide) (by rw [c_30]; decide) (by decide) ?_
                    refine lv_aload_n X.1.1 X.1.2.1 dX9_cycle_142 rfl (lv_at hl 0 rfl) ?_
                    obtain ⟨q31, eq31, hf⟩ := odq hf
                    refine r_getq (k := 9) (j := 15) X hw rfl inX9 g_a0 rfl (by decide) (by decide) uf_X9_42 rfl dX9_cycle_143 eq31 ?_
                    refine lv_iload_n X.1.1 X.1.2.1 dX9_cycle_146 rfl (lv_at hl 1 rfl) ?_
                    obtain ⟨g_q31, hf⟩ := ogd hf
                    obtain ⟨i_32, hf⟩ := ogd hf
                    refine r_iald X hw g_q31 i_32 dX9_cycle_147 ?_
                    cases hf
                    exact r_retI (v := zI z12.2 q31 p2.toNatClampNeg) X hw hr hlk rfl dX9_cycle_148
                  · rw [if_neg c_30] at hf
                    by_cases c_33 : p3 = (5 : Int32)
                    · rw [if_pos c_33] at hf
                      refine lv_tableIn (off := 84) (tgt := 149) X.1.1 X.1.2.1 dX9_cycle_65 (by rw [c_33]; decide) (by rw [c_33]; decide) (by rw [c_33]; decide) (by decide) ?_
                      refine lv_aload_n X.1.1 X.1.2.1 dX9_cycle_149 rfl (lv_at hl 0 rfl) ?_
                      refine lv_iload_n X.1.1 X.1.2.1 dX9_cycle_150 rfl (lv_at hl 1 rfl) ?_
                      obtain ⟨z34, ez34, hf⟩ := obd hf
                      refine r_callVI (As := [.int p2]) (rest := []) X hw (c_X9_rangeOf ez34) (cwV 1 X.1.2.2.2.2 (guV um_X9_164 ui_X9_rangeOf us_X9_rangeOf un_X9 uo_X9_rangeOf) rfl rfl rfl (by decide +kernel) ⟨Nat.le_of_ble_eq_true rfl, Nat.le_of_ble_eq_true rfl⟩) g_a0 (by decide) rfl rfl hl.1 rfl (Nat.le_of_ble_eq_true rfl) dX9_cycle_151 ⟨Nat.zero_le _, Nat.zero_le _⟩ (fun H locs hw => ?_)
                      cases hf
                      exact r_retI (v := z34) X hw hr hlk rfl dX9_cycle_154
                    · rw [if_neg c_33] at hf
                      refine lv_tableOut (tgt := 155) X.1.1 X.1.2.1 dX9_cycle_65 (by have q : p3.toInt < 0 ∨ 5 < p3.toInt ∨ p3.toInt = 0 ∨ p3.toInt = 1 ∨ p3.toInt = 2 ∨ p3.toInt = 3 ∨ p3.toInt = 4 ∨ p3.toInt = 5 := (by omega); rcases q with q | q | q | q | q | q | q | q; exact Or.inl q; exact Or.inr q; exact absurd ((sw_eq q).trans (by decide)) c_14; exact absurd ((sw_eq q).trans (by decide)) c_19; exact absurd ((sw_eq q).trans (by decide)) c_24; exact absurd ((sw_eq q).trans (by decide)) c_27; exact absurd ((sw_eq q).trans (by decide)) c_30; exact absurd ((sw_eq q).trans (by decide)) c_33) (by decide) ?_
                      refine lv_aload_n X.1.1 X.1.2.1 dX9_cycle_155 rfl (lv_at hl 0 rfl) ?_
                      refine lv_iload_n X.1.1 X.1.2.1 dX9_cycle_156 rfl (lv_at hl 1 rfl) ?_
                      obtain ⟨z35, ez35, hf⟩ := obd hf
                      refine r_callVI (As := [.int p2]) (rest := []) X hw (c_X9_meanOf ez35) (cwV 1 X.1.2.2.2.2 (guV um_X9_167 ui_X9_meanOf us_X9_meanOf un_X9 uo_X9_meanOf) rfl rfl rfl (by decide +kernel) ⟨Nat.le_of_ble_eq_true rfl, Nat.le_of_ble_eq_true rfl⟩) g_a0 (by decide) rfl rfl hl.1 rfl (Nat.le_of_ble_eq_true rfl) dX9_cycle_157 ⟨Nat.zero_le _, Nat.zero_le _⟩ (fun H locs hw => ?_)
                      cases hf
                      exact r_retI (v := z35) X hw hr hlk rfl dX9_cycle_160
        · skip
          rw [if_neg c_13] at hf
          refine lv_iconst (v := (0 : Int32)) X.1.1 X.1.2.1 dX9_cycle_62 (by decide) ?_
          cases hf
          exact r_retI (v := (0 : Int32)) X hw hr hlk rfl dX9_cycle_63
      clear hf
      have hf := ey11
      clear ey11
      refine lv_icmp_lt (tgt := 55) X.1.1 X.1.2.1 dX9_cycle_48 (by decide) (fun c_10 => ?_) (fun c_10 => ?_)
      · skip
        rw [if_pos c_10] at hf
        refine lv_iconst (v := (0 : Int32)) X.1.1 X.1.2.1 dX9_cycle_55 (by decide) ?_
        cases hf
        exact Jy11 _ _ _ hw (lv_sub hl [0, 2, 3] rfl)
      · skip
        rw [if_neg c_10] at hf
        refine lv_iconst (v := (1 : Int32)) X.1.1 X.1.2.1 dX9_cycle_51 (by decide) ?_
        refine lv_goto (tgt := 56) X.1.1 X.1.2.1 dX9_cycle_52 (by decide) ?_
        cases hf
        exact Jy11 _ _ _ hw (lv_sub hl [0, 2, 3] rfl)
    · skip
      rw [if_neg c_8] at hf
      refine lv_iconst (v := (0 : Int32)) X.1.1 X.1.2.1 dX9_cycle_34 (by decide) ?_
      cases hf
      exact r_retI (v := (0 : Int32)) X hw hr hlk rfl dX9_cycle_35
  clear hf
  have hf := ey6
  clear ey6
  refine lv_if_eq (tgt := 23) X.1.1 X.1.2.1 dX9_cycle_6 (by decide) (fun c_2 => ?_) (fun c_2 => ?_)
  · skip
    rw [if_pos c_2] at hf
    refine lv_iconst (v := (1 : Int32)) X.1.1 X.1.2.1 dX9_cycle_23 (by decide) ?_
    refine lv_goto (tgt := 28) X.1.1 X.1.2.1 dX9_cycle_24 (by decide) ?_
    cases hf
    exact Jy6 _ _ _ hw (lv_sub hl [0, 1, 2, 3] rfl)
  · skip
    rw [if_neg c_2] at hf
    refine lv_iload_n X.1.1 X.1.2.1 dX9_cycle_9 rfl (lv_at hl 2 rfl) ?_
    refine lv_if_lt (tgt := 23) X.1.1 X.1.2.1 dX9_cycle_10 (by decide) (fun c_3 => ?_) (fun c_3 => ?_)
    · skip
      rw [if_pos c_3] at hf
      refine lv_iconst (v := (1 : Int32)) X.1.1 X.1.2.1 dX9_cycle_23 (by decide) ?_
      refine lv_goto (tgt := 28) X.1.1 X.1.2.1 dX9_cycle_24 (by decide) ?_
      cases hf
      exact Jy6 _ _ _ hw (lv_sub hl [0, 1, 2, 3] rfl)
    · skip
      rw [if_neg c_3] at hf
      refine lv_iload_n X.1.1 X.1.2.1 dX9_cycle_13 rfl (lv_at hl 3 rfl) ?_
      refine lv_if_lt (tgt := 23) X.1.1 X.1.2.1 dX9_cycle_14 (by decide) (fun c_4 => ?_) (fun c_4 => ?_)
      · skip
        rw [if_pos c_4] at hf
        refine lv_iconst (v := (1 : Int32)) X.1.1 X.1.2.1 dX9_cycle_23 (by decide) ?_
        refine lv_goto (tgt := 28) X.1.1 X.1.2.1 dX9_cycle_24 (by decide) ?_
        cases hf
        exact Jy6 _ _ _ hw (lv_sub hl [0, 1, 2, 3] rfl)
      · skip
        rw [if_neg c_4] at hf
        refine lv_iload_n X.1.1 X.1.2.1 dX9_cycle_17 rfl (lv_at hl 3 rfl) ?_
        refine lv_bipush (v := (6 : Int32)) X.1.1 X.1.2.1 dX9_cycle_18 (by decide) ?_
        refine lv_icmp_le (tgt := 27) X.1.1 X.1.2.1 dX9_cycle_20 (by decide) (fun c_5 => ?_) (fun c_5 => ?_)
        · skip
          rw [if_pos c_5] at hf
          refine lv_iconst (v := (0 : Int32)) X.1.1 X.1.2.1 dX9_cycle_27 (by decide) ?_
          cases hf
          exact Jy6 _ _ _ hw (lv_sub hl [0, 1, 2, 3] rfl)
        · skip
          rw [if_neg c_5] at hf
          refine lv_iconst (v := (1 : Int32)) X.1.1 X.1.2.1 dX9_cycle_23 (by decide) ?_
          refine lv_goto (tgt := 28) X.1.1 X.1.2.1 dX9_cycle_24 (by decide) ?_
          cases hf
          exact Jy6 _ _ _ hw (lv_sub hl [0, 1, 2, 3] rfl)
/-! X9_check -/
def lp_X9_check_53 (h : Hs) (w2 : Int32) (a0 : Nat) (M : Mm) : Nat → Int32 → Option ((Int32 × Mm) ⊕ Int32)
  | 0, _ => none
  | n + 1, v3 =>
    if w2 ≤ v3 then
      some (.inr v3)
    else
      dq (zR h a0 6) fun q10 =>
      gd (ok h q10 10) <|
      gd (inb v3 (zN h q10)) <|
      if ((zI M q10 v3.toNatClampNeg) &&& (255 : Int32)) < (zI M a0 12) then
        lt_ (v3 + (1 : Int32)) fun x13 =>
        lp_X9_check_53 h w2 a0 M n x13
      else
        some (.inl ((-2 : Int32), M))
set_option maxHeartbeats 4000000 in
set_option maxRecDepth 100000 in
theorem wlp_X9_check_53 {l : Launch} {D : va_G} {cy : Nat → ClassId} {h : Hs} {w2 : Int32} {a0 : Nat} {M : Mm} {p : Program} {e : Env} {s : State} {m : MethodId} {args : Array Value} {below : List Frame} {meth : Method} {c : Code} {A : Nat → Prop} (X : Cx p s m args c cX9_check 8 gtbl RX9 D cy A) {zf : (Int32 × Mm)} (hr : meth.sig.returnType = (some .int)) (hlk : meth.locks = false) (g_a0 : ok h a0 9) : ∀ (n : Nat) (v3 : Int32) (z : ((Int32 × Mm) ⊕ Int32)) (H : Heap) (locs : List Loc) (ls : Array Slot), lp_X9_check_53 h w2 a0 M n v3 = some z → Wd D cy A s.heap h M H locs → lv_has ls 8 [(3, .int v3), (2, .int w2), (0, .ref a0)] → (∀ rr, z = .inl rr → rr = zf) → (∀ x : Int32, z = .inr x → ∀ (H : Heap) (locs : List Loc) (ls : Array Slot), Wd D cy A s.heap h M H locs → lv_has ls 8 [(3, .int x), (2, .int w2), (0, .ref a0)] → W p l e ({ frames := 6, cells := 0, slots := 0, locals := 142 } : Room) s m args below meth c H locs 0 0 (QI below D cy A h args s zf.1 zf.2) (F0 m 84 ls [])) → W p l e ({ frames := 6, cells := 0, slots := 0, locals := 142 } : Room) s m args below meth c H locs 0 0 (QI below D cy A h args s zf.1 zf.2) (F0 m 53 ls []) := by
  intro n
  induction n with
  | zero => intro v3 z H locs ls hf hw hl kr kx; exact absurd hf (by intro q; cases q)
  | succ n ih =>
    intro v3 z H locs ls hf hw hl kr kx
    unfold lp_X9_check_53 at hf
    refine lv_iload_n X.1.1 X.1.2.1 dX9_check_53 rfl (lv_at hl 0 rfl) ?_
    refine lv_iload_n X.1.1 X.1.2.1 dX9_check_54 rfl (lv_at hl 1 rfl) ?_
    refine lv_icmp_ge (tgt := 84) X.1.1 X.1.2.1 dX9_check_55 (by decide) (fun c_9 => ?_) (fun c_9 => ?_)
    · skip
      rw [if_pos c_9] at hf
      cases hf
      exact kx _ rfl _ _ _ hw (lv_sub hl [0, 1, 2] rfl)
    · skip
      rw [if_neg c_9] at hf
      refine lv_aload_n X.1.1 X.1.2.1 dX9_check_58 rfl (lv_at hl 2 rfl) ?_
      obtain ⟨q10, eq10, hf⟩ := odq hf
      refine r_getq (k := 9) (j := 6) X hw rfl inX9 g_a0 rfl (by decide) (by decide) uf_X9_23 rfl dX9_check_59 eq10 ?_
      refine lv_iload_n X.1.1 X.1.2.1 dX9_check_62 rfl (lv_at hl 0 rfl) ?_
      obtain ⟨g_q10, hf⟩ := ogd hf
      obtain ⟨i_11, hf⟩ := ogd hf
      refine r_bald X hw g_q10 i_11 dX9_check_63 ?_
      refine lv_sipush (v := (255 : Int32)) X.1.1 X.1.2.1 dX9_check_64 (by decide) ?_
      refine lv_iand X.1.1 X.1.2.1 dX9_check_67 ?_
      refine lv_aload_n X.1.1 X.1.2.1 dX9_check_68 rfl (lv_at hl 2 rfl) ?_
      refine r_geti (k := 9) (j := 12) X hw rfl inX9 g_a0 rfl (by decide) (by decide) uf_X9_138 rfl dX9_check_69 ?_
      refine lv_icmp_lt (tgt := 78) X.1.1 X.1.2.1 dX9_check_72 (by decide) (fun c_12 => ?_) (fun c_12 => ?_)
      · skip
        rw [if_pos c_12] at hf
        obtain ⟨x13, ex13, hf⟩ := olt hf
        refine lv_iinc (v := x13) (lv' := [(3, .int x13), (2, .int w2), (0, .ref a0)]) X.1.1 X.1.2.1 dX9_check_78 hl (k := 0) rfl (by rw [ex13]; rfl) (by decide) rfl (fun ls hl => ?_)
        refine lv_goto (tgt := 53) X.1.1 X.1.2.1 dX9_check_81 (by decide) ?_
        exact ih _ _ _ _ _ hf hw (lv_sub hl [0, 1, 2] rfl) kr kx
      · skip
        rw [if_neg c_12] at hf
        refine lv_bipush (v := (-2 : Int32)) X.1.1 X.1.2.1 dX9_check_75 (by decide) ?_
        cases hf
        cases kr _ rfl
        exact r_retI (v := (-2 : Int32)) X hw hr hlk rfl dX9_check_77
def lp_X9_check_100 (h : Hs) (w3 : Int32) (w2 : Int32) (a0 : Nat) (M : Mm) : Nat → Int32 → Int32 → Option (Int32 × Int32)
  | 0, _, _ => none
  | n + 1, v4, v5 =>
    if (zI M a0 16) ≤ v5 then
      some (v4, v5)
    else
      dq (zR h a0 13) fun q18 =>
      gd (ok h q18 11) <|
      gd (inb v5 (zN h q18)) <|
      Option.bind (
        if ¬ (zI M q18 v5.toNatClampNeg) = w3 then
          dq (zR h a0 14) fun q21 =>
          gd (ok h q21 11) <|
          gd (inb v5 (zN h q21)) <|
          if ¬ (zI M q21 v5.toNatClampNeg) = w3 then
            some v4
          else
            gd (inb v5 (zN h q18)) <|
            some (zI M q18 v5.toNatClampNeg)
        else
          dq (zR h a0 14) fun q25 =>
          gd (ok h q25 11) <|
          gd (inb v5 (zN h q25)) <|
          some (zI M q25 v5.toNatClampNeg)
        ) fun y27 =>
      lt_ (v5 + (1 : Int32)) fun x28 =>
      lp_X9_check_100 h w3 w2 a0 M n y27 x28
set_option maxHeartbeats 4000000 in
set_option maxRecDepth 100000 in
theorem wlp_X9_check_100 {l : Launch} {D : va_G} {cy : Nat → ClassId} {h : Hs} {w3 : Int32} {w2 : Int32} {a0 : Nat} {M : Mm} {p : Program} {e : Env} {s : State} {m : MethodId} {args : Array Value} {below : List Frame} {meth : Method} {c : Code} {A : Nat → Prop} (X : Cx p s m args c cX9_check 8 gtbl RX9 D cy A) {Q : State → Prop} (g_a0 : ok h a0 9) : ∀ (n : Nat) (v4 : Int32) (v5 : Int32) (z : (Int32 × Int32)) (H : Heap) (locs : List Loc) (ls : Array Slot), lp_X9_check_100 h w3 w2 a0 M n v4 v5 = some z → Wd D cy A s.heap h M H locs → lv_has ls 8 [(4, .int v4), (5, .int v5), (3, .int w3), (2, .int w2), (0, .ref a0)] → (∀ x : (Int32 × Int32), z = x → ∀ (H : Heap) (locs : List Loc) (ls : Array Slot), Wd D cy A s.heap h M H locs → lv_has ls 8 [(4, .int x.1), (5, .int x.2), (3, .int w3), (2, .int w2), (0, .ref a0)] → W p l e ({ frames := 6, cells := 0, slots := 0, locals := 142 } : Room) s m args below meth c H locs 0 0 Q (F0 m 161 ls [])) → W p l e ({ frames := 6, cells := 0, slots := 0, locals := 142 } : Room) s m args below meth c H locs 0 0 Q (F0 m 100 ls []) := by
  intro n
  induction n with
  | zero => intro v4 v5 z H locs ls hf hw hl kx; exact absurd hf (by intro q; cases q)
  | succ n ih =>
    intro v4 v5 z H locs ls hf hw hl kx
    unfold lp_X9_check_100 at hf
    refine lv_iload X.1.1 X.1.2.1 dX9_check_100 (lv_at hl 1 rfl) ?_
    refine lv_aload_n X.1.1 X.1.2.1 dX9_check_102 rfl (lv_at hl 4 rfl) ?_
    refine r_geti (k := 9) (j := 16) X hw rfl inX9 g_a0 rfl (by decide) (by decide) uf_X9_141 rfl dX9_check_103 ?_
    refine lv_icmp_ge (tgt := 161) X.1.1 X.1.2.1 dX9_check_106 (by decide) (fun c_17 => ?_) (fun c_17 => ?_)
    · skip
      rw [if_pos c_17] at hf
      cases hf
      exact kx _ rfl _ _ _ hw (lv_sub hl [0, 1, 2, 3, 4] rfl)
    · skip
      rw [if_neg c_17] at hf
      refine lv_aload_n X.1.1 X.1.2.1 dX9_check_109 rfl (lv_at hl 4 rfl) ?_
      obtain ⟨q18, eq18, hf⟩ := odq hf
      refine r_getq (k := 9) (j := 13) X hw rfl inX9 g_a0 rfl (by decide) (by decide) uf_X9_36 rfl dX9_check_110 eq18 ?_
      refine lv_iload X.1.1 X.1.2.1 dX9_check_113 (lv_at hl 1 rfl) ?_
      obtain ⟨g_q18, hf⟩ := ogd hf
      obtain ⟨i_19, hf⟩ := ogd hf
      refine r_iald X hw g_q18 i_19 dX9_check_115 ?_
      refine lv_iload_n X.1.1 X.1.2.1 dX9_check_116 rfl (lv_at hl 2 rfl) ?_
      obtain ⟨y27, ey27, hf⟩ := obd hf
      have Jy27 : ∀ (H : Heap) (locs : List Loc) (ls : Array Slot), Wd D cy A s.heap h M H locs → lv_has ls 8 [(5, .int v5), (3, .int w3), (2, .int w2), (0, .ref a0)] → W p l e ({ frames := 6, cells := 0, slots := 0, locals := 142 } : Room) s m args below meth c H locs 0 0 Q (F0 m 153 ls [.int y27]) := by
        intro H locs ls hw hl
        refine lv_istore (lv' := [(4, .int y27), (5, .int v5), (3, .int w3), (2, .int w2), (0, .ref a0)]) X.1.1 X.1.2.1 dX9_check_153 hl (by decide) rfl (fun ls hl => ?_)
        obtain ⟨x28, ex28, hf⟩ := olt hf
        refine lv_iinc (v := x28) (lv' := [(5, .int x28), (4, .int y27), (3, .int w3), (2, .int w2), (0, .ref a0)]) X.1.1 X.1.2.1 dX9_check_155 hl (k := 1) rfl (by rw [ex28]; rfl) (by decide) rfl (fun ls hl => ?_)
        refine lv_goto (tgt := 100) X.1.1 X.1.2.1 dX9_check_158 (by decide) ?_
        exact ih _ _ _ _ _ _ hf hw (lv_sub hl [1, 0, 2, 3, 4] rfl) kx
      clear hf
      have hf := ey27
      clear ey27
      refine lv_icmp_ne (tgt := 130) X.1.1 X.1.2.1 dX9_check_117 (by decide) (fun c_20 => ?_) (fun c_20 => ?_)
      · skip
        rw [if_pos c_20] at hf
        refine lv_aload_n X.1.1 X.1.2.1 dX9_check_130 rfl (lv_at hl 4 rfl) ?_
        obtain ⟨q21, eq21, hf⟩ := odq hf
        refine r_getq (k := 9) (j := 14) X hw rfl inX9 g_a0 rfl (by decide) (by decide) uf_X9_39 rfl dX9_check_131 eq21 ?_
        refine lv_iload X.1.1 X.1.2.1 dX9_check_134 (lv_at hl 1 rfl) ?_
        obtain ⟨g_q21, hf⟩ := ogd hf
        obtain ⟨i_22, hf⟩ := ogd hf
        refine r_iald X hw g_q21 i_22 dX9_check_136 ?_
        refine lv_iload_n X.1.1 X.1.2.1 dX9_check_137 rfl (lv_at hl 2 rfl) ?_
        refine lv_icmp_ne (tgt := 151) X.1.1 X.1.2.1 dX9_check_138 (by decide) (fun c_23 => ?_) (fun c_23 => ?_)
        · skip
          rw [if_pos c_23] at hf
          refine lv_iload X.1.1 X.1.2.1 dX9_check_151 (lv_at hl 0 rfl) ?_
          cases hf
          exact Jy27 _ _ _ hw (lv_sub hl [1, 2, 3, 4] rfl)
        · skip
          rw [if_neg (fun z => z c_23)] at hf
          refine lv_aload_n X.1.1 X.1.2.1 dX9_check_141 rfl (lv_at hl 4 rfl) ?_
          refine r_getq (k := 9) (j := 13) X hw rfl inX9 g_a0 rfl (by decide) (by decide) uf_X9_36 rfl dX9_check_142 eq18 ?_
          refine lv_iload X.1.1 X.1.2.1 dX9_check_145 (lv_at hl 1 rfl) ?_
          obtain ⟨i_24, hf⟩ := ogd hf
          refine r_iald X hw g_q18 i_24 dX9_check_147 ?_
          refine lv_goto (tgt := 153) X.1.1 X.1.2.1 dX9_check_148 (by decide) ?_
          cases hf
          exact Jy27 _ _ _ hw (lv_sub hl [1, 2, 3, 4] rfl)
      · skip
        rw [if_neg (fun z => z c_20)] at hf
        refine lv_aload_n X.1.1 X.1.2.1 dX9_check_120 rfl (lv_at hl 4 rfl) ?_
        obtain ⟨q25, eq25, hf⟩ := odq hf
        refine r_getq (k := 9) (j := 14) X hw rfl inX9 g_a0 rfl (by decide) (by decide) uf_X9_39 rfl dX9_check_121 eq25 ?_
        refine lv_iload X.1.1 X.1.2.1 dX9_check_124 (lv_at hl 1 rfl) ?_
        obtain ⟨g_q25, hf⟩ := ogd hf
        obtain ⟨i_26, hf⟩ := ogd hf
        refine r_iald X hw g_q25 i_26 dX9_check_126 ?_
        refine lv_goto (tgt := 153) X.1.1 X.1.2.1 dX9_check_127 (by decide) ?_
        cases hf
        exact Jy27 _ _ _ hw (lv_sub hl [1, 2, 3, 4] rfl)
def lp_X9_check_170 (h : Hs) (w4 : Int32) (w3 : Int32) (w2 : Int32) (a0 : Nat) (M : Mm) : Nat → Int32 → Int32 → Int32 → Option (Int32 × Int32 × Int32)
  | 0, _, _, _ => none
  | n + 1, v5, v6, v7 =>
    if w2 ≤ v7 then
      some (v5, v6, v7)
    else
      dq (zR h a0 6) fun q31 =>
      gd (ok h q31 10) <|
      gd (inb v7 (zN h q31)) <|
      Option.bind (
        if ((zI M q31 v7.toNatClampNeg) &&& (255 : Int32)) = w3 then
          lt_ (v5 + (1 : Int32)) fun x34 =>
          Option.bind (
            if v6 = 0 then
              some (0 : Int32)
            else
              Option.bind (
                if ¬ (v7 - v7 / (2 : Int32) * (2 : Int32)) = 0 then
                  some (v7 - (1 : Int32))
                else
                  some (v7 + (1 : Int32))
                ) fun y37 =>
              gd (inb y37 (zN h q31)) <|
              if ¬ ((zI M q31 y37.toNatClampNeg) &&& (255 : Int32)) = w4 then
                some (0 : Int32)
              else
                some (1 : Int32)
            ) fun y40 =>
          some (x34, y40)
        else
          some (v5, v6)
        ) fun y41 =>
      lt_ (v7 + (1 : Int32)) fun x42 =>
      lp_X9_check_170 h w4 w3 w2 a0 M n y41.1 y41.2 x42
set_option maxHeartbeats 4000000 in
set_option maxRecDepth 100000 in
theorem wlp_X9_check_170 {l : Launch} {D : va_G} {cy : Nat → ClassId} {h : Hs} {w4 : Int32} {w3 : Int32} {w2 : Int32} {a0 : Nat} {M : Mm} {p : Program} {e : Env} {s : State} {m : MethodId} {args : Array Value} {below : List Frame} {meth : Method} {c : Code} {A : Nat → Prop} (X : Cx p s m args c cX9_check 8 gtbl RX9 D cy A) {Q : State → Prop} (g_a0 : ok h a0 9) : ∀ (n : Nat) (v5 : Int32) (v6 : Int32) (v7 : Int32) (z : (Int32 × Int32 × Int32)) (H : Heap) (locs : List Loc) (ls : Array Slot), lp_X9_check_170 h w4 w3 w2 a0 M n v5 v6 v7 = some z → Wd D cy A s.heap h M H locs → lv_has ls 8 [(5, .int v5), (6, .int v6), (7, .int v7), (4, .int w4), (3, .int w3), (2, .int w2), (0, .ref a0)] → (∀ x : (Int32 × Int32 × Int32), z = x → ∀ (H : Heap) (locs : List Loc) (ls : Array Slot), Wd D cy A s.heap h M H locs → lv_has ls 8 [(5, .int x.1), (6, .int x.2.1), (7, .int x.2.2), (4, .int w4), (3, .int w3), (2, .int w2), (0, .ref a0)] → W p l e ({ frames := 6, cells := 0, slots := 0, locals := 142 } : Room) s m args below meth c H locs 0 0 Q (F0 m 247 ls [])) → W p l e ({ frames := 6, cells := 0, slots := 0, locals := 142 } : Room) s m args below meth c H locs 0 0 Q (F0 m 170 ls []) := by
  intro n
  induction n with
  | zero => intro v5 v6 v7 z H locs ls hf hw hl kx; exact absurd hf (by intro q; cases q)
  | succ n ih =>
    intro v5 v6 v7 z H locs ls hf hw hl kx
    unfold lp_X9_check_170 at hf
    refine lv_iload X.1.1 X.1.2.1 dX9_check_170 (lv_at hl 2 rfl) ?_
    refine lv_iload_n X.1.1 X.1.2.1 dX9_check_172 rfl (lv_at hl 5 rfl) ?_
    refine lv_icmp_ge (tgt := 247) X.1.1 X.1.2.1 dX9_check_173 (by decide) (fun c_30 => ?_) (fun c_30 => ?_)
    · skip
      rw [if_pos c_30] at hf
      cases hf
      exact kx _ rfl _ _ _ hw (lv_sub hl [0, 1, 2, 3, 4, 5, 6] rfl)
    · skip
      rw [if_neg c_30] at hf
      refine lv_aload_n X.1.1 X.1.2.1 dX9_check_176 rfl (lv_at hl 6 rfl) ?_
      obtain ⟨q31, eq31, hf⟩ := odq hf
      refine r_getq (k := 9) (j := 6) X hw rfl inX9 g_a0 rfl (by decide) (by decide) uf_X9_23 rfl dX9_check_177 eq31 ?_
      refine lv_iload X.1.1 X.1.2.1 dX9_check_180 (lv_at hl 2 rfl) ?_
      obtain ⟨g_q31, hf⟩ := ogd hf
      obtain ⟨i_32, hf⟩ := ogd hf
      refine r_bald X hw g_q31 i_32 dX9_check_182 ?_
      refine lv_sipush (v := (255 : Int32)) X.1.1 X.1.2.1 dX9_check_183 (by decide) ?_
      refine lv_iand X.1.1 X.1.2.1 dX9_check_186 ?_
      refine lv_iload_n X.1.1 X.1.2.1 dX9_check_187 rfl (lv_at hl 4 rfl) ?_
      obtain ⟨y41, ey41, hf⟩ := obd hf
      have Jy41 : ∀ (H : Heap) (locs : List Loc) (ls : Array Slot), Wd D cy A s.heap h M H locs → lv_has ls 8 [(6, .int y41.2), (5, .int y41.1), (7, .int v7), (4, .int w4), (3, .int w3), (2, .int w2), (0, .ref a0)] → W p l e ({ frames := 6, cells := 0, slots := 0, locals := 142 } : Room) s m args below meth c H locs 0 0 Q (F0 m 241 ls []) := by
        intro H locs ls hw hl
        obtain ⟨x42, ex42, hf⟩ := olt hf
        refine lv_iinc (v := x42) (lv' := [(7, .int x42), (6, .int y41.2), (5, .int y41.1), (4, .int w4), (3, .int w3), (2, .int w2), (0, .ref a0)]) X.1.1 X.1.2.1 dX9_check_241 hl (k := 2) rfl (by rw [ex42]; rfl) (by decide) rfl (fun ls hl => ?_)
        refine lv_goto (tgt := 170) X.1.1 X.1.2.1 dX9_check_244 (by decide) ?_
        exact ih _ _ _ _ _ _ _ hf hw (lv_sub hl [2, 1, 0, 3, 4, 5, 6] rfl) kx
      clear hf
      have hf := ey41
      clear ey41
      refine lv_icmp_eq (tgt := 194) X.1.1 X.1.2.1 dX9_check_188 (by decide) (fun c_33 => ?_) (fun c_33 => ?_)
      · skip
        rw [if_pos c_33] at hf
        obtain ⟨x34, ex34, hf⟩ := olt hf
        refine lv_iinc (v := x34) (lv' := [(5, .int x34), (6, .int v6), (7, .int v7), (4, .int w4), (3, .int w3), (2, .int w2), (0, .ref a0)]) X.1.1 X.1.2.1 dX9_check_194 hl (k := 0) rfl (by rw [ex34]; rfl) (by decide) rfl (fun ls hl => ?_)
        refine lv_iload X.1.1 X.1.2.1 dX9_check_197 (lv_at hl 1 rfl) ?_
        obtain ⟨y40, ey40, hf⟩ := obd hf
        have Jy40 : ∀ (H : Heap) (locs : List Loc) (ls : Array Slot), Wd D cy A s.heap h M H locs → lv_has ls 8 [(5, .int x34), (7, .int v7), (4, .int w4), (3, .int w3), (2, .int w2), (0, .ref a0)] → W p l e ({ frames := 6, cells := 0, slots := 0, locals := 142 } : Room) s m args below meth c H locs 0 0 Q (F0 m 239 ls [.int y40]) := by
          intro H locs ls hw hl
          refine lv_istore (lv' := [(6, .int y40), (5, .int x34), (7, .int v7), (4, .int w4), (3, .int w3), (2, .int w2), (0, .ref a0)]) X.1.1 X.1.2.1 dX9_check_239 hl (by decide) rfl (fun ls hl => ?_)
          cases hf
          exact Jy41 _ _ _ hw (lv_sub hl [0, 1, 2, 3, 4, 5, 6] rfl)
        clear hf
        have hf := ey40
        clear ey40
        refine lv_if_eq (tgt := 238) X.1.1 X.1.2.1 dX9_check_199 (by decide) (fun c_35 => ?_) (fun c_35 => ?_)
        · skip
          rw [if_pos c_35] at hf
          refine lv_iconst (v := (0 : Int32)) X.1.1 X.1.2.1 dX9_check_238 (by decide) ?_
          cases hf
          exact Jy40 _ _ _ hw (lv_sub hl [0, 2, 3, 4, 5, 6] rfl)
        · skip
          rw [if_neg c_35] at hf
          refine lv_aload_n X.1.1 X.1.2.1 dX9_check_202 rfl (lv_at hl 6 rfl) ?_
          refine r_getq (k := 9) (j := 6) X hw rfl inX9 g_a0 rfl (by decide) (by decide) uf_X9_23 rfl dX9_check_203 eq31 ?_
          refine lv_iload X.1.1 X.1.2.1 dX9_check_206 (lv_at hl 2 rfl) ?_
          refine lv_iconst (v := (2 : Int32)) X.1.1 X.1.2.1 dX9_check_208 (by decide) ?_
          refine lv_irem X.1.1 X.1.2.1 dX9_check_209 (by decide) ?_
          obtain ⟨y37, ey37, hf⟩ := obd hf
          have Jy37 : ∀ (H : Heap) (locs : List Loc) (ls : Array Slot), Wd D cy A s.heap h M H locs → lv_has ls 8 [(5, .int x34), (7, .int v7), (4, .int w4), (3, .int w3), (2, .int w2), (0, .ref a0)] → W p l e ({ frames := 6, cells := 0, slots := 0, locals := 142 } : Room) s m args below meth c H locs 0 0 Q (F0 m 224 ls [.int y37, .ref q31]) := by
            intro H locs ls hw hl
            obtain ⟨i_38, hf⟩ := ogd hf
            refine r_bald X hw g_q31 i_38 dX9_check_224 ?_
            refine lv_sipush (v := (255 : Int32)) X.1.1 X.1.2.1 dX9_check_225 (by decide) ?_
            refine lv_iand X.1.1 X.1.2.1 dX9_check_228 ?_
            refine lv_iload X.1.1 X.1.2.1 dX9_check_229 (lv_at hl 2 rfl) ?_
            refine lv_icmp_ne (tgt := 238) X.1.1 X.1.2.1 dX9_check_231 (by decide) (fun c_39 => ?_) (fun c_39 => ?_)
            · skip
              rw [if_pos c_39] at hf
              refine lv_iconst (v := (0 : Int32)) X.1.1 X.1.2.1 dX9_check_238 (by decide) ?_
              cases hf
              exact Jy40 _ _ _ hw (lv_sub hl [0, 1, 2, 3, 4, 5] rfl)
            · skip
              rw [if_neg (fun z => z c_39)] at hf
              refine lv_iconst (v := (1 : Int32)) X.1.1 X.1.2.1 dX9_check_234 (by decide) ?_
              refine lv_goto (tgt := 239) X.1.1 X.1.2.1 dX9_check_235 (by decide) ?_
              cases hf
              exact Jy40 _ _ _ hw (lv_sub hl [0, 1, 2, 3, 4, 5] rfl)
          clear hf
          have hf := ey37
          clear ey37
          refine lv_if_ne (tgt := 220) X.1.1 X.1.2.1 dX9_check_210 (by decide) (fun c_36 => ?_) (fun c_36 => ?_)
          · skip
            rw [if_pos c_36] at hf
            refine lv_iload X.1.1 X.1.2.1 dX9_check_220 (lv_at hl 2 rfl) ?_
            refine lv_iconst (v := (1 : Int32)) X.1.1 X.1.2.1 dX9_check_222 (by decide) ?_
            refine lv_isub X.1.1 X.1.2.1 dX9_check_223 ?_
            cases hf
            exact Jy37 _ _ _ hw (lv_sub hl [0, 2, 3, 4, 5, 6] rfl)
          · skip
            rw [if_neg (fun z => z c_36)] at hf
            refine lv_iload X.1.1 X.1.2.1 dX9_check_213 (lv_at hl 2 rfl) ?_
            refine lv_iconst (v := (1 : Int32)) X.1.1 X.1.2.1 dX9_check_215 (by decide) ?_
            refine lv_iadd X.1.1 X.1.2.1 dX9_check_216 ?_
            refine lv_goto (tgt := 224) X.1.1 X.1.2.1 dX9_check_217 (by decide) ?_
            cases hf
            exact Jy37 _ _ _ hw (lv_sub hl [0, 2, 3, 4, 5, 6] rfl)
      · skip
        rw [if_neg c_33] at hf
        refine lv_goto (tgt := 241) X.1.1 X.1.2.1 dX9_check_191 (by decide) ?_
        cases hf
        exact Jy41 _ _ _ hw (lv_sub hl [1, 0, 2, 3, 4, 5, 6] rfl)
def lp_X9_check_86 (h : Hs) (w2 : Int32) (a0 : Nat) (M : Mm) : Nat → Int32 → Option ((Int32 × Mm) ⊕ Int32)
  | 0, _ => none
  | n + 1, v3 =>
    if (zI M a0 12) ≤ v3 then
      some (.inr v3)
    else
      (lp_X9_check_100 h v3 w2 a0 M fuel (-1 : Int32) (0 : Int32)).bind fun z29 =>
      (lp_X9_check_170 h z29.1 v3 w2 a0 M fuel (0 : Int32) (1 : Int32) (0 : Int32)).bind fun z43 =>
      if z43.2.1 = 0 then
        some (.inl ((1 : Int32) + v3, M))
      else
        Option.bind (
          if 0 ≤ z29.1 then
            some (1 : Int32)
          else
            some (0 : Int32)
          ) fun y46 =>
        if z43.1 = y46 then
          lt_ (v3 + (1 : Int32)) fun x48 =>
          lp_X9_check_86 h w2 a0 M n x48
        else
          some (.inl ((1 : Int32) + v3, M))
set_option maxHeartbeats 4000000 in
set_option maxRecDepth 100000 in
theorem wlp_X9_check_86 {l : Launch} {D : va_G} {cy : Nat → ClassId} {h : Hs} {w2 : Int32} {a0 : Nat} {M : Mm} {p : Program} {e : Env} {s : State} {m : MethodId} {args : Array Value} {below : List Frame} {meth : Method} {c : Code} {A : Nat → Prop} (X : Cx p s m args c cX9_check 8 gtbl RX9 D cy A) {zf : (Int32 × Mm)} (hr : meth.sig.returnType = (some .int)) (hlk : meth.locks = false) (g_a0 : ok h a0 9) : ∀ (n : Nat) (v3 : Int32) (z : ((Int32 × Mm) ⊕ Int32)) (H : Heap) (locs : List Loc) (ls : Array Slot), lp_X9_check_86 h w2 a0 M n v3 = some z → Wd D cy A s.heap h M H locs → lv_has ls 8 [(3, .int v3), (2, .int w2), (0, .ref a0)] → (∀ rr, z = .inl rr → rr = zf) → (∀ x : Int32, z = .inr x → ∀ (H : Heap) (locs : List Loc) (ls : Array Slot), Wd D cy A s.heap h M H locs → lv_has ls 8 [(3, .int x), (2, .int w2), (0, .ref a0)] → W p l e ({ frames := 6, cells := 0, slots := 0, locals := 142 } : Room) s m args below meth c H locs 0 0 (QI below D cy A h args s zf.1 zf.2) (F0 m 277 ls [])) → W p l e ({ frames := 6, cells := 0, slots := 0, locals := 142 } : Room) s m args below meth c H locs 0 0 (QI below D cy A h args s zf.1 zf.2) (F0 m 86 ls []) := by
  intro n
  induction n with
  | zero => intro v3 z H locs ls hf hw hl kr kx; exact absurd hf (by intro q; cases q)
  | succ n ih =>
    intro v3 z H locs ls hf hw hl kr kx
    unfold lp_X9_check_86 at hf
    refine lv_iload_n X.1.1 X.1.2.1 dX9_check_86 rfl (lv_at hl 0 rfl) ?_
    refine lv_aload_n X.1.1 X.1.2.1 dX9_check_87 rfl (lv_at hl 2 rfl) ?_
    refine r_geti (k := 9) (j := 12) X hw rfl inX9 g_a0 rfl (by decide) (by decide) uf_X9_138 rfl dX9_check_88 ?_
    refine lv_icmp_ge (tgt := 277) X.1.1 X.1.2.1 dX9_check_91 (by decide) (fun c_16 => ?_) (fun c_16 => ?_)
    · skip
      rw [if_pos c_16] at hf
      cases hf
      exact kx _ rfl _ _ _ hw (lv_sub hl [0, 1, 2] rfl)
    · skip
      rw [if_neg c_16] at hf
      refine lv_iconst (v := (-1 : Int32)) X.1.1 X.1.2.1 dX9_check_94 (by decide) ?_
      refine lv_istore (lv' := [(4, .int (-1 : Int32)), (3, .int v3), (2, .int w2), (0, .ref a0)]) X.1.1 X.1.2.1 dX9_check_95 hl (by decide) rfl (fun ls hl => ?_)
      refine lv_iconst (v := (0 : Int32)) X.1.1 X.1.2.1 dX9_check_97 (by decide) ?_
      refine lv_istore (lv' := [(5, .int (0 : Int32)), (4, .int (-1 : Int32)), (3, .int v3), (2, .int w2), (0, .ref a0)]) X.1.1 X.1.2.1 dX9_check_98 hl (by decide) rfl (fun ls hl => ?_)
      obtain ⟨z29, ez29, hf⟩ := obd hf
      refine wlp_X9_check_100 X g_a0 fuel _ _ _ _ _ _ ez29 hw (lv_sub hl [1, 0, 2, 3, 4] rfl) (fun x ex H locs ls hw hl => ?_)
      subst ex
      refine lv_iconst (v := (0 : Int32)) X.1.1 X.1.2.1 dX9_check_161 (by decide) ?_
      refine lv_istore (lv' := [(5, .int (0 : Int32)), (4, .int z29.1), (3, .int v3), (2, .int w2), (0, .ref a0)]) X.1.1 X.1.2.1 dX9_check_162 hl (by decide) rfl (fun ls hl => ?_)
      refine lv_iconst (v := (1 : Int32)) X.1.1 X.1.2.1 dX9_check_164 (by decide) ?_
      refine lv_istore (lv' := [(6, .int (1 : Int32)), (5, .int (0 : Int32)), (4, .int z29.1), (3, .int v3), (2, .int w2), (0, .ref a0)]) X.1.1 X.1.2.1 dX9_check_165 hl (by decide) rfl (fun ls hl => ?_)
      refine lv_iconst (v := (0 : Int32)) X.1.1 X.1.2.1 dX9_check_167 (by decide) ?_
      refine lv_istore (lv' := [(7, .int (0 : Int32)), (6, .int (1 : Int32)), (5, .int (0 : Int32)), (4, .int z29.1), (3, .int v3), (2, .int w2), (0, .ref a0)]) X.1.1 X.1.2.1 dX9_check_168 hl (by decide) rfl (fun ls hl => ?_)
      obtain ⟨z43, ez43, hf⟩ := obd hf
      refine wlp_X9_check_170 X g_a0 fuel _ _ _ _ _ _ _ ez43 hw (lv_sub hl [2, 1, 0, 3, 4, 5, 6] rfl) (fun x ex H locs ls hw hl => ?_)
      subst ex
      refine lv_iload X.1.1 X.1.2.1 dX9_check_247 (lv_at hl 1 rfl) ?_
      refine lv_if_eq (tgt := 267) X.1.1 X.1.2.1 dX9_check_249 (by decide) (fun c_44 => ?_) (fun c_44 => ?_)
      · skip
        rw [if_pos c_44] at hf
        refine lv_iconst (v := (1 : Int32)) X.1.1 X.1.2.1 dX9_check_267 (by decide) ?_
        refine lv_iload_n X.1.1 X.1.2.1 dX9_check_268 rfl (lv_at hl 4 rfl) ?_
        refine lv_iadd X.1.1 X.1.2.1 dX9_check_269 ?_
        cases hf
        cases kr _ rfl
        exact r_retI (v := (1 : Int32) + v3) X hw hr hlk rfl dX9_check_270
      · skip
        rw [if_neg c_44] at hf
        refine lv_iload X.1.1 X.1.2.1 dX9_check_252 (lv_at hl 0 rfl) ?_
        refine lv_iload X.1.1 X.1.2.1 dX9_check_254 (lv_at hl 3 rfl) ?_
        obtain ⟨y46, ey46, hf⟩ := obd hf
        have Jy46 : ∀ (H : Heap) (locs : List Loc) (ls : Array Slot), Wd D cy A s.heap h M H locs → lv_has ls 8 [(3, .int v3), (2, .int w2), (0, .ref a0)] → W p l e ({ frames := 6, cells := 0, slots := 0, locals := 142 } : Room) s m args below meth c H locs 0 0 (QI below D cy A h args s zf.1 zf.2) (F0 m 264 ls [.int y46, .int z43.1]) := by
          intro H locs ls hw hl
          refine lv_icmp_eq (tgt := 271) X.1.1 X.1.2.1 dX9_check_264 (by decide) (fun c_47 => ?_) (fun c_47 => ?_)
          · skip
            rw [if_pos c_47] at hf
            obtain ⟨x48, ex48, hf⟩ := olt hf
            refine lv_iinc (v := x48) (lv' := [(3, .int x48), (2, .int w2), (0, .ref a0)]) X.1.1 X.1.2.1 dX9_check_271 hl (k := 0) rfl (by rw [ex48]; rfl) (by decide) rfl (fun ls hl => ?_)
            refine lv_goto (tgt := 86) X.1.1 X.1.2.1 dX9_check_274 (by decide) ?_
            exact ih _ _ _ _ _ hf hw (lv_sub hl [0, 1, 2] rfl) kr kx
          · skip
            rw [if_neg c_47] at hf
            refine lv_iconst (v := (1 : Int32)) X.1.1 X.1.2.1 dX9_check_267 (by decide) ?_
            refine lv_iload_n X.1.1 X.1.2.1 dX9_check_268 rfl (lv_at hl 0 rfl) ?_
            refine lv_iadd X.1.1 X.1.2.1 dX9_check_269 ?_
            cases hf
            cases kr _ rfl
            exact r_retI (v := (1 : Int32) + v3) X hw hr hlk rfl dX9_check_270
        clear hf
        have hf := ey46
        clear ey46
        refine lv_if_ge (tgt := 263) X.1.1 X.1.2.1 dX9_check_256 (by decide) (fun c_45 => ?_) (fun c_45 => ?_)
        · skip
          rw [if_pos c_45] at hf
          refine lv_iconst (v := (1 : Int32)) X.1.1 X.1.2.1 dX9_check_263 (by decide) ?_
          cases hf
          exact Jy46 _ _ _ hw (lv_sub hl [4, 5, 6] rfl)
        · skip
          rw [if_neg c_45] at hf
          refine lv_iconst (v := (0 : Int32)) X.1.1 X.1.2.1 dX9_check_259 (by decide) ?_
          refine lv_goto (tgt := 264) X.1.1 X.1.2.1 dX9_check_260 (by decide) ?_
          cases hf
          exact Jy46 _ _ _ hw (lv_sub hl [4, 5, 6] rfl)
def f_X9_check (h : Hs) (a0 : Nat) (p1 : Int32) (M : Mm) : Option (Int32 × Mm) :=
  gd (ok h a0 9) <|
  lt_ (sI M a0 0 (0 : Int32)) fun M1 =>
  lt_ (zI M1 a0 7) fun x2 =>
  lt_ (sI M1 a0 7 (0 : Int32)) fun M3 =>
  (f_X9_isGauge h a0 p1 M3).bind fun z4 =>
  if ¬ z4 = 0 then
    (f_X9_look h a0 p1 (0 : Int32) M3).bind fun z6 =>
    if (x2 - x2 / (2 : Int32) * (2 : Int32)) = (1 : Int32) then
      some ((-2 : Int32), z6)
    else
      if (zI z6 a0 12) ≤ (256 : Int32) then
        (lp_X9_check_53 h x2 a0 z6 fuel (0 : Int32)).bind fun z14 =>
        sm z14 (fun r => some r) (fun y15 =>
          (lp_X9_check_86 h x2 a0 z6 fuel (0 : Int32)).bind fun z49 =>
          sm z49 (fun r => some r) (fun y50 =>
            some ((0 : Int32), z6)
            )
          )
      else
        some ((-2 : Int32), z6)
  else
    some ((-1 : Int32), M3)
set_option maxHeartbeats 4000000 in
set_option maxRecDepth 100000 in
theorem c_X9_check {l : Launch} {D : va_G} {cy : Nat → ClassId} {h : Hs} {a0 : Nat} {p1 : Int32} {M : Mm} {z : (Int32 × Mm)} (hf : f_X9_check h a0 p1 M = some z) : CtI l D cy yX9_check (wu yX9_check cX9_check 8 (some .int)) ({ frames := 6, cells := 0, slots := 0, locals := 142 }) [.ref a0, .int p1] h M z.1 z.2 := by
  refine enterI (cc := cX9_check) (maxL := 8) (ret := (some .int)) (by decide) (Nat.le_of_ble_eq_true rfl) ?_
  intro p e s m args below meth c A ls X hw hr hlk hl
  have hl : lv_has ls 8 [(0, .ref a0), (1, .int p1)] := hl
  unfold f_X9_check at hf
  refine lv_aload_n X.1.1 X.1.2.1 dX9_check_0 rfl (lv_at hl 0 rfl) ?_
  refine lv_iconst (v := (0 : Int32)) X.1.1 X.1.2.1 dX9_check_1 (by decide) ?_
  obtain ⟨g_a0, hf⟩ := ogd hf
  refine r_puti (k := 9) (j := 0) X hw rfl inX9 tyX9_ok nmX9 g_a0 rfl (by decide) (by decide) uf_X9_1 rfl rfl rfl rfl dX9_check_2 (fun H locs hw => ?_)
  obtain ⟨M1, eM1, hf⟩ := olt hf
  rw [← eM1] at hw
  refine lv_aload_n X.1.1 X.1.2.1 dX9_check_5 rfl (lv_at hl 0 rfl) ?_
  refine r_geti (k := 9) (j := 7) X hw rfl inX9 g_a0 rfl (by decide) (by decide) uf_X9_64 rfl dX9_check_6 ?_
  refine lv_topi (fun x2 ex2 => ?_)
  have hf := oltE ex2 hf
  refine lv_istore_n (lv' := [(2, .int x2), (0, .ref a0), (1, .int p1)]) X.1.1 X.1.2.1 dX9_check_9 rfl hl (by decide) rfl (fun ls hl => ?_)
  refine lv_aload_n X.1.1 X.1.2.1 dX9_check_10 rfl (lv_at hl 1 rfl) ?_
  refine lv_iconst (v := (0 : Int32)) X.1.1 X.1.2.1 dX9_check_11 (by decide) ?_
  refine r_puti (k := 9) (j := 7) X hw rfl inX9 tyX9_ok nmX9 g_a0 rfl (by decide) (by decide) uf_X9_64 rfl rfl rfl rfl dX9_check_12 (fun H locs hw => ?_)
  obtain ⟨M3, eM3, hf⟩ := olt hf
  rw [← eM3] at hw
  refine lv_aload_n X.1.1 X.1.2.1 dX9_check_15 rfl (lv_at hl 1 rfl) ?_
  refine lv_iload_n X.1.1 X.1.2.1 dX9_check_16 rfl (lv_at hl 2 rfl) ?_
  obtain ⟨z4, ez4, hf⟩ := obd hf
  refine r_callVI (As := [.int p1]) (rest := []) X hw (c_X9_isGauge ez4) (cwV 1 X.1.2.2.2.2 (guV um_X9_154 ui_X9_isGauge us_X9_isGauge un_X9 uo_X9_isGauge) rfl rfl rfl (by decide +kernel) ⟨Nat.le_of_ble_eq_true rfl, Nat.le_of_ble_eq_true rfl⟩) g_a0 (by decide) rfl rfl hl.1 rfl (Nat.le_of_ble_eq_true rfl) dX9_check_17 ⟨Nat.zero_le _, Nat.zero_le _⟩ (fun H locs hw => ?_)
  refine lv_if_ne (tgt := 25) X.1.1 X.1.2.1 dX9_check_20 (by decide) (fun c_5 => ?_) (fun c_5 => ?_)
  · skip
    rw [if_pos c_5] at hf
    refine lv_aload_n X.1.1 X.1.2.1 dX9_check_25 rfl (lv_at hl 1 rfl) ?_
    refine lv_iload_n X.1.1 X.1.2.1 dX9_check_26 rfl (lv_at hl 2 rfl) ?_
    refine lv_iconst (v := (0 : Int32)) X.1.1 X.1.2.1 dX9_check_27 (by decide) ?_
    obtain ⟨z6, ez6, hf⟩ := obd hf
    refine r_callVV (As := [.int p1, .int (0 : Int32)]) (rest := []) X hw (c_X9_look ez6) (cwV 2 X.1.2.2.2.2 (guV um_X9_157 ui_X9_look us_X9_look un_X9 uo_X9_look) rfl rfl rfl (by decide +kernel) ⟨Nat.le_of_ble_eq_true rfl, Nat.le_of_ble_eq_true rfl⟩) g_a0 (by decide) rfl rfl hl.1 rfl (Nat.le_of_ble_eq_true rfl) dX9_check_28 ⟨Nat.zero_le _, Nat.zero_le _⟩ (fun H locs hw => ?_)
    refine lv_iload_n X.1.1 X.1.2.1 dX9_check_31 rfl (lv_at hl 0 rfl) ?_
    refine lv_iconst (v := (2 : Int32)) X.1.1 X.1.2.1 dX9_check_32 (by decide) ?_
    refine lv_irem X.1.1 X.1.2.1 dX9_check_33 (by decide) ?_
    refine lv_iconst (v := (1 : Int32)) X.1.1 X.1.2.1 dX9_check_34 (by decide) ?_
    refine lv_icmp_eq (tgt := 48) X.1.1 X.1.2.1 dX9_check_35 (by decide) (fun c_7 => ?_) (fun c_7 => ?_)
    · skip
      rw [if_pos c_7] at hf
      refine lv_bipush (v := (-2 : Int32)) X.1.1 X.1.2.1 dX9_check_48 (by decide) ?_
      cases hf
      exact r_retI (v := (-2 : Int32)) X hw hr hlk rfl dX9_check_50
    · skip
      rw [if_neg c_7] at hf
      refine lv_aload_n X.1.1 X.1.2.1 dX9_check_38 rfl (lv_at hl 1 rfl) ?_
      refine r_geti (k := 9) (j := 12) X hw rfl inX9 g_a0 rfl (by decide) (by decide) uf_X9_138 rfl dX9_check_39 ?_
      refine lv_sipush (v := (256 : Int32)) X.1.1 X.1.2.1 dX9_check_42 (by decide) ?_
      refine lv_icmp_le (tgt := 51) X.1.1 X.1.2.1 dX9_check_45 (by decide) (fun c_8 => ?_) (fun c_8 => ?_)
      · skip
        rw [if_pos c_8] at hf
        refine lv_iconst (v := (0 : Int32)) X.1.1 X.1.2.1 dX9_check_51 (by decide) ?_
        refine lv_istore_n (lv' := [(3, .int (0 : Int32)), (2, .int x2), (0, .ref a0), (1, .int p1)]) X.1.1 X.1.2.1 dX9_check_52 rfl hl (by decide) rfl (fun ls hl => ?_)
        obtain ⟨z14, ez14, hf⟩ := obd hf
        refine wlp_X9_check_53 X hr hlk g_a0 fuel _ _ _ _ _ ez14 hw (lv_sub hl [0, 1, 2] rfl) (fun rr er => ?_) (fun y15 ex H locs ls hw hl => ?_)
        · subst er
          exact Option.some.inj hf
        · subst ex
          dsimp only [sm] at hf
          refine lv_iconst (v := (0 : Int32)) X.1.1 X.1.2.1 dX9_check_84 (by decide) ?_
          refine lv_istore_n (lv' := [(3, .int (0 : Int32)), (2, .int x2), (0, .ref a0)]) X.1.1 X.1.2.1 dX9_check_85 rfl hl (by decide) rfl (fun ls hl => ?_)
          obtain ⟨z49, ez49, hf⟩ := obd hf
          refine wlp_X9_check_86 X hr hlk g_a0 fuel _ _ _ _ _ ez49 hw (lv_sub hl [0, 1, 2] rfl) (fun rr er => ?_) (fun y50 ex H locs ls hw hl => ?_)
          · subst er
            exact Option.some.inj hf
          · subst ex
            dsimp only [sm] at hf
            refine lv_iconst (v := (0 : Int32)) X.1.1 X.1.2.1 dX9_check_277 (by decide) ?_
            cases hf
            exact r_retI (v := (0 : Int32)) X hw hr hlk rfl dX9_check_278
      · skip
        rw [if_neg c_8] at hf
        refine lv_bipush (v := (-2 : Int32)) X.1.1 X.1.2.1 dX9_check_48 (by decide) ?_
        cases hf
        exact r_retI (v := (-2 : Int32)) X hw hr hlk rfl dX9_check_50
  · skip
    rw [if_neg (fun z => z c_5)] at hf
    refine lv_iconst (v := (-1 : Int32)) X.1.1 X.1.2.1 dX9_check_23 (by decide) ?_
    cases hf
    exact r_retI (v := (-1 : Int32)) X hw hr hlk rfl dX9_check_24
/-! X9_base -/
def f_X9_base (h : Hs) (a0 : Nat) (p1 : Int32) (M : Mm) : Option Int32 :=
  some ((4848 : Int32) + ((40 : Int32) * p1))
set_option maxHeartbeats 4000000 in
set_option maxRecDepth 100000 in
theorem c_X9_base {l : Launch} {D : va_G} {cy : Nat → ClassId} {h : Hs} {a0 : Nat} {p1 : Int32} {M : Mm} {z : Int32} (hf : f_X9_base h a0 p1 M = some z) : CtI l D cy yX9_base (wu yX9_base cX9_base 2 (some .int)) ({ frames := 0, cells := 0, slots := 0, locals := 0 }) [.ref a0, .int p1] h M z M := by
  refine enterI (cc := cX9_base) (maxL := 2) (ret := (some .int)) (by decide) (Nat.le_of_ble_eq_true rfl) ?_
  intro p e s m args below meth c A ls X hw hr hlk hl
  have hl : lv_has ls 2 [(0, .ref a0), (1, .int p1)] := hl
  unfold f_X9_base at hf
  refine lv_sipush (v := (4848 : Int32)) X.1.1 X.1.2.1 dX9_base_0 (by decide) ?_
  refine lv_bipush (v := (40 : Int32)) X.1.1 X.1.2.1 dX9_base_3 (by decide) ?_
  refine lv_iload_n X.1.1 X.1.2.1 dX9_base_5 rfl (lv_at hl 1 rfl) ?_
  refine lv_imul X.1.1 X.1.2.1 dX9_base_6 ?_
  refine lv_iadd X.1.1 X.1.2.1 dX9_base_7 ?_
  cases hf
  exact r_retI X hw hr hlk rfl dX9_base_8
/-! X9_detail -/
def f_X9_detail (h : Hs) (a0 : Nat) (p1 : Int32) (p2 : Int32) (M : Mm) : Option (Int32 × Mm) :=
  gd (ok h a0 9) <|
  lt_ (sI M a0 0 (0 : Int32)) fun M1 =>
  (f_X9_no h p1 M1).bind fun z2 =>
  if ¬ z2 = 0 then
    some ((0 : Int32), M1)
  else
    if p2 = (-1 : Int32) then
      (f_X9_act h a0 M1).bind fun z5 =>
      dq (zR h a0 1) fun q6 =>
      (f_X9_base h a0 p1 z5).bind fun z7 =>
      gd (ok h q6 11) <|
      gd (inb (z7 + (0 : Int32)) (zN h q6)) <|
      lt_ (sI z5 q6 (z7 + (0 : Int32)).toNatClampNeg p2) fun M9 =>
      some ((1 : Int32), M9)
    else
      (f_X9_no h p2 M1).bind fun z10 =>
      if z10 = 0 then
        (f_X9_act h a0 M1).bind fun z12 =>
        dq (zR h a0 1) fun q13 =>
        (f_X9_base h a0 p1 z12).bind fun z14 =>
        gd (ok h q13 11) <|
        gd (inb (z14 + (0 : Int32)) (zN h q13)) <|
        lt_ (sI z12 q13 (z14 + (0 : Int32)).toNatClampNeg p2) fun M16 =>
        some ((1 : Int32), M16)
      else
        some ((0 : Int32), M1)
set_option maxHeartbeats 4000000 in
set_option maxRecDepth 100000 in
theorem c_X9_detail {l : Launch} {D : va_G} {cy : Nat → ClassId} {h : Hs} {a0 : Nat} {p1 : Int32} {p2 : Int32} {M : Mm} {z : (Int32 × Mm)} (hf : f_X9_detail h a0 p1 p2 M = some z) : CtI l D cy yX9_detail (wu yX9_detail cX9_detail 3 (some .boolean)) ({ frames := 2, cells := 0, slots := 0, locals := 43 }) [.ref a0, .int p1, .int p2] h M z.1 z.2 := by
  refine enterI (cc := cX9_detail) (maxL := 3) (ret := (some .boolean)) (by decide) (Nat.le_of_ble_eq_true rfl) ?_
  intro p e s m args below meth c A ls X hw hr hlk hl
  have hl : lv_has ls 3 [(0, .ref a0), (1, .int p1), (2, .int p2)] := hl
  unfold f_X9_detail at hf
  refine lv_aload_n X.1.1 X.1.2.1 dX9_detail_0 rfl (lv_at hl 0 rfl) ?_
  refine lv_iconst (v := (0 : Int32)) X.1.1 X.1.2.1 dX9_detail_1 (by decide) ?_
  obtain ⟨g_a0, hf⟩ := ogd hf
  refine r_puti (k := 9) (j := 0) X hw rfl inX9 tyX9_ok nmX9 g_a0 rfl (by decide) (by decide) uf_X9_1 rfl rfl rfl rfl dX9_detail_2 (fun H locs hw => ?_)
  obtain ⟨M1, eM1, hf⟩ := olt hf
  rw [← eM1] at hw
  refine lv_iload_n X.1.1 X.1.2.1 dX9_detail_5 rfl (lv_at hl 1 rfl) ?_
  obtain ⟨z2, ez2, hf⟩ := obd hf
  refine r_callSI (As := [.int p1]) (rest := []) X hw (c_X9_no ez2) (va_cwS 1 X.1.2.2.2.2 (guS um_X9_71 ut_X9_no un_X9 uo_X9_no) rfl rfl rfl (by decide +kernel) ⟨Nat.le_of_ble_eq_true rfl, Nat.le_of_ble_eq_true rfl⟩) rfl hl.1 rfl (Nat.le_of_ble_eq_true rfl) dX9_detail_6 ⟨Nat.zero_le _, Nat.zero_le _⟩ (fun H locs hw => ?_)
  refine lv_if_ne (tgt := 24) X.1.1 X.1.2.1 dX9_detail_9 (by decide) (fun c_3 => ?_) (fun c_3 => ?_)
  · skip
    rw [if_pos c_3] at hf
    refine lv_iconst (v := (0 : Int32)) X.1.1 X.1.2.1 dX9_detail_24 (by decide) ?_
    cases hf
    exact r_retI (v := (0 : Int32)) X hw hr hlk rfl dX9_detail_25
  · skip
    rw [if_neg (fun z => z c_3)] at hf
    refine lv_iload_n X.1.1 X.1.2.1 dX9_detail_12 rfl (lv_at hl 2 rfl) ?_
    refine lv_iconst (v := (-1 : Int32)) X.1.1 X.1.2.1 dX9_detail_13 (by decide) ?_
    refine lv_icmp_eq (tgt := 26) X.1.1 X.1.2.1 dX9_detail_14 (by decide) (fun c_4 => ?_) (fun c_4 => ?_)
    · skip
      rw [if_pos c_4] at hf
      refine lv_aload_n X.1.1 X.1.2.1 dX9_detail_26 rfl (lv_at hl 0 rfl) ?_
      obtain ⟨z5, ez5, hf⟩ := obd hf
      refine r_callVV (As := []) (rest := []) X hw (c_X9_act ez5) (cwV 0 X.1.2.2.2.2 (guV um_X9_76 ui_X9_act us_X9_act un_X9 uo_X9_act) rfl rfl rfl (by decide +kernel) ⟨Nat.le_of_ble_eq_true rfl, Nat.le_of_ble_eq_true rfl⟩) g_a0 (by decide) rfl rfl hl.1 rfl (Nat.le_of_ble_eq_true rfl) dX9_detail_27 ⟨Nat.zero_le _, Nat.zero_le _⟩ (fun H locs hw => ?_)
      refine lv_aload_n X.1.1 X.1.2.1 dX9_detail_30 rfl (lv_at hl 0 rfl) ?_
      obtain ⟨q6, eq6, hf⟩ := odq hf
      refine r_getq (k := 9) (j := 1) X hw rfl inX9 g_a0 rfl (by decide) (by decide) uf_X9_13 rfl dX9_detail_31 eq6 ?_
      refine lv_aload_n X.1.1 X.1.2.1 dX9_detail_34 rfl (lv_at hl 0 rfl) ?_
      refine lv_iload_n X.1.1 X.1.2.1 dX9_detail_35 rfl (lv_at hl 1 rfl) ?_
      obtain ⟨z7, ez7, hf⟩ := obd hf
      refine r_callVI (As := [.int p1]) (rest := [.ref q6]) X hw (c_X9_base ez7) (cwV 1 X.1.2.2.2.2 (guV um_X9_170 ui_X9_base us_X9_base un_X9 uo_X9_base) rfl rfl rfl (by decide +kernel) ⟨Nat.le_of_ble_eq_true rfl, Nat.le_of_ble_eq_true rfl⟩) g_a0 (by decide) rfl rfl hl.1 rfl (Nat.le_of_ble_eq_true rfl) dX9_detail_36 ⟨Nat.zero_le _, Nat.zero_le _⟩ (fun H locs hw => ?_)
      refine lv_iconst (v := (0 : Int32)) X.1.1 X.1.2.1 dX9_detail_39 (by decide) ?_
      refine lv_iadd X.1.1 X.1.2.1 dX9_detail_40 ?_
      refine lv_iload_n X.1.1 X.1.2.1 dX9_detail_41 rfl (lv_at hl 2 rfl) ?_
      obtain ⟨g_q6, hf⟩ := ogd hf
      obtain ⟨i_8, hf⟩ := ogd hf
      refine r_iast X hw g_q6 i_8 dX9_detail_42 (fun H locs hw => ?_)
      obtain ⟨M9, eM9, hf⟩ := olt hf
      rw [← eM9] at hw
      refine lv_iconst (v := (1 : Int32)) X.1.1 X.1.2.1 dX9_detail_43 (by decide) ?_
      cases hf
      exact r_retI (v := (1 : Int32)) X hw hr hlk rfl dX9_detail_44
    · skip
      rw [if_neg c_4] at hf
      refine lv_iload_n X.1.1 X.1.2.1 dX9_detail_17 rfl (lv_at hl 2 rfl) ?_
      obtain ⟨z10, ez10, hf⟩ := obd hf
      refine r_callSI (As := [.int p2]) (rest := []) X hw (c_X9_no ez10) (va_cwS 1 X.1.2.2.2.2 (guS um_X9_71 ut_X9_no un_X9 uo_X9_no) rfl rfl rfl (by decide +kernel) ⟨Nat.le_of_ble_eq_true rfl, Nat.le_of_ble_eq_true rfl⟩) rfl hl.1 rfl (Nat.le_of_ble_eq_true rfl) dX9_detail_18 ⟨Nat.zero_le _, Nat.zero_le _⟩ (fun H locs hw => ?_)
      refine lv_if_eq (tgt := 26) X.1.1 X.1.2.1 dX9_detail_21 (by decide) (fun c_11 => ?_) (fun c_11 => ?_)
      · skip
        rw [if_pos c_11] at hf
        refine lv_aload_n X.1.1 X.1.2.1 dX9_detail_26 rfl (lv_at hl 0 rfl) ?_
        obtain ⟨z12, ez12, hf⟩ := obd hf
        refine r_callVV (As := []) (rest := []) X hw (c_X9_act ez12) (cwV 0 X.1.2.2.2.2 (guV um_X9_76 ui_X9_act us_X9_act un_X9 uo_X9_act) rfl rfl rfl (by decide +kernel) ⟨Nat.le_of_ble_eq_true rfl, Nat.le_of_ble_eq_true rfl⟩) g_a0 (by decide) rfl rfl hl.1 rfl (Nat.le_of_ble_eq_true rfl) dX9_detail_27 ⟨Nat.zero_le _, Nat.zero_le _⟩ (fun H locs hw => ?_)
        refine lv_aload_n X.1.1 X.1.2.1 dX9_detail_30 rfl (lv_at hl 0 rfl) ?_
        obtain ⟨q13, eq13, hf⟩ := odq hf
        refine r_getq (k := 9) (j := 1) X hw rfl inX9 g_a0 rfl (by decide) (by decide) uf_X9_13 rfl dX9_detail_31 eq13 ?_
        refine lv_aload_n X.1.1 X.1.2.1 dX9_detail_34 rfl (lv_at hl 0 rfl) ?_
        refine lv_iload_n X.1.1 X.1.2.1 dX9_detail_35 rfl (lv_at hl 1 rfl) ?_
        obtain ⟨z14, ez14, hf⟩ := obd hf
        refine r_callVI (As := [.int p1]) (rest := [.ref q13]) X hw (c_X9_base ez14) (cwV 1 X.1.2.2.2.2 (guV um_X9_170 ui_X9_base us_X9_base un_X9 uo_X9_base) rfl rfl rfl (by decide +kernel) ⟨Nat.le_of_ble_eq_true rfl, Nat.le_of_ble_eq_true rfl⟩) g_a0 (by decide) rfl rfl hl.1 rfl (Nat.le_of_ble_eq_true rfl) dX9_detail_36 ⟨Nat.zero_le _, Nat.zero_le _⟩ (fun H locs hw => ?_)
        refine lv_iconst (v := (0 : Int32)) X.1.1 X.1.2.1 dX9_detail_39 (by decide) ?_
        refine lv_iadd X.1.1 X.1.2.1 dX9_detail_40 ?_
        refine lv_iload_n X.1.1 X.1.2.1 dX9_detail_41 rfl (lv_at hl 2 rfl) ?_
        obtain ⟨g_q13, hf⟩ := ogd hf
        obtain ⟨i_15, hf⟩ := ogd hf
        refine r_iast X hw g_q13 i_15 dX9_detail_42 (fun H locs hw => ?_)
        obtain ⟨M16, eM16, hf⟩ := olt hf
        rw [← eM16] at hw
        refine lv_iconst (v := (1 : Int32)) X.1.1 X.1.2.1 dX9_detail_43 (by decide) ?_
        cases hf
        exact r_retI (v := (1 : Int32)) X hw hr hlk rfl dX9_detail_44
      · skip
        rw [if_neg c_11] at hf
        refine lv_iconst (v := (0 : Int32)) X.1.1 X.1.2.1 dX9_detail_24 (by decide) ?_
        cases hf
        exact r_retI (v := (0 : Int32)) X hw hr hlk rfl dX9_detail_25
/-! X9_more -/
def f_X9_more (h : Hs) (a0 : Nat) (p1 : Int32) (p2 : Int32) (p3 : Int32) (p4 : Int32) (p5 : Int32) (p6 : Int32) (p7 : Int32) (M : Mm) : Option (Int32 × Mm) :=
  gd (ok h a0 9) <|
  lt_ (sI M a0 0 (0 : Int32)) fun M1 =>
  (f_X9_no h p1 M1).bind fun z2 =>
  if ¬ z2 = 0 then
    some ((-1 : Int32), M1)
  else
    if ¬ p7 = 0 then
      (f_X9_base h a0 p1 M1).bind fun z5 =>
      lt_ (z5 + p2) fun x6 =>
      dq (zR h a0 1) fun q7 =>
      gd (ok h q7 11) <|
      gd (inb x6 (zN h q7)) <|
      lt_ (zI M1 q7 x6.toNatClampNeg) fun x9 =>
      if x9 = p3 then
        some ((-1 : Int32), M1)
      else
        if ¬ x9 = 0 then
          gd (inb ((x6 + ((2 : Int32) * x9)) - (1 : Int32)) (zN h q7)) <|
          if (zI M1 q7 ((x6 + ((2 : Int32) * x9)) - (1 : Int32)).toNatClampNeg) < p5 then
            (f_X9_act h a0 M1).bind fun z14 =>
            gd (inb ((x6 + (1 : Int32)) + ((2 : Int32) * x9)) (zN h q7)) <|
            lt_ (sI z14 q7 ((x6 + (1 : Int32)) + ((2 : Int32) * x9)).toNatClampNeg p5) fun M16 =>
            gd (inb ((x6 + (2 : Int32)) + ((2 : Int32) * x9)) (zN h q7)) <|
            lt_ (sI M16 q7 ((x6 + (2 : Int32)) + ((2 : Int32) * x9)).toNatClampNeg p6) fun M18 =>
            gd (inb x6 (zN h q7)) <|
            lt_ (sI M18 q7 x6.toNatClampNeg (x9 + (1 : Int32))) fun M20 =>
            some (x9 + (1 : Int32), M20)
          else
            some ((-1 : Int32), M1)
        else
          if p4 ≤ p5 then
            (f_X9_act h a0 M1).bind fun z22 =>
            gd (inb ((x6 + (1 : Int32)) + ((2 : Int32) * x9)) (zN h q7)) <|
            lt_ (sI z22 q7 ((x6 + (1 : Int32)) + ((2 : Int32) * x9)).toNatClampNeg p5) fun M24 =>
            gd (inb ((x6 + (2 : Int32)) + ((2 : Int32) * x9)) (zN h q7)) <|
            lt_ (sI M24 q7 ((x6 + (2 : Int32)) + ((2 : Int32) * x9)).toNatClampNeg p6) fun M26 =>
            gd (inb x6 (zN h q7)) <|
            lt_ (sI M26 q7 x6.toNatClampNeg (x9 + (1 : Int32))) fun M28 =>
            some (x9 + (1 : Int32), M28)
          else
            some ((-1 : Int32), M1)
    else
      some ((-1 : Int32), M1)
set_option maxHeartbeats 4000000 in
set_option maxRecDepth 100000 in
theorem c_X9_more {l : Launch} {D : va_G} {cy : Nat → ClassId} {h : Hs} {a0 : Nat} {p1 : Int32} {p2 : Int32} {p3 : Int32} {p4 : Int32} {p5 : Int32} {p6 : Int32} {p7 : Int32} {M : Mm} {z : (Int32 × Mm)} (hf : f_X9_more h a0 p1 p2 p3 p4 p5 p6 p7 M = some z) : CtI l D cy yX9_more (wu yX9_more cX9_more 10 (some .int)) ({ frames := 2, cells := 0, slots := 0, locals := 43 }) [.ref a0, .int p1, .int p2, .int p3, .int p4, .int p5, .int p6, .int p7] h M z.1 z.2 := by
  refine enterI (cc := cX9_more) (maxL := 10) (ret := (some .int)) (by decide) (Nat.le_of_ble_eq_true rfl) ?_
  intro p e s m args below meth c A ls X hw hr hlk hl
  have hl : lv_has ls 10 [(0, .ref a0), (1, .int p1), (2, .int p2), (3, .int p3), (4, .int p4), (5, .int p5), (6, .int p6), (7, .int p7)] := hl
  unfold f_X9_more at hf
  refine lv_aload_n X.1.1 X.1.2.1 dX9_more_0 rfl (lv_at hl 0 rfl) ?_
  refine lv_iconst (v := (0 : Int32)) X.1.1 X.1.2.1 dX9_more_1 (by decide) ?_
  obtain ⟨g_a0, hf⟩ := ogd hf
  refine r_puti (k := 9) (j := 0) X hw rfl inX9 tyX9_ok nmX9 g_a0 rfl (by decide) (by decide) uf_X9_1 rfl rfl rfl rfl dX9_more_2 (fun H locs hw => ?_)
  obtain ⟨M1, eM1, hf⟩ := olt hf
  rw [← eM1] at hw
  refine lv_iload_n X.1.1 X.1.2.1 dX9_more_5 rfl (lv_at hl 1 rfl) ?_
  obtain ⟨z2, ez2, hf⟩ := obd hf
  refine r_callSI (As := [.int p1]) (rest := []) X hw (c_X9_no ez2) (va_cwS 1 X.1.2.2.2.2 (guS um_X9_71 ut_X9_no un_X9 uo_X9_no) rfl rfl rfl (by decide +kernel) ⟨Nat.le_of_ble_eq_true rfl, Nat.le_of_ble_eq_true rfl⟩) rfl hl.1 rfl (Nat.le_of_ble_eq_true rfl) dX9_more_6 ⟨Nat.zero_le _, Nat.zero_le _⟩ (fun H locs hw => ?_)
  refine lv_if_ne (tgt := 17) X.1.1 X.1.2.1 dX9_more_9 (by decide) (fun c_3 => ?_) (fun c_3 => ?_)
  · skip
    rw [if_pos c_3] at hf
    refine lv_iconst (v := (-1 : Int32)) X.1.1 X.1.2.1 dX9_more_17 (by decide) ?_
    cases hf
    exact r_retI (v := (-1 : Int32)) X hw hr hlk rfl dX9_more_18
  · skip
    rw [if_neg (fun z => z c_3)] at hf
    refine lv_iload X.1.1 X.1.2.1 dX9_more_12 (lv_at hl 7 rfl) ?_
    refine lv_if_ne (tgt := 19) X.1.1 X.1.2.1 dX9_more_14 (by decide) (fun c_4 => ?_) (fun c_4 => ?_)
    · skip
      rw [if_pos c_4] at hf
      refine lv_aload_n X.1.1 X.1.2.1 dX9_more_19 rfl (lv_at hl 0 rfl) ?_
      refine lv_iload_n X.1.1 X.1.2.1 dX9_more_20 rfl (lv_at hl 1 rfl) ?_
      obtain ⟨z5, ez5, hf⟩ := obd hf
      refine r_callVI (As := [.int p1]) (rest := []) X hw (c_X9_base ez5) (cwV 1 X.1.2.2.2.2 (guV um_X9_170 ui_X9_base us_X9_base un_X9 uo_X9_base) rfl rfl rfl (by decide +kernel) ⟨Nat.le_of_ble_eq_true rfl, Nat.le_of_ble_eq_true rfl⟩) g_a0 (by decide) rfl rfl hl.1 rfl (Nat.le_of_ble_eq_true rfl) dX9_more_21 ⟨Nat.zero_le _, Nat.zero_le _⟩ (fun H locs hw => ?_)
      refine lv_iload_n X.1.1 X.1.2.1 dX9_more_24 rfl (lv_at hl 2 rfl) ?_
      refine lv_iadd X.1.1 X.1.2.1 dX9_more_25 ?_
      refine lv_topi (fun x6 ex6 => ?_)
      have hf := oltE ex6 hf
      refine lv_istore (lv' := [(8, .int x6), (0, .ref a0), (1, .int p1), (2, .int p2), (3, .int p3), (4, .int p4), (5, .int p5), (6, .int p6), (7, .int p7)]) X.1.1 X.1.2.1 dX9_more_26 hl (by decide) rfl (fun ls hl => ?_)
      refine lv_aload_n X.1.1 X.1.2.1 dX9_more_28 rfl (lv_at hl 1 rfl) ?_
      obtain ⟨q7, eq7, hf⟩ := odq hf
      refine r_getq (k := 9) (j := 1) X hw rfl inX9 g_a0 rfl (by decide) (by decide) uf_X9_13 rfl dX9_more_29 eq7 ?_
      refine lv_iload X.1.1 X.1.2.1 dX9_more_32 (lv_at hl 0 rfl) ?_
      obtain ⟨g_q7, hf⟩ := ogd hf
      obtain ⟨i_8, hf⟩ := ogd hf
      refine r_iald X hw g_q7 i_8 dX9_more_34 ?_
      refine lv_topi (fun x9 ex9 => ?_)
      have hf := oltE ex9 hf
      refine lv_istore (lv' := [(9, .int x9), (8, .int x6), (0, .ref a0), (1, .int p1), (2, .int p2), (3, .int p3), (4, .int p4), (5, .int p5), (6, .int p6), (7, .int p7)]) X.1.1 X.1.2.1 dX9_more_35 hl (by decide) rfl (fun ls hl => ?_)
      refine lv_iload X.1.1 X.1.2.1 dX9_more_37 (lv_at hl 0 rfl) ?_
      refine lv_iload_n X.1.1 X.1.2.1 dX9_more_39 rfl (lv_at hl 5 rfl) ?_
      refine lv_icmp_eq (tgt := 77) X.1.1 X.1.2.1 dX9_more_40 (by decide) (fun c_10 => ?_) (fun c_10 => ?_)
      · skip
        rw [if_pos c_10] at hf
        refine lv_iconst (v := (-1 : Int32)) X.1.1 X.1.2.1 dX9_more_77 (by decide) ?_
        cases hf
        exact r_retI (v := (-1 : Int32)) X hw hr hlk rfl dX9_more_78
      · skip
        rw [if_neg c_10] at hf
        refine lv_iload X.1.1 X.1.2.1 dX9_more_43 (lv_at hl 0 rfl) ?_
        refine lv_if_ne (tgt := 58) X.1.1 X.1.2.1 dX9_more_45 (by decide) (fun c_11 => ?_) (fun c_11 => ?_)
        · skip
          rw [if_pos c_11] at hf
          refine lv_iload X.1.1 X.1.2.1 dX9_more_58 (lv_at hl 7 rfl) ?_
          refine lv_aload_n X.1.1 X.1.2.1 dX9_more_60 rfl (lv_at hl 2 rfl) ?_
          refine r_getq (k := 9) (j := 1) X hw rfl inX9 g_a0 rfl (by decide) (by decide) uf_X9_13 rfl dX9_more_61 eq7 ?_
          refine lv_iload X.1.1 X.1.2.1 dX9_more_64 (lv_at hl 1 rfl) ?_
          refine lv_iconst (v := (2 : Int32)) X.1.1 X.1.2.1 dX9_more_66 (by decide) ?_
          refine lv_iload X.1.1 X.1.2.1 dX9_more_67 (lv_at hl 0 rfl) ?_
          refine lv_imul X.1.1 X.1.2.1 dX9_more_69 ?_
          refine lv_iadd X.1.1 X.1.2.1 dX9_more_70 ?_
          refine lv_iconst (v := (1 : Int32)) X.1.1 X.1.2.1 dX9_more_71 (by decide) ?_
          refine lv_isub X.1.1 X.1.2.1 dX9_more_72 ?_
          obtain ⟨i_12, hf⟩ := ogd hf
          refine r_iald X hw g_q7 i_12 dX9_more_73 ?_
          refine lv_icmp_gt (tgt := 79) X.1.1 X.1.2.1 dX9_more_74 (by decide) (fun c_13 => ?_) (fun c_13 => ?_)
          · skip
            rw [if_pos c_13] at hf
            refine lv_aload_n X.1.1 X.1.2.1 dX9_more_79 rfl (lv_at hl 2 rfl) ?_
            obtain ⟨z14, ez14, hf⟩ := obd hf
            refine r_callVV (As := []) (rest := []) X hw (c_X9_act ez14) (cwV 0 X.1.2.2.2.2 (guV um_X9_76 ui_X9_act us_X9_act un_X9 uo_X9_act) rfl rfl rfl (by decide +kernel) ⟨Nat.le_of_ble_eq_true rfl, Nat.le_of_ble_eq_true rfl⟩) g_a0 (by decide) rfl rfl hl.1 rfl (Nat.le_of_ble_eq_true rfl) dX9_more_80 ⟨Nat.zero_le _, Nat.zero_le _⟩ (fun H locs hw => ?_)
            refine lv_aload_n X.1.1 X.1.2.1 dX9_more_83 rfl (lv_at hl 2 rfl) ?_
            refine r_getq (k := 9) (j := 1) X hw rfl inX9 g_a0 rfl (by decide) (by decide) uf_X9_13 rfl dX9_more_84 eq7 ?_
            refine lv_iload X.1.1 X.1.2.1 dX9_more_87 (lv_at hl 1 rfl) ?_
            refine lv_iconst (v := (1 : Int32)) X.1.1 X.1.2.1 dX9_more_89 (by decide) ?_
            refine lv_iadd X.1.1 X.1.2.1 dX9_more_90 ?_
            refine lv_iconst (v := (2 : Int32)) X.1.1 X.1.2.1 dX9_more_91 (by decide) ?_
            refine lv_iload X.1.1 X.1.2.1 dX9_more_92 (lv_at hl 0 rfl) ?_
            refine lv_imul X.1.1 X.1.2.1 dX9_more_94 ?_
            refine lv_iadd X.1.1 X.1.2.1 dX9_more_95 ?_
            refine lv_iload X.1.1 X.1.2.1 dX9_more_96 (lv_at hl 7 rfl) ?_
            obtain ⟨i_15, hf⟩ := ogd hf
            refine r_iast X hw g_q7 i_15 dX9_more_98 (fun H locs hw => ?_)
            obtain ⟨M16, eM16, hf⟩ := olt hf
            rw [← eM16] at hw
            refine lv_aload_n X.1.1 X.1.2.1 dX9_more_99 rfl (lv_at hl 2 rfl) ?_
            refine r_getq (k := 9) (j := 1) X hw rfl inX9 g_a0 rfl (by decide) (by decide) uf_X9_13 rfl dX9_more_100 eq7 ?_
            refine lv_iload X.1.1 X.1.2.1 dX9_more_103 (lv_at hl 1 rfl) ?_
            refine lv_iconst (v := (2 : Int32)) X.1.1 X.1.2.1 dX9_more_105 (by decide) ?_
            refine lv_iadd X.1.1 X.1.2.1 dX9_more_106 ?_
            refine lv_iconst (v := (2 : Int32)) X.1.1 X.1.2.1 dX9_more_107 (by decide) ?_
            refine lv_iload X.1.1 X.1.2.1 dX9_more_108 (lv_at hl 0 rfl) ?_
            refine lv_imul X.1.1 X.1.2.1 dX9_more_110 ?_
            refine lv_iadd X.1.1 X.1.2.1 dX9_more_111 ?_
            refine lv_iload X.1.1 X.1.2.1 dX9_more_112 (lv_at hl 8 rfl) ?_
            obtain ⟨i_17, hf⟩ := ogd hf
            refine r_iast X hw g_q7 i_17 dX9_more_114 (fun H locs hw => ?_)
            obtain ⟨M18, eM18, hf⟩ := olt hf
            rw [← eM18] at hw
            refine lv_aload_n X.1.1 X.1.2.1 dX9_more_115 rfl (lv_at hl 2 rfl) ?_
            refine r_getq (k := 9) (j := 1) X hw rfl inX9 g_a0 rfl (by decide) (by decide) uf_X9_13 rfl dX9_more_116 eq7 ?_
            refine lv_iload X.1.1 X.1.2.1 dX9_more_119 (lv_at hl 1 rfl) ?_
            refine lv_iload X.1.1 X.1.2.1 dX9_more_121 (lv_at hl 0 rfl) ?_
            refine lv_iconst (v := (1 : Int32)) X.1.1 X.1.2.1 dX9_more_123 (by decide) ?_
            refine lv_iadd X.1.1 X.1.2.1 dX9_more_124 ?_
            obtain ⟨i_19, hf⟩ := ogd hf
            refine r_iast X hw g_q7 i_19 dX9_more_125 (fun H locs hw => ?_)
            obtain ⟨M20, eM20, hf⟩ := olt hf
            rw [← eM20] at hw
            refine lv_iload X.1.1 X.1.2.1 dX9_more_126 (lv_at hl 0 rfl) ?_
            refine lv_iconst (v := (1 : Int32)) X.1.1 X.1.2.1 dX9_more_128 (by decide) ?_
            refine lv_iadd X.1.1 X.1.2.1 dX9_more_129 ?_
            cases hf
            exact r_retI (v := x9 + (1 : Int32)) X hw hr hlk rfl dX9_more_130
          · skip
            rw [if_neg c_13] at hf
            refine lv_iconst (v := (-1 : Int32)) X.1.1 X.1.2.1 dX9_more_77 (by decide) ?_
            cases hf
            exact r_retI (v := (-1 : Int32)) X hw hr hlk rfl dX9_more_78
        · skip
          rw [if_neg (fun z => z c_11)] at hf
          refine lv_iload X.1.1 X.1.2.1 dX9_more_48 (lv_at hl 7 rfl) ?_
          refine lv_iload X.1.1 X.1.2.1 dX9_more_50 (lv_at hl 6 rfl) ?_
          refine lv_icmp_ge (tgt := 79) X.1.1 X.1.2.1 dX9_more_52 (by decide) (fun c_21 => ?_) (fun c_21 => ?_)
          · skip
            rw [if_pos c_21] at hf
            refine lv_aload_n X.1.1 X.1.2.1 dX9_more_79 rfl (lv_at hl 2 rfl) ?_
            obtain ⟨z22, ez22, hf⟩ := obd hf
            refine r_callVV (As := []) (rest := []) X hw (c_X9_act ez22) (cwV 0 X.1.2.2.2.2 (guV um_X9_76 ui_X9_act us_X9_act un_X9 uo_X9_act) rfl rfl rfl (by decide +kernel) ⟨Nat.le_of_ble_eq_true rfl, Nat.le_of_ble_eq_true rfl⟩) g_a0 (by decide) rfl rfl hl.1 rfl (Nat.le_of_ble_eq_true rfl) dX9_more_80 ⟨Nat.zero_le _, Nat.zero_le _⟩ (fun H locs hw => ?_)
            refine lv_aload_n X.1.1 X.1.2.1 dX9_more_83 rfl (lv_at hl 2 rfl) ?_
            refine r_getq (k := 9) (j := 1) X hw rfl inX9 g_a0 rfl (by decide) (by decide) uf_X9_13 rfl dX9_more_84 eq7 ?_
            refine lv_iload X.1.1 X.1.2.1 dX9_more_87 (lv_at hl 1 rfl) ?_
            refine lv_iconst (v := (1 : Int32)) X.1.1 X.1.2.1 dX9_more_89 (by decide) ?_
            refine lv_iadd X.1.1 X.1.2.1 dX9_more_90 ?_
            refine lv_iconst (v := (2 : Int32)) X.1.1 X.1.2.1 dX9_more_91 (by decide) ?_
            refine lv_iload X.1.1 X.1.2.1 dX9_more_92 (lv_at hl 0 rfl) ?_
            refine lv_imul X.1.1 X.1.2.1 dX9_more_94 ?_
            refine lv_iadd X.1.1 X.1.2.1 dX9_more_95 ?_
            refine lv_iload X.1.1 X.1.2.1 dX9_more_96 (lv_at hl 7 rfl) ?_
            obtain ⟨i_23, hf⟩ := ogd hf
            refine r_iast X hw g_q7 i_23 dX9_more_98 (fun H locs hw => ?_)
            obtain ⟨M24, eM24, hf⟩ := olt hf
            rw [← eM24] at hw
            refine lv_aload_n X.1.1 X.1.2.1 dX9_more_99 rfl (lv_at hl 2 rfl) ?_
            refine r_getq (k := 9) (j := 1) X hw rfl inX9 g_a0 rfl (by decide) (by decide) uf_X9_13 rfl dX9_more_100 eq7 ?_
            refine lv_iload X.1.1 X.1.2.1 dX9_more_103 (lv_at hl 1 rfl) ?_
            refine lv_iconst (v := (2 : Int32)) X.1.1 X.1.2.1 dX9_more_105 (by decide) ?_
            refine lv_iadd X.1.1 X.1.2.1 dX9_more_106 ?_
            refine lv_iconst (v := (2 : Int32)) X.1.1 X.1.2.1 dX9_more_107 (by decide) ?_
            refine lv_iload X.1.1 X.1.2.1 dX9_more_108 (lv_at hl 0 rfl) ?_
            refine lv_imul X.1.1 X.1.2.1 dX9_more_110 ?_
            refine lv_iadd X.1.1 X.1.2.1 dX9_more_111 ?_
            refine lv_iload X.1.1 X.1.2.1 dX9_more_112 (lv_at hl 8 rfl) ?_
            obtain ⟨i_25, hf⟩ := ogd hf
            refine r_iast X hw g_q7 i_25 dX9_more_114 (fun H locs hw => ?_)
            obtain ⟨M26, eM26, hf⟩ := olt hf
            rw [← eM26] at hw
            refine lv_aload_n X.1.1 X.1.2.1 dX9_more_115 rfl (lv_at hl 2 rfl) ?_
            refine r_getq (k := 9) (j := 1) X hw rfl inX9 g_a0 rfl (by decide) (by decide) uf_X9_13 rfl dX9_more_116 eq7 ?_
            refine lv_iload X.1.1 X.1.2.1 dX9_more_119 (lv_at hl 1 rfl) ?_
            refine lv_iload X.1.1 X.1.2.1 dX9_more_121 (lv_at hl 0 rfl) ?_
            refine lv_iconst (v := (1 : Int32)) X.1.1 X.1.2.1 dX9_more_123 (by decide) ?_
            refine lv_iadd X.1.1 X.1.2.1 dX9_more_124 ?_
            obtain ⟨i_27, hf⟩ := ogd hf
            refine r_iast X hw g_q7 i_27 dX9_more_125 (fun H locs hw => ?_)
            obtain ⟨M28, eM28, hf⟩ := olt hf
            rw [← eM28] at hw
            refine lv_iload X.1.1 X.1.2.1 dX9_more_126 (lv_at hl 0 rfl) ?_
            refine lv_iconst (v := (1 : Int32)) X.1.1 X.1.2.1 dX9_more_128 (by decide) ?_
            refine lv_iadd X.1.1 X.1.2.1 dX9_more_129 ?_
            cases hf
            exact r_retI (v := x9 + (1 : Int32)) X hw hr hlk rfl dX9_more_130
          · skip
            rw [if_neg c_21] at hf
            refine lv_goto (tgt := 77) X.1.1 X.1.2.1 dX9_more_55 (by decide) ?_
            refine lv_iconst (v := (-1 : Int32)) X.1.1 X.1.2.1 dX9_more_77 (by decide) ?_
            cases hf
            exact r_retI (v := (-1 : Int32)) X hw hr hlk rfl dX9_more_78
    · skip
      rw [if_neg (fun z => z c_4)] at hf
      refine lv_iconst (v := (-1 : Int32)) X.1.1 X.1.2.1 dX9_more_17 (by decide) ?_
      cases hf
      exact r_retI (v := (-1 : Int32)) X hw hr hlk rfl dX9_more_18
/-! X9_bound -/
def f_X9_bound (h : Hs) (a0 : Nat) (p1 : Int32) (p2 : Int32) (p3 : Int32) (M : Mm) : Option (Int32 × Mm) :=
  Option.bind (
    if p3 < (1 : Int32) then
      some (0 : Int32)
    else
      if (10000000 : Int32) < p3 then
        some (0 : Int32)
      else
        gd (¬ p3.toInt64 = 0) <|
        if ¬ ((720720000000 : Int64) - (720720000000 : Int64) / p3.toInt64 * p3.toInt64) = (0 : Int64) then
          some (0 : Int32)
        else
          some (1 : Int32)
    ) fun y5 =>
  gd (ok h a0 9) <|
  (f_X9_more h a0 p1 (2 : Int32) (6 : Int32) (1 : Int32) p2 p3 y5 M).bind fun z6 =>
  some (z6.1, z6.2)
set_option maxHeartbeats 4000000 in
set_option maxRecDepth 100000 in
theorem c_X9_bound {l : Launch} {D : va_G} {cy : Nat → ClassId} {h : Hs} {a0 : Nat} {p1 : Int32} {p2 : Int32} {p3 : Int32} {M : Mm} {z : (Int32 × Mm)} (hf : f_X9_bound h a0 p1 p2 p3 M = some z) : CtI l D cy yX9_bound (wu yX9_bound cX9_bound 4 (some .int)) ({ frames := 3, cells := 0, slots := 0, locals := 72 }) [.ref a0, .int p1, .int p2, .int p3] h M z.1 z.2 := by
  refine enterI (cc := cX9_bound) (maxL := 4) (ret := (some .int)) (by decide) (Nat.le_of_ble_eq_true rfl) ?_
  intro p e s m args below meth c A ls X hw hr hlk hl
  have hl : lv_has ls 4 [(0, .ref a0), (1, .int p1), (2, .int p2), (3, .int p3)] := hl
  unfold f_X9_bound at hf
  refine lv_aload_n X.1.1 X.1.2.1 dX9_bound_0 rfl (lv_at hl 0 rfl) ?_
  refine lv_iload_n X.1.1 X.1.2.1 dX9_bound_1 rfl (lv_at hl 1 rfl) ?_
  refine lv_iconst (v := (2 : Int32)) X.1.1 X.1.2.1 dX9_bound_2 (by decide) ?_
  refine lv_bipush (v := (6 : Int32)) X.1.1 X.1.2.1 dX9_bound_3 (by decide) ?_
  refine lv_iconst (v := (1 : Int32)) X.1.1 X.1.2.1 dX9_bound_5 (by decide) ?_
  refine lv_iload_n X.1.1 X.1.2.1 dX9_bound_6 rfl (lv_at hl 2 rfl) ?_
  refine lv_iload_n X.1.1 X.1.2.1 dX9_bound_7 rfl (lv_at hl 3 rfl) ?_
  refine lv_iload_n X.1.1 X.1.2.1 dX9_bound_8 rfl (lv_at hl 3 rfl) ?_
  refine lv_iconst (v := (1 : Int32)) X.1.1 X.1.2.1 dX9_bound_9 (by decide) ?_
  obtain ⟨y5, ey5, hf⟩ := obd hf
  have Jy5 : ∀ (H : Heap) (locs : List Loc) (ls : Array Slot), Wd D cy A s.heap h M H locs → lv_has ls 4 [] → W p l e ({ frames := 3, cells := 0, slots := 0, locals := 72 } : Room) s m args below meth c H locs 0 0 (QI below D cy A h args s z.1 z.2) (F0 m 35 ls [.int y5, .int p3, .int p2, .int (1 : Int32), .int (6 : Int32), .int (2 : Int32), .int p1, .ref a0]) := by
    intro H locs ls hw hl
    obtain ⟨g_a0, hf⟩ := ogd hf
    obtain ⟨z6, ez6, hf⟩ := obd hf
    refine r_callVI (As := [.int p1, .int (2 : Int32), .int (6 : Int32), .int (1 : Int32), .int p2, .int p3, .int y5]) (rest := []) X hw (c_X9_more ez6) (cwV 7 X.1.2.2.2.2 (guV um_X9_176 ui_X9_more us_X9_more un_X9 uo_X9_more) rfl rfl rfl (by decide +kernel) ⟨Nat.le_of_ble_eq_true rfl, Nat.le_of_ble_eq_true rfl⟩) g_a0 (by decide) rfl rfl hl.1 rfl (Nat.le_of_ble_eq_true rfl) dX9_bound_35 ⟨Nat.zero_le _, Nat.zero_le _⟩ (fun H locs hw => ?_)
    cases hf
    exact r_retI (v := z6.1) X hw hr hlk rfl dX9_bound_38
  clear hf
  have hf := ey5
  clear ey5
  refine lv_icmp_lt (tgt := 34) X.1.1 X.1.2.1 dX9_bound_10 (by decide) (fun c_1 => ?_) (fun c_1 => ?_)
  · skip
    rw [if_pos c_1] at hf
    refine lv_iconst (v := (0 : Int32)) X.1.1 X.1.2.1 dX9_bound_34 (by decide) ?_
    cases hf
    exact Jy5 _ _ _ hw (lv_sub hl [] rfl)
  · skip
    rw [if_neg c_1] at hf
    refine lv_iload_n X.1.1 X.1.2.1 dX9_bound_13 rfl (lv_at hl 3 rfl) ?_
    refine lv_ldc (v := (10000000 : Int32)) X.1.1 X.1.2.1 X.1.2.2.2.1 (X.1.2.2.2.2 _ uc_X9_173) dX9_bound_14 ?_
    refine lv_icmp_gt (tgt := 34) X.1.1 X.1.2.1 dX9_bound_16 (by decide) (fun c_2 => ?_) (fun c_2 => ?_)
    · skip
      rw [if_pos c_2] at hf
      refine lv_iconst (v := (0 : Int32)) X.1.1 X.1.2.1 dX9_bound_34 (by decide) ?_
      cases hf
      exact Jy5 _ _ _ hw (lv_sub hl [] rfl)
    · skip
      rw [if_neg c_2] at hf
      refine lv_ldc2 (v := (720720000000 : Int64)) X.1.1 X.1.2.1 X.1.2.2.2.1 (X.1.2.2.2.2 _ uk_X9_174) dX9_bound_19 ?_
      refine lv_iload_n X.1.1 X.1.2.1 dX9_bound_22 rfl (lv_at hl 3 rfl) ?_
      refine lv_i2l X.1.1 X.1.2.1 dX9_bound_23 rfl ?_
      obtain ⟨n_3, hf⟩ := ogd hf
      refine lv_lrem X.1.1 X.1.2.1 dX9_bound_24 n_3 ?_
      refine lv_lconst (v := (0 : Int64)) X.1.1 X.1.2.1 dX9_bound_25 (by decide) ?_
      refine W.lcmp X.1.1 X.1.2.1 dX9_bound_26 ?_
      refine lv_if_ne (tgt := 34) X.1.1 X.1.2.1 dX9_bound_27 (by decide) (fun c_4 => ?_) (fun c_4 => ?_)
      · skip
        rw [lg_cmp_eq] at c_4
        rw [if_pos c_4] at hf
        refine lv_iconst (v := (0 : Int32)) X.1.1 X.1.2.1 dX9_bound_34 (by decide) ?_
        cases hf
        exact Jy5 _ _ _ hw (lv_sub hl [] rfl)
      · skip
        rw [lg_cmp_eq] at c_4
        rw [if_neg (fun z => z c_4)] at hf
        refine lv_iconst (v := (1 : Int32)) X.1.1 X.1.2.1 dX9_bound_30 (by decide) ?_
        refine lv_goto (tgt := 35) X.1.1 X.1.2.1 dX9_bound_31 (by decide) ?_
        cases hf
        exact Jy5 _ _ _ hw (lv_sub hl [] rfl)
/-! X9_mean -/
def f_X9_mean (h : Hs) (a0 : Nat) (p1 : Int32) (p2 : Int32) (p3 : Int32) (M : Mm) : Option (Int32 × Mm) :=
  Option.bind (
    if p3 < (10 : Int32) then
      some (0 : Int32)
    else
      if (400 : Int32) < p3 then
        some (0 : Int32)
      else
        some (1 : Int32)
    ) fun y3 =>
  gd (ok h a0 9) <|
  (f_X9_more h a0 p1 (15 : Int32) (4 : Int32) (-2147483648 : Int32) p2 p3 y3 M).bind fun z4 =>
  some (z4.1, z4.2)
set_option maxHeartbeats 4000000 in
set_option maxRecDepth 100000 in
theorem c_X9_mean {l : Launch} {D : va_G} {cy : Nat → ClassId} {h : Hs} {a0 : Nat} {p1 : Int32} {p2 : Int32} {p3 : Int32} {M : Mm} {z : (Int32 × Mm)} (hf : f_X9_mean h a0 p1 p2 p3 M = some z) : CtI l D cy yX9_mean (wu yX9_mean cX9_mean 4 (some .int)) ({ frames := 3, cells := 0, slots := 0, locals := 72 }) [.ref a0, .int p1, .int p2, .int p3] h M z.1 z.2 := by
  refine enterI (cc := cX9_mean) (maxL := 4) (ret := (some .int)) (by decide) (Nat.le_of_ble_eq_true rfl) ?_
  intro p e s m args below meth c A ls X hw hr hlk hl
  have hl : lv_has ls 4 [(0, .ref a0), (1, .int p1), (2, .int p2), (3, .int p3)] := hl
  unfold f_X9_mean at hf
  refine lv_aload_n X.1.1 X.1.2.1 dX9_mean_0 rfl (lv_at hl 0 rfl) ?_
  refine lv_iload_n X.1.1 X.1.2.1 dX9_mean_1 rfl (lv_at hl 1 rfl) ?_
  refine lv_bipush (v := (15 : Int32)) X.1.1 X.1.2.1 dX9_mean_2 (by decide) ?_
  refine lv_iconst (v := (4 : Int32)) X.1.1 X.1.2.1 dX9_mean_4 (by decide) ?_
  refine lv_ldc (v := (-2147483648 : Int32)) X.1.1 X.1.2.1 X.1.2.2.2.1 (X.1.2.2.2.2 _ uc_X9_180) dX9_mean_5 ?_
  refine lv_iload_n X.1.1 X.1.2.1 dX9_mean_7 rfl (lv_at hl 2 rfl) ?_
  refine lv_iload_n X.1.1 X.1.2.1 dX9_mean_8 rfl (lv_at hl 3 rfl) ?_
  refine lv_iload_n X.1.1 X.1.2.1 dX9_mean_9 rfl (lv_at hl 3 rfl) ?_
  refine lv_bipush (v := (10 : Int32)) X.1.1 X.1.2.1 dX9_mean_10 (by decide) ?_
  obtain ⟨y3, ey3, hf⟩ := obd hf
  have Jy3 : ∀ (H : Heap) (locs : List Loc) (ls : Array Slot), Wd D cy A s.heap h M H locs → lv_has ls 4 [] → W p l e ({ frames := 3, cells := 0, slots := 0, locals := 72 } : Room) s m args below meth c H locs 0 0 (QI below D cy A h args s z.1 z.2) (F0 m 27 ls [.int y3, .int p3, .int p2, .int (-2147483648 : Int32), .int (4 : Int32), .int (15 : Int32), .int p1, .ref a0]) := by
    intro H locs ls hw hl
    obtain ⟨g_a0, hf⟩ := ogd hf
    obtain ⟨z4, ez4, hf⟩ := obd hf
    refine r_callVI (As := [.int p1, .int (15 : Int32), .int (4 : Int32), .int (-2147483648 : Int32), .int p2, .int p3, .int y3]) (rest := []) X hw (c_X9_more ez4) (cwV 7 X.1.2.2.2.2 (guV um_X9_176 ui_X9_more us_X9_more un_X9 uo_X9_more) rfl rfl rfl (by decide +kernel) ⟨Nat.le_of_ble_eq_true rfl, Nat.le_of_ble_eq_true rfl⟩) g_a0 (by decide) rfl rfl hl.1 rfl (Nat.le_of_ble_eq_true rfl) dX9_mean_27 ⟨Nat.zero_le _, Nat.zero_le _⟩ (fun H locs hw => ?_)
    cases hf
    exact r_retI (v := z4.1) X hw hr hlk rfl dX9_mean_30
  clear hf
  have hf := ey3
  clear ey3
  refine lv_icmp_lt (tgt := 26) X.1.1 X.1.2.1 dX9_mean_12 (by decide) (fun c_1 => ?_) (fun c_1 => ?_)
  · skip
    rw [if_pos c_1] at hf
    refine lv_iconst (v := (0 : Int32)) X.1.1 X.1.2.1 dX9_mean_26 (by decide) ?_
    cases hf
    exact Jy3 _ _ _ hw (lv_sub hl [] rfl)
  · skip
    rw [if_neg c_1] at hf
    refine lv_iload_n X.1.1 X.1.2.1 dX9_mean_15 rfl (lv_at hl 3 rfl) ?_
    refine lv_sipush (v := (400 : Int32)) X.1.1 X.1.2.1 dX9_mean_16 (by decide) ?_
    refine lv_icmp_gt (tgt := 26) X.1.1 X.1.2.1 dX9_mean_19 (by decide) (fun c_2 => ?_) (fun c_2 => ?_)
    · skip
      rw [if_pos c_2] at hf
      refine lv_iconst (v := (0 : Int32)) X.1.1 X.1.2.1 dX9_mean_26 (by decide) ?_
      cases hf
      exact Jy3 _ _ _ hw (lv_sub hl [] rfl)
    · skip
      rw [if_neg c_2] at hf
      refine lv_iconst (v := (1 : Int32)) X.1.1 X.1.2.1 dX9_mean_22 (by decide) ?_
      refine lv_goto (tgt := 27) X.1.1 X.1.2.1 dX9_mean_23 (by decide) ?_
      cases hf
      exact Jy3 _ _ _ hw (lv_sub hl [] rfl)
/-! X9_step -/
def f_X9_step (h : Hs) (a0 : Nat) (p1 : Int32) (p2 : Int32) (p3 : Int32) (M : Mm) : Option (Int32 × Mm) :=
  Option.bind (
    if p3 < 0 then
      some (0 : Int32)
    else
      if (1000000 : Int32) < p3 then
        some (0 : Int32)
      else
        some (1 : Int32)
    ) fun y3 =>
  gd (ok h a0 9) <|
  (f_X9_more h a0 p1 (28 : Int32) (4 : Int32) (0 : Int32) p2 p3 y3 M).bind fun z4 =>
  some (z4.1, z4.2)
set_option maxHeartbeats 4000000 in
set_option maxRecDepth 100000 in
theorem c_X9_step {l : Launch} {D : va_G} {cy : Nat → ClassId} {h : Hs} {a0 : Nat} {p1 : Int32} {p2 : Int32} {p3 : Int32} {M : Mm} {z : (Int32 × Mm)} (hf : f_X9_step h a0 p1 p2 p3 M = some z) : CtI l D cy yX9_step (wu yX9_step cX9_step 4 (some .int)) ({ frames := 3, cells := 0, slots := 0, locals := 72 }) [.ref a0, .int p1, .int p2, .int p3] h M z.1 z.2 := by
  refine enterI (cc := cX9_step) (maxL := 4) (ret := (some .int)) (by decide) (Nat.le_of_ble_eq_true rfl) ?_
  intro p e s m args below meth c A ls X hw hr hlk hl
  have hl : lv_has ls 4 [(0, .ref a0), (1, .int p1), (2, .int p2), (3, .int p3)] := hl
  unfold f_X9_step at hf
  refine lv_aload_n X.1.1 X.1.2.1 dX9_step_0 rfl (lv_at hl 0 rfl) ?_
  refine lv_iload_n X.1.1 X.1.2.1 dX9_step_1 rfl (lv_at hl 1 rfl) ?_
  refine lv_bipush (v := (28 : Int32)) X.1.1 X.1.2.1 dX9_step_2 (by decide) ?_
  refine lv_iconst (v := (4 : Int32)) X.1.1 X.1.2.1 dX9_step_4 (by decide) ?_
  refine lv_iconst (v := (0 : Int32)) X.1.1 X.1.2.1 dX9_step_5 (by decide) ?_
  refine lv_iload_n X.1.1 X.1.2.1 dX9_step_6 rfl (lv_at hl 2 rfl) ?_
  refine lv_iload_n X.1.1 X.1.2.1 dX9_step_7 rfl (lv_at hl 3 rfl) ?_
  refine lv_iload_n X.1.1 X.1.2.1 dX9_step_8 rfl (lv_at hl 3 rfl) ?_
  obtain ⟨y3, ey3, hf⟩ := obd hf
  have Jy3 : ∀ (H : Heap) (locs : List Loc) (ls : Array Slot), Wd D cy A s.heap h M H locs → lv_has ls 4 [] → W p l e ({ frames := 3, cells := 0, slots := 0, locals := 72 } : Room) s m args below meth c H locs 0 0 (QI below D cy A h args s z.1 z.2) (F0 m 23 ls [.int y3, .int p3, .int p2, .int (0 : Int32), .int (4 : Int32), .int (28 : Int32), .int p1, .ref a0]) := by
    intro H locs ls hw hl
    obtain ⟨g_a0, hf⟩ := ogd hf
    obtain ⟨z4, ez4, hf⟩ := obd hf
    refine r_callVI (As := [.int p1, .int (28 : Int32), .int (4 : Int32), .int (0 : Int32), .int p2, .int p3, .int y3]) (rest := []) X hw (c_X9_more ez4) (cwV 7 X.1.2.2.2.2 (guV um_X9_176 ui_X9_more us_X9_more un_X9 uo_X9_more) rfl rfl rfl (by decide +kernel) ⟨Nat.le_of_ble_eq_true rfl, Nat.le_of_ble_eq_true rfl⟩) g_a0 (by decide) rfl rfl hl.1 rfl (Nat.le_of_ble_eq_true rfl) dX9_step_23 ⟨Nat.zero_le _, Nat.zero_le _⟩ (fun H locs hw => ?_)
    cases hf
    exact r_retI (v := z4.1) X hw hr hlk rfl dX9_step_26
  clear hf
  have hf := ey3
  clear ey3
  refine lv_if_lt (tgt := 22) X.1.1 X.1.2.1 dX9_step_9 (by decide) (fun c_1 => ?_) (fun c_1 => ?_)
  · skip
    rw [if_pos c_1] at hf
    refine lv_iconst (v := (0 : Int32)) X.1.1 X.1.2.1 dX9_step_22 (by decide) ?_
    cases hf
    exact Jy3 _ _ _ hw (lv_sub hl [] rfl)
  · skip
    rw [if_neg c_1] at hf
    refine lv_iload_n X.1.1 X.1.2.1 dX9_step_12 rfl (lv_at hl 3 rfl) ?_
    refine lv_ldc (v := (1000000 : Int32)) X.1.1 X.1.2.1 X.1.2.2.2.1 (X.1.2.2.2.2 _ uc_X9_87) dX9_step_13 ?_
    refine lv_icmp_gt (tgt := 22) X.1.1 X.1.2.1 dX9_step_15 (by decide) (fun c_2 => ?_) (fun c_2 => ?_)
    · skip
      rw [if_pos c_2] at hf
      refine lv_iconst (v := (0 : Int32)) X.1.1 X.1.2.1 dX9_step_22 (by decide) ?_
      cases hf
      exact Jy3 _ _ _ hw (lv_sub hl [] rfl)
    · skip
      rw [if_neg c_2] at hf
      refine lv_iconst (v := (1 : Int32)) X.1.1 X.1.2.1 dX9_step_18 (by decide) ?_
      refine lv_goto (tgt := 23) X.1.1 X.1.2.1 dX9_step_19 (by decide) ?_
      cases hf
      exact Jy3 _ _ _ hw (lv_sub hl [] rfl)
/-! X9_set -/
def f_X9_set (h : Hs) (a0 : Nat) (p1 : Int32) (p2 : Int32) (p3 : Int32) (p4 : Int32) (M : Mm) : Option (Int32 × Mm) :=
  gd (ok h a0 9) <|
  lt_ (sI M a0 0 (0 : Int32)) fun M1 =>
  (f_X9_no h p1 M1).bind fun z2 =>
  if ¬ z2 = 0 then
    some ((0 : Int32), M1)
  else
    if p3 < 0 then
      some ((0 : Int32), M1)
    else
      if p3 ≤ p4 then
        (f_X9_act h a0 M1).bind fun z6 =>
        dq (zR h a0 1) fun q7 =>
        (f_X9_base h a0 p1 z6).bind fun z8 =>
        gd (ok h q7 11) <|
        gd (inb (z8 + p2) (zN h q7)) <|
        lt_ (sI z6 q7 (z8 + p2).toNatClampNeg p3) fun M10 =>
        some ((1 : Int32), M10)
      else
        some ((0 : Int32), M1)
set_option maxHeartbeats 4000000 in
set_option maxRecDepth 100000 in
theorem c_X9_set {l : Launch} {D : va_G} {cy : Nat → ClassId} {h : Hs} {a0 : Nat} {p1 : Int32} {p2 : Int32} {p3 : Int32} {p4 : Int32} {M : Mm} {z : (Int32 × Mm)} (hf : f_X9_set h a0 p1 p2 p3 p4 M = some z) : CtI l D cy yX9_set (wu yX9_set cX9_set 5 (some .boolean)) ({ frames := 2, cells := 0, slots := 0, locals := 43 }) [.ref a0, .int p1, .int p2, .int p3, .int p4] h M z.1 z.2 := by
  refine enterI (cc := cX9_set) (maxL := 5) (ret := (some .boolean)) (by decide) (Nat.le_of_ble_eq_true rfl) ?_
  intro p e s m args below meth c A ls X hw hr hlk hl
  have hl : lv_has ls 5 [(0, .ref a0), (1, .int p1), (2, .int p2), (3, .int p3), (4, .int p4)] := hl
  unfold f_X9_set at hf
  refine lv_aload_n X.1.1 X.1.2.1 dX9_set_0 rfl (lv_at hl 0 rfl) ?_
  refine lv_iconst (v := (0 : Int32)) X.1.1 X.1.2.1 dX9_set_1 (by decide) ?_
  obtain ⟨g_a0, hf⟩ := ogd hf
  refine r_puti (k := 9) (j := 0) X hw rfl inX9 tyX9_ok nmX9 g_a0 rfl (by decide) (by decide) uf_X9_1 rfl rfl rfl rfl dX9_set_2 (fun H locs hw => ?_)
  obtain ⟨M1, eM1, hf⟩ := olt hf
  rw [← eM1] at hw
  refine lv_iload_n X.1.1 X.1.2.1 dX9_set_5 rfl (lv_at hl 1 rfl) ?_
  obtain ⟨z2, ez2, hf⟩ := obd hf
  refine r_callSI (As := [.int p1]) (rest := []) X hw (c_X9_no ez2) (va_cwS 1 X.1.2.2.2.2 (guS um_X9_71 ut_X9_no un_X9 uo_X9_no) rfl rfl rfl (by decide +kernel) ⟨Nat.le_of_ble_eq_true rfl, Nat.le_of_ble_eq_true rfl⟩) rfl hl.1 rfl (Nat.le_of_ble_eq_true rfl) dX9_set_6 ⟨Nat.zero_le _, Nat.zero_le _⟩ (fun H locs hw => ?_)
  refine lv_if_ne (tgt := 22) X.1.1 X.1.2.1 dX9_set_9 (by decide) (fun c_3 => ?_) (fun c_3 => ?_)
  · skip
    rw [if_pos c_3] at hf
    refine lv_iconst (v := (0 : Int32)) X.1.1 X.1.2.1 dX9_set_22 (by decide) ?_
    cases hf
    exact r_retI (v := (0 : Int32)) X hw hr hlk rfl dX9_set_23
  · skip
    rw [if_neg (fun z => z c_3)] at hf
    refine lv_iload_n X.1.1 X.1.2.1 dX9_set_12 rfl (lv_at hl 3 rfl) ?_
    refine lv_if_lt (tgt := 22) X.1.1 X.1.2.1 dX9_set_13 (by decide) (fun c_4 => ?_) (fun c_4 => ?_)
    · skip
      rw [if_pos c_4] at hf
      refine lv_iconst (v := (0 : Int32)) X.1.1 X.1.2.1 dX9_set_22 (by decide) ?_
      cases hf
      exact r_retI (v := (0 : Int32)) X hw hr hlk rfl dX9_set_23
    · skip
      rw [if_neg c_4] at hf
      refine lv_iload_n X.1.1 X.1.2.1 dX9_set_16 rfl (lv_at hl 3 rfl) ?_
      refine lv_iload X.1.1 X.1.2.1 dX9_set_17 (lv_at hl 4 rfl) ?_
      refine lv_icmp_le (tgt := 24) X.1.1 X.1.2.1 dX9_set_19 (by decide) (fun c_5 => ?_) (fun c_5 => ?_)
      · skip
        rw [if_pos c_5] at hf
        refine lv_aload_n X.1.1 X.1.2.1 dX9_set_24 rfl (lv_at hl 0 rfl) ?_
        obtain ⟨z6, ez6, hf⟩ := obd hf
        refine r_callVV (As := []) (rest := []) X hw (c_X9_act ez6) (cwV 0 X.1.2.2.2.2 (guV um_X9_76 ui_X9_act us_X9_act un_X9 uo_X9_act) rfl rfl rfl (by decide +kernel) ⟨Nat.le_of_ble_eq_true rfl, Nat.le_of_ble_eq_true rfl⟩) g_a0 (by decide) rfl rfl hl.1 rfl (Nat.le_of_ble_eq_true rfl) dX9_set_25 ⟨Nat.zero_le _, Nat.zero_le _⟩ (fun H locs hw => ?_)
        refine lv_aload_n X.1.1 X.1.2.1 dX9_set_28 rfl (lv_at hl 0 rfl) ?_
        obtain ⟨q7, eq7, hf⟩ := odq hf
        refine r_getq (k := 9) (j := 1) X hw rfl inX9 g_a0 rfl (by decide) (by decide) uf_X9_13 rfl dX9_set_29 eq7 ?_
        refine lv_aload_n X.1.1 X.1.2.1 dX9_set_32 rfl (lv_at hl 0 rfl) ?_
        refine lv_iload_n X.1.1 X.1.2.1 dX9_set_33 rfl (lv_at hl 1 rfl) ?_
        obtain ⟨z8, ez8, hf⟩ := obd hf
        refine r_callVI (As := [.int p1]) (rest := [.ref q7]) X hw (c_X9_base ez8) (cwV 1 X.1.2.2.2.2 (guV um_X9_170 ui_X9_base us_X9_base un_X9 uo_X9_base) rfl rfl rfl (by decide +kernel) ⟨Nat.le_of_ble_eq_true rfl, Nat.le_of_ble_eq_true rfl⟩) g_a0 (by decide) rfl rfl hl.1 rfl (Nat.le_of_ble_eq_true rfl) dX9_set_34 ⟨Nat.zero_le _, Nat.zero_le _⟩ (fun H locs hw => ?_)
        refine lv_iload_n X.1.1 X.1.2.1 dX9_set_37 rfl (lv_at hl 2 rfl) ?_
        refine lv_iadd X.1.1 X.1.2.1 dX9_set_38 ?_
        refine lv_iload_n X.1.1 X.1.2.1 dX9_set_39 rfl (lv_at hl 3 rfl) ?_
        obtain ⟨g_q7, hf⟩ := ogd hf
        obtain ⟨i_9, hf⟩ := ogd hf
        refine r_iast X hw g_q7 i_9 dX9_set_40 (fun H locs hw => ?_)
        obtain ⟨M10, eM10, hf⟩ := olt hf
        rw [← eM10] at hw
        refine lv_iconst (v := (1 : Int32)) X.1.1 X.1.2.1 dX9_set_41 (by decide) ?_
        cases hf
        exact r_retI (v := (1 : Int32)) X hw hr hlk rfl dX9_set_42
      · skip
        rw [if_neg c_5] at hf
        refine lv_iconst (v := (0 : Int32)) X.1.1 X.1.2.1 dX9_set_22 (by decide) ?_
        cases hf
        exact r_retI (v := (0 : Int32)) X hw hr hlk rfl dX9_set_23
/-! X9_limit -/
def f_X9_limit (h : Hs) (a0 : Nat) (p1 : Int32) (p2 : Int32) (M : Mm) : Option (Int32 × Mm) :=
  gd (ok h a0 9) <|
  (f_X9_set h a0 p1 (24 : Int32) p2 (4000000 : Int32) M).bind fun z1 =>
  gd (z1.1 = 0 ∨ z1.1 = 1) <|
  some (z1.1, z1.2)
set_option maxHeartbeats 4000000 in
set_option maxRecDepth 100000 in
theorem c_X9_limit {l : Launch} {D : va_G} {cy : Nat → ClassId} {h : Hs} {a0 : Nat} {p1 : Int32} {p2 : Int32} {M : Mm} {z : (Int32 × Mm)} (hf : f_X9_limit h a0 p1 p2 M = some z) : CtI l D cy yX9_limit (wu yX9_limit cX9_limit 3 (some .boolean)) ({ frames := 3, cells := 0, slots := 0, locals := 67 }) [.ref a0, .int p1, .int p2] h M z.1 z.2 := by
  refine enterI (cc := cX9_limit) (maxL := 3) (ret := (some .boolean)) (by decide) (Nat.le_of_ble_eq_true rfl) ?_
  intro p e s m args below meth c A ls X hw hr hlk hl
  have hl : lv_has ls 3 [(0, .ref a0), (1, .int p1), (2, .int p2)] := hl
  unfold f_X9_limit at hf
  refine lv_aload_n X.1.1 X.1.2.1 dX9_limit_0 rfl (lv_at hl 0 rfl) ?_
  refine lv_iload_n X.1.1 X.1.2.1 dX9_limit_1 rfl (lv_at hl 1 rfl) ?_
  refine lv_bipush (v := (24 : Int32)) X.1.1 X.1.2.1 dX9_limit_2 (by decide) ?_
  refine lv_iload_n X.1.1 X.1.2.1 dX9_limit_4 rfl (lv_at hl 2 rfl) ?_
  refine lv_ldc (v := (4000000 : Int32)) X.1.1 X.1.2.1 X.1.2.2.2.1 (X.1.2.2.2.2 _ uc_X9_181) dX9_limit_5 ?_
  obtain ⟨g_a0, hf⟩ := ogd hf
  obtain ⟨z1, ez1, hf⟩ := obd hf
  refine r_callVI (As := [.int p1, .int (24 : Int32), .int p2, .int (4000000 : Int32)]) (rest := []) X hw (c_X9_set ez1) (cwV 4 X.1.2.2.2.2 (guV um_X9_182 ui_X9_set us_X9_set un_X9 uo_X9_set) rfl rfl rfl (by decide +kernel) ⟨Nat.le_of_ble_eq_true rfl, Nat.le_of_ble_eq_true rfl⟩) g_a0 (by decide) rfl rfl hl.1 rfl (Nat.le_of_ble_eq_true rfl) dX9_limit_7 ⟨Nat.zero_le _, Nat.zero_le _⟩ (fun H locs hw => ?_)
  obtain ⟨b_2, hf⟩ := ogd hf
  cases hf
  exact r_retI (v := z1.1) X hw hr hlk (narZ b_2) dX9_limit_10
/-! X9_worst -/
def f_X9_worst (h : Hs) (a0 : Nat) (p1 : Int32) (p2 : Int32) (M : Mm) : Option (Int32 × Mm) :=
  gd (ok h a0 9) <|
  (f_X9_set h a0 p1 (25 : Int32) p2 (4000000 : Int32) M).bind fun z1 =>
  gd (z1.1 = 0 ∨ z1.1 = 1) <|
  some (z1.1, z1.2)
set_option maxHeartbeats 4000000 in
set_option maxRecDepth 100000 in
theorem c_X9_worst {l : Launch} {D : va_G} {cy : Nat → ClassId} {h : Hs} {a0 : Nat} {p1 : Int32} {p2 : Int32} {M : Mm} {z : (Int32 × Mm)} (hf : f_X9_worst h a0 p1 p2 M = some z) : CtI l D cy yX9_worst (wu yX9_worst cX9_worst 3 (some .boolean)) ({ frames := 3, cells := 0, slots := 0, locals := 67 }) [.ref a0, .int p1, .int p2] h M z.1 z.2 := by
  refine enterI (cc := cX9_worst) (maxL := 3) (ret := (some .boolean)) (by decide) (Nat.le_of_ble_eq_true rfl) ?_
  intro p e s m args below meth c A ls X hw hr hlk hl
  have hl : lv_has ls 3 [(0, .ref a0), (1, .int p1), (2, .int p2)] := hl
  unfold f_X9_worst at hf
  refine lv_aload_n X.1.1 X.1.2.1 dX9_worst_0 rfl (lv_at hl 0 rfl) ?_
  refine lv_iload_n X.1.1 X.1.2.1 dX9_worst_1 rfl (lv_at hl 1 rfl) ?_
  refine lv_bipush (v := (25 : Int32)) X.1.1 X.1.2.1 dX9_worst_2 (by decide) ?_
  refine lv_iload_n X.1.1 X.1.2.1 dX9_worst_4 rfl (lv_at hl 2 rfl) ?_
  refine lv_ldc (v := (4000000 : Int32)) X.1.1 X.1.2.1 X.1.2.2.2.1 (X.1.2.2.2.2 _ uc_X9_181) dX9_worst_5 ?_
  obtain ⟨g_a0, hf⟩ := ogd hf
  obtain ⟨z1, ez1, hf⟩ := obd hf
  refine r_callVI (As := [.int p1, .int (25 : Int32), .int p2, .int (4000000 : Int32)]) (rest := []) X hw (c_X9_set ez1) (cwV 4 X.1.2.2.2.2 (guV um_X9_182 ui_X9_set us_X9_set un_X9 uo_X9_set) rfl rfl rfl (by decide +kernel) ⟨Nat.le_of_ble_eq_true rfl, Nat.le_of_ble_eq_true rfl⟩) g_a0 (by decide) rfl rfl hl.1 rfl (Nat.le_of_ble_eq_true rfl) dX9_worst_7 ⟨Nat.zero_le _, Nat.zero_le _⟩ (fun H locs hw => ?_)
  obtain ⟨b_2, hf⟩ := ogd hf
  cases hf
  exact r_retI (v := z1.1) X hw hr hlk (narZ b_2) dX9_worst_10
/-! X9_crack -/
def f_X9_crack (h : Hs) (a0 : Nat) (p1 : Int32) (p2 : Int32) (p3 : Int32) (M : Mm) : Option (Int32 × Mm) :=
  gd (ok h a0 9) <|
  lt_ (sI M a0 0 (0 : Int32)) fun M1 =>
  if p3 < 0 then
    some ((0 : Int32), M1)
  else
    if (4000000 : Int32) < p3 then
      some ((0 : Int32), M1)
    else
      (f_X9_set h a0 p1 (26 : Int32) p2 (1000000 : Int32) M1).bind fun z4 =>
      if ¬ z4.1 = 0 then
        dq (zR h a0 1) fun q6 =>
        (f_X9_base h a0 p1 z4.2).bind fun z7 =>
        gd (ok h q6 11) <|
        gd (inb (z7 + (27 : Int32)) (zN h q6)) <|
        lt_ (sI z4.2 q6 (z7 + (27 : Int32)).toNatClampNeg p3) fun M9 =>
        some ((1 : Int32), M9)
      else
        some ((0 : Int32), z4.2)
set_option maxHeartbeats 4000000 in
set_option maxRecDepth 100000 in
theorem c_X9_crack {l : Launch} {D : va_G} {cy : Nat → ClassId} {h : Hs} {a0 : Nat} {p1 : Int32} {p2 : Int32} {p3 : Int32} {M : Mm} {z : (Int32 × Mm)} (hf : f_X9_crack h a0 p1 p2 p3 M = some z) : CtI l D cy yX9_crack (wu yX9_crack cX9_crack 4 (some .boolean)) ({ frames := 3, cells := 0, slots := 0, locals := 67 }) [.ref a0, .int p1, .int p2, .int p3] h M z.1 z.2 := by
  refine enterI (cc := cX9_crack) (maxL := 4) (ret := (some .boolean)) (by decide) (Nat.le_of_ble_eq_true rfl) ?_
  intro p e s m args below meth c A ls X hw hr hlk hl
  have hl : lv_has ls 4 [(0, .ref a0), (1, .int p1), (2, .int p2), (3, .int p3)] := hl
  unfold f_X9_crack at hf
  refine lv_aload_n X.1.1 X.1.2.1 dX9_crack_0 rfl (lv_at hl 0 rfl) ?_
  refine lv_iconst (v := (0 : Int32)) X.1.1 X.1.2.1 dX9_crack_1 (by decide) ?_
  obtain ⟨g_a0, hf⟩ := ogd hf
  refine r_puti (k := 9) (j := 0) X hw rfl inX9 tyX9_ok nmX9 g_a0 rfl (by decide) (by decide) uf_X9_1 rfl rfl rfl rfl dX9_crack_2 (fun H locs hw => ?_)
  obtain ⟨M1, eM1, hf⟩ := olt hf
  rw [← eM1] at hw
  refine lv_iload_n X.1.1 X.1.2.1 dX9_crack_5 rfl (lv_at hl 3 rfl) ?_
  refine lv_if_lt (tgt := 28) X.1.1 X.1.2.1 dX9_crack_6 (by decide) (fun c_2 => ?_) (fun c_2 => ?_)
  · skip
    rw [if_pos c_2] at hf
    refine lv_iconst (v := (0 : Int32)) X.1.1 X.1.2.1 dX9_crack_28 (by decide) ?_
    cases hf
    exact r_retI (v := (0 : Int32)) X hw hr hlk rfl dX9_crack_29
  · skip
    rw [if_neg c_2] at hf
    refine lv_iload_n X.1.1 X.1.2.1 dX9_crack_9 rfl (lv_at hl 3 rfl) ?_
    refine lv_ldc (v := (4000000 : Int32)) X.1.1 X.1.2.1 X.1.2.2.2.1 (X.1.2.2.2.2 _ uc_X9_181) dX9_crack_10 ?_
    refine lv_icmp_gt (tgt := 28) X.1.1 X.1.2.1 dX9_crack_12 (by decide) (fun c_3 => ?_) (fun c_3 => ?_)
    · skip
      rw [if_pos c_3] at hf
      refine lv_iconst (v := (0 : Int32)) X.1.1 X.1.2.1 dX9_crack_28 (by decide) ?_
      cases hf
      exact r_retI (v := (0 : Int32)) X hw hr hlk rfl dX9_crack_29
    · skip
      rw [if_neg c_3] at hf
      refine lv_aload_n X.1.1 X.1.2.1 dX9_crack_15 rfl (lv_at hl 0 rfl) ?_
      refine lv_iload_n X.1.1 X.1.2.1 dX9_crack_16 rfl (lv_at hl 1 rfl) ?_
      refine lv_bipush (v := (26 : Int32)) X.1.1 X.1.2.1 dX9_crack_17 (by decide) ?_
      refine lv_iload_n X.1.1 X.1.2.1 dX9_crack_19 rfl (lv_at hl 2 rfl) ?_
      refine lv_ldc (v := (1000000 : Int32)) X.1.1 X.1.2.1 X.1.2.2.2.1 (X.1.2.2.2.2 _ uc_X9_87) dX9_crack_20 ?_
      obtain ⟨z4, ez4, hf⟩ := obd hf
      refine r_callVI (As := [.int p1, .int (26 : Int32), .int p2, .int (1000000 : Int32)]) (rest := []) X hw (c_X9_set ez4) (cwV 4 X.1.2.2.2.2 (guV um_X9_182 ui_X9_set us_X9_set un_X9 uo_X9_set) rfl rfl rfl (by decide +kernel) ⟨Nat.le_of_ble_eq_true rfl, Nat.le_of_ble_eq_true rfl⟩) g_a0 (by decide) rfl rfl hl.1 rfl (Nat.le_of_ble_eq_true rfl) dX9_crack_22 ⟨Nat.zero_le _, Nat.zero_le _⟩ (fun H locs hw => ?_)
      refine lv_if_ne (tgt := 30) X.1.1 X.1.2.1 dX9_crack_25 (by decide) (fun c_5 => ?_) (fun c_5 => ?_)
      · skip
        rw [if_pos c_5] at hf
        refine lv_aload_n X.1.1 X.1.2.1 dX9_crack_30 rfl (lv_at hl 0 rfl) ?_
        obtain ⟨q6, eq6, hf⟩ := odq hf
        refine r_getq (k := 9) (j := 1) X hw rfl inX9 g_a0 rfl (by decide) (by decide) uf_X9_13 rfl dX9_crack_31 eq6 ?_
        refine lv_aload_n X.1.1 X.1.2.1 dX9_crack_34 rfl (lv_at hl 0 rfl) ?_
        refine lv_iload_n X.1.1 X.1.2.1 dX9_crack_35 rfl (lv_at hl 1 rfl) ?_
        obtain ⟨z7, ez7, hf⟩ := obd hf
        refine r_callVI (As := [.int p1]) (rest := [.ref q6]) X hw (c_X9_base ez7) (cwV 1 X.1.2.2.2.2 (guV um_X9_170 ui_X9_base us_X9_base un_X9 uo_X9_base) rfl rfl rfl (by decide +kernel) ⟨Nat.le_of_ble_eq_true rfl, Nat.le_of_ble_eq_true rfl⟩) g_a0 (by decide) rfl rfl hl.1 rfl (Nat.le_of_ble_eq_true rfl) dX9_crack_36 ⟨Nat.zero_le _, Nat.zero_le _⟩ (fun H locs hw => ?_)
        refine lv_bipush (v := (27 : Int32)) X.1.1 X.1.2.1 dX9_crack_39 (by decide) ?_
        refine lv_iadd X.1.1 X.1.2.1 dX9_crack_41 ?_
        refine lv_iload_n X.1.1 X.1.2.1 dX9_crack_42 rfl (lv_at hl 3 rfl) ?_
        obtain ⟨g_q6, hf⟩ := ogd hf
        obtain ⟨i_8, hf⟩ := ogd hf
        refine r_iast X hw g_q6 i_8 dX9_crack_43 (fun H locs hw => ?_)
        obtain ⟨M9, eM9, hf⟩ := olt hf
        rw [← eM9] at hw
        refine lv_iconst (v := (1 : Int32)) X.1.1 X.1.2.1 dX9_crack_44 (by decide) ?_
        cases hf
        exact r_retI (v := (1 : Int32)) X hw hr hlk rfl dX9_crack_45
      · skip
        rw [if_neg (fun z => z c_5)] at hf
        refine lv_iconst (v := (0 : Int32)) X.1.1 X.1.2.1 dX9_crack_28 (by decide) ?_
        cases hf
        exact r_retI (v := (0 : Int32)) X hw hr hlk rfl dX9_crack_29
/-! X9_mend -/
def f_X9_mend (h : Hs) (a0 : Nat) (p1 : Int32) (M : Mm) : Option (Int32 × Mm) :=
  gd (ok h a0 9) <|
  lt_ (sI M a0 0 (0 : Int32)) fun M1 =>
  (f_X9_no h p1 M1).bind fun z2 =>
  if z2 = 0 then
    (f_X9_act h a0 M1).bind fun z4 =>
    dq (zR h a0 1) fun q5 =>
    (f_X9_base h a0 p1 z4).bind fun z6 =>
    gd (ok h q5 11) <|
    gd (inb (z6 + (0 : Int32)) (zN h q5)) <|
    lt_ (zI z4 q5 (z6 + (0 : Int32)).toNatClampNeg) fun x8 =>
    (f_X9_base h a0 p1 z4).bind fun z9 =>
    (f_X9_isGauge h a0 x8 z4).bind fun z10 =>
    Option.bind (
      if z10 = 0 then
        some (0 : Int32)
      else
        (f_X9_spans h a0 x8 z4).bind fun z12 =>
        some z12
      ) fun y13 =>
    gd (inb (z9 + (1 : Int32)) (zN h q5)) <|
    lt_ (sI z4 q5 (z9 + (1 : Int32)).toNatClampNeg y13) fun M15 =>
    (f_X9_base h a0 p1 M15).bind fun z16 =>
    gd (inb (z16 + (26 : Int32)) (zN h q5)) <|
    lt_ (sI M15 q5 (z16 + (26 : Int32)).toNatClampNeg (-1 : Int32)) fun M18 =>
    (f_X9_base h a0 p1 M18).bind fun z19 =>
    gd (inb (z19 + (1 : Int32)) (zN h q5)) <|
    some (zI M18 q5 (z19 + (1 : Int32)).toNatClampNeg, M18)
  else
    some ((-1 : Int32), M1)
set_option maxHeartbeats 4000000 in
set_option maxRecDepth 100000 in
theorem c_X9_mend {l : Launch} {D : va_G} {cy : Nat → ClassId} {h : Hs} {a0 : Nat} {p1 : Int32} {M : Mm} {z : (Int32 × Mm)} (hf : f_X9_mend h a0 p1 M = some z) : CtI l D cy yX9_mend (wu yX9_mend cX9_mend 3 (some .int)) ({ frames := 4, cells := 0, slots := 0, locals := 87 }) [.ref a0, .int p1] h M z.1 z.2 := by
  refine enterI (cc := cX9_mend) (maxL := 3) (ret := (some .int)) (by decide) (Nat.le_of_ble_eq_true rfl) ?_
  intro p e s m args below meth c A ls X hw hr hlk hl
  have hl : lv_has ls 3 [(0, .ref a0), (1, .int p1)] := hl
  unfold f_X9_mend at hf
  refine lv_aload_n X.1.1 X.1.2.1 dX9_mend_0 rfl (lv_at hl 0 rfl) ?_
  refine lv_iconst (v := (0 : Int32)) X.1.1 X.1.2.1 dX9_mend_1 (by decide) ?_
  obtain ⟨g_a0, hf⟩ := ogd hf
  refine r_puti (k := 9) (j := 0) X hw rfl inX9 tyX9_ok nmX9 g_a0 rfl (by decide) (by decide) uf_X9_1 rfl rfl rfl rfl dX9_mend_2 (fun H locs hw => ?_)
  obtain ⟨M1, eM1, hf⟩ := olt hf
  rw [← eM1] at hw
  refine lv_iload_n X.1.1 X.1.2.1 dX9_mend_5 rfl (lv_at hl 1 rfl) ?_
  obtain ⟨z2, ez2, hf⟩ := obd hf
  refine r_callSI (As := [.int p1]) (rest := []) X hw (c_X9_no ez2) (va_cwS 1 X.1.2.2.2.2 (guS um_X9_71 ut_X9_no un_X9 uo_X9_no) rfl rfl rfl (by decide +kernel) ⟨Nat.le_of_ble_eq_true rfl, Nat.le_of_ble_eq_true rfl⟩) rfl hl.1 rfl (Nat.le_of_ble_eq_true rfl) dX9_mend_6 ⟨Nat.zero_le _, Nat.zero_le _⟩ (fun H locs hw => ?_)
  refine lv_if_eq (tgt := 14) X.1.1 X.1.2.1 dX9_mend_9 (by decide) (fun c_3 => ?_) (fun c_3 => ?_)
  · skip
    rw [if_pos c_3] at hf
    refine lv_aload_n X.1.1 X.1.2.1 dX9_mend_14 rfl (lv_at hl 0 rfl) ?_
    obtain ⟨z4, ez4, hf⟩ := obd hf
    refine r_callVV (As := []) (rest := []) X hw (c_X9_act ez4) (cwV 0 X.1.2.2.2.2 (guV um_X9_76 ui_X9_act us_X9_act un_X9 uo_X9_act) rfl rfl rfl (by decide +kernel) ⟨Nat.le_of_ble_eq_true rfl, Nat.le_of_ble_eq_true rfl⟩) g_a0 (by decide) rfl rfl hl.1 rfl (Nat.le_of_ble_eq_true rfl) dX9_mend_15 ⟨Nat.zero_le _, Nat.zero_le _⟩ (fun H locs hw => ?_)
    refine lv_aload_n X.1.1 X.1.2.1 dX9_mend_18 rfl (lv_at hl 0 rfl) ?_
    obtain ⟨q5, eq5, hf⟩ := odq hf
    refine r_getq (k := 9) (j := 1) X hw rfl inX9 g_a0 rfl (by decide) (by decide) uf_X9_13 rfl dX9_mend_19 eq5 ?_
    refine lv_aload_n X.1.1 X.1.2.1 dX9_mend_22 rfl (lv_at hl 0 rfl) ?_
    refine lv_iload_n X.1.1 X.1.2.1 dX9_mend_23 rfl (lv_at hl 1 rfl) ?_
    obtain ⟨z6, ez6, hf⟩ := obd hf
    refine r_callVI (As := [.int p1]) (rest := [.ref q5]) X hw (c_X9_base ez6) (cwV 1 X.1.2.2.2.2 (guV um_X9_170 ui_X9_base us_X9_base un_X9 uo_X9_base) rfl rfl rfl (by decide +kernel) ⟨Nat.le_of_ble_eq_true rfl, Nat.le_of_ble_eq_true rfl⟩) g_a0 (by decide) rfl rfl hl.1 rfl (Nat.le_of_ble_eq_true rfl) dX9_mend_24 ⟨Nat.zero_le _, Nat.zero_le _⟩ (fun H locs hw => ?_)
    refine lv_iconst (v := (0 : Int32)) X.1.1 X.1.2.1 dX9_mend_27 (by decide) ?_
    refine lv_iadd X.1.1 X.1.2.1 dX9_mend_28 ?_
    obtain ⟨g_q5, hf⟩ := ogd hf
    obtain ⟨i_7, hf⟩ := ogd hf
    refine r_iald X hw g_q5 i_7 dX9_mend_29 ?_
    refine lv_topi (fun x8 ex8 => ?_)
    have hf := oltE ex8 hf
    refine lv_istore_n (lv' := [(2, .int x8), (0, .ref a0), (1, .int p1)]) X.1.1 X.1.2.1 dX9_mend_30 rfl hl (by decide) rfl (fun ls hl => ?_)
    refine lv_aload_n X.1.1 X.1.2.1 dX9_mend_31 rfl (lv_at hl 1 rfl) ?_
    refine r_getq (k := 9) (j := 1) X hw rfl inX9 g_a0 rfl (by decide) (by decide) uf_X9_13 rfl dX9_mend_32 eq5 ?_
    refine lv_aload_n X.1.1 X.1.2.1 dX9_mend_35 rfl (lv_at hl 1 rfl) ?_
    refine lv_iload_n X.1.1 X.1.2.1 dX9_mend_36 rfl (lv_at hl 2 rfl) ?_
    obtain ⟨z9, ez9, hf⟩ := obd hf
    refine r_callVI (As := [.int p1]) (rest := [.ref q5]) X hw (c_X9_base ez9) (cwV 1 X.1.2.2.2.2 (guV um_X9_170 ui_X9_base us_X9_base un_X9 uo_X9_base) rfl rfl rfl (by decide +kernel) ⟨Nat.le_of_ble_eq_true rfl, Nat.le_of_ble_eq_true rfl⟩) g_a0 (by decide) rfl rfl hl.1 rfl (Nat.le_of_ble_eq_true rfl) dX9_mend_37 ⟨Nat.zero_le _, Nat.zero_le _⟩ (fun H locs hw => ?_)
    refine lv_iconst (v := (1 : Int32)) X.1.1 X.1.2.1 dX9_mend_40 (by decide) ?_
    refine lv_iadd X.1.1 X.1.2.1 dX9_mend_41 ?_
    refine lv_aload_n X.1.1 X.1.2.1 dX9_mend_42 rfl (lv_at hl 1 rfl) ?_
    refine lv_iload_n X.1.1 X.1.2.1 dX9_mend_43 rfl (lv_at hl 0 rfl) ?_
    obtain ⟨z10, ez10, hf⟩ := obd hf
    refine r_callVI (As := [.int x8]) (rest := [.int (z9 + (1 : Int32)), .ref q5]) X hw (c_X9_isGauge ez10) (cwV 1 X.1.2.2.2.2 (guV um_X9_154 ui_X9_isGauge us_X9_isGauge un_X9 uo_X9_isGauge) rfl rfl rfl (by decide +kernel) ⟨Nat.le_of_ble_eq_true rfl, Nat.le_of_ble_eq_true rfl⟩) g_a0 (by decide) rfl rfl hl.1 rfl (Nat.le_of_ble_eq_true rfl) dX9_mend_44 ⟨Nat.zero_le _, Nat.zero_le _⟩ (fun H locs hw => ?_)
    obtain ⟨y13, ey13, hf⟩ := obd hf
    have Jy13 : ∀ (H : Heap) (locs : List Loc) (ls : Array Slot), Wd D cy A s.heap h z4 H locs → lv_has ls 3 [(0, .ref a0), (1, .int p1)] → W p l e ({ frames := 4, cells := 0, slots := 0, locals := 87 } : Room) s m args below meth c H locs 0 0 (QI below D cy A h args s z.1 z.2) (F0 m 59 ls [.int y13, .int (z9 + (1 : Int32)), .ref q5]) := by
      intro H locs ls hw hl
      obtain ⟨i_14, hf⟩ := ogd hf
      refine r_iast X hw g_q5 i_14 dX9_mend_59 (fun H locs hw => ?_)
      obtain ⟨M15, eM15, hf⟩ := olt hf
      rw [← eM15] at hw
      refine lv_aload_n X.1.1 X.1.2.1 dX9_mend_60 rfl (lv_at hl 0 rfl) ?_
      refine r_getq (k := 9) (j := 1) X hw rfl inX9 g_a0 rfl (by decide) (by decide) uf_X9_13 rfl dX9_mend_61 eq5 ?_
      refine lv_aload_n X.1.1 X.1.2.1 dX9_mend_64 rfl (lv_at hl 0 rfl) ?_
      refine lv_iload_n X.1.1 X.1.2.1 dX9_mend_65 rfl (lv_at hl 1 rfl) ?_
      obtain ⟨z16, ez16, hf⟩ := obd hf
      refine r_callVI (As := [.int p1]) (rest := [.ref q5]) X hw (c_X9_base ez16) (cwV 1 X.1.2.2.2.2 (guV um_X9_170 ui_X9_base us_X9_base un_X9 uo_X9_base) rfl rfl rfl (by decide +kernel) ⟨Nat.le_of_ble_eq_true rfl, Nat.le_of_ble_eq_true rfl⟩) g_a0 (by decide) rfl rfl hl.1 rfl (Nat.le_of_ble_eq_true rfl) dX9_mend_66 ⟨Nat.zero_le _, Nat.zero_le _⟩ (fun H locs hw => ?_)
      refine lv_bipush (v := (26 : Int32)) X.1.1 X.1.2.1 dX9_mend_69 (by decide) ?_
      refine lv_iadd X.1.1 X.1.2.1 dX9_mend_71 ?_
      refine lv_iconst (v := (-1 : Int32)) X.1.1 X.1.2.1 dX9_mend_72 (by decide) ?_
      obtain ⟨i_17, hf⟩ := ogd hf
      refine r_iast X hw g_q5 i_17 dX9_mend_73 (fun H locs hw => ?_)
      obtain ⟨M18, eM18, hf⟩ := olt hf
      rw [← eM18] at hw
      refine lv_aload_n X.1.1 X.1.2.1 dX9_mend_74 rfl (lv_at hl 0 rfl) ?_
      refine r_getq (k := 9) (j := 1) X hw rfl inX9 g_a0 rfl (by decide) (by decide) uf_X9_13 rfl dX9_mend_75 eq5 ?_
      refine lv_aload_n X.1.1 X.1.2.1 dX9_mend_78 rfl (lv_at hl 0 rfl) ?_
      refine lv_iload_n X.1.1 X.1.2.1 dX9_mend_79 rfl (lv_at hl 1 rfl) ?_
      obtain ⟨z19, ez19, hf⟩ := obd hf
      refine r_callVI (As := [.int p1]) (rest := [.ref q5]) X hw (c_X9_base ez19) (cwV 1 X.1.2.2.2.2 (guV um_X9_170 ui_X9_base us_X9_base un_X9 uo_X9_base) rfl rfl rfl (by decide +kernel) ⟨Nat.le_of_ble_eq_true rfl, Nat.le_of_ble_eq_true rfl⟩) g_a0 (by decide) rfl rfl hl.1 rfl (Nat.le_of_ble_eq_true rfl) dX9_mend_80 ⟨Nat.zero_le _, Nat.zero_le _⟩ (fun H locs hw => ?_)
      refine lv_iconst (v := (1 : Int32)) X.1.1 X.1.2.1 dX9_mend_83 (by decide) ?_
      refine lv_iadd X.1.1 X.1.2.1 dX9_mend_84 ?_
      obtain ⟨i_20, hf⟩ := ogd hf
      refine r_iald X hw g_q5 i_20 dX9_mend_85 ?_
      cases hf
      exact r_retI (v := zI M18 q5 (z19 + (1 : Int32)).toNatClampNeg) X hw hr hlk rfl dX9_mend_86
    clear hf
    have hf := ey13
    clear ey13
    refine lv_if_eq (tgt := 58) X.1.1 X.1.2.1 dX9_mend_47 (by decide) (fun c_11 => ?_) (fun c_11 => ?_)
    · skip
      rw [if_pos c_11] at hf
      refine lv_iconst (v := (0 : Int32)) X.1.1 X.1.2.1 dX9_mend_58 (by decide) ?_
      cases hf
      exact Jy13 _ _ _ hw (lv_sub hl [1, 2] rfl)
    · skip
      rw [if_neg c_11] at hf
      refine lv_aload_n X.1.1 X.1.2.1 dX9_mend_50 rfl (lv_at hl 1 rfl) ?_
      refine lv_iload_n X.1.1 X.1.2.1 dX9_mend_51 rfl (lv_at hl 0 rfl) ?_
      obtain ⟨z12, ez12, hf⟩ := obd hf
      refine r_callVI (As := [.int x8]) (rest := [.int (z9 + (1 : Int32)), .ref q5]) X hw (c_X9_spans ez12) (cwV 1 X.1.2.2.2.2 (guV um_X9_121 ui_X9_spans us_X9_spans un_X9 uo_X9_spans) rfl rfl rfl (by decide +kernel) ⟨Nat.le_of_ble_eq_true rfl, Nat.le_of_ble_eq_true rfl⟩) g_a0 (by decide) rfl rfl hl.1 rfl (Nat.le_of_ble_eq_true rfl) dX9_mend_52 ⟨Nat.zero_le _, Nat.zero_le _⟩ (fun H locs hw => ?_)
      refine lv_goto (tgt := 59) X.1.1 X.1.2.1 dX9_mend_55 (by decide) ?_
      cases hf
      exact Jy13 _ _ _ hw (lv_sub hl [1, 2] rfl)
  · skip
    rw [if_neg c_3] at hf
    refine lv_iconst (v := (-1 : Int32)) X.1.1 X.1.2.1 dX9_mend_12 (by decide) ?_
    cases hf
    exact r_retI (v := (-1 : Int32)) X hw hr hlk rfl dX9_mend_13
