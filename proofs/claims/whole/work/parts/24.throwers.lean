/-! X8_span -/
def f_X8_span (h : Hs) (a0 : Nat) (p1 : Int32) (p2 : Int32) (M : Mm) : Option (Option Int32 × Mm) :=
  gd (ok h a0 8) <|
  dq (zR h a0 1) fun q1 =>
  gd (ok h q1 0) <|
  (f_X0_gaugeAt h q1 p1 M).bind fun z2 =>
  mq z2
    (
     some (none, M)
    )
    (fun q3 =>
     if p2 < 0 then
       some (none, M)
     else
       (f_X0_spansOf h q1 q3 M).bind fun z5 =>
       if p2 < z5 then
         (f_X0_cellOf h q1 q3 p2 M).bind fun z7 =>
         some (some z7, M)
       else
         some (none, M)
    )
set_option maxHeartbeats 4000000 in
set_option maxRecDepth 100000 in
theorem c_X8_span {l : Launch} (hst : l.stackTraces = false) {D : va_G} {cy : Nat → ClassId} {h : Hs} {a0 : Nat} {p1 : Int32} {p2 : Int32} {M : Mm} {z : (Option Int32 × Mm)} (hf : f_X8_span h a0 p1 p2 M = some z) : CtXI l D cy yX8_span (wu yX8_span cX8_span 4 (some .int)) ({ frames := 6, cells := 1, slots := 6, locals := 90 }) [.ref a0, .int p1, .int p2] h M z.1 z.2 := by
  refine enterXI (cc := cX8_span) (maxL := 4) (ret := (some .int)) (by decide) (Nat.le_of_ble_eq_true rfl) ?_
  intro p e s m args below meth c A ls X hw hr hlk hout hl
  have hl : lv_has ls 4 [(0, .ref a0), (1, .int p1), (2, .int p2)] := hl
  unfold f_X8_span at hf
  refine lv_aload_n X.1.1 X.1.2.1 dX8_span_0 rfl (lv_at hl 0 rfl) ?_
  obtain ⟨g_a0, hf⟩ := ogd hf
  obtain ⟨q1, eq1, hf⟩ := odq hf
  refine r_getq (k := 8) (j := 1) X hw rfl inX8 g_a0 rfl (by decide) (by decide) uf_X8_19 rfl dX8_span_1 eq1 ?_
  refine lv_iload_n X.1.1 X.1.2.1 dX8_span_4 rfl (lv_at hl 1 rfl) ?_
  obtain ⟨g_q1, hf⟩ := ogd hf
  obtain ⟨z2, ez2, hf⟩ := obd hf
  refine r_callVQ (As := [.int p1]) (rest := []) X hw (c_X0_gaugeAt ez2) (cwV 1 X.1.2.2.2.2 (guV um_X8_121 ui_X0_gaugeAt us_X0_gaugeAt un_X0 uo_X0_gaugeAt) rfl rfl rfl (by decide +kernel) ⟨Nat.le_of_ble_eq_true rfl, Nat.le_of_ble_eq_true rfl⟩) g_q1 (by decide) rfl rfl hl.1 rfl (Nat.le_of_ble_eq_true rfl) dX8_span_5 ⟨Nat.zero_le _, Nat.zero_le _⟩ (fun H locs hw => ?_)
  obtain ⟨nq3, hf⟩ | ⟨q3, nq3, hf⟩ := omq hf
  · rw [nq3]
    refine lv_astore_nN (lv' := [(3, .null), (0, .ref a0), (1, .int p1), (2, .int p2)]) X.1.1 X.1.2.1 dX8_span_8 rfl hl (by decide) rfl (fun ls hl => ?_)
    refine lv_aload_nN X.1.1 X.1.2.1 dX8_span_9 rfl (lv_at hl 0 rfl) ?_
    refine lv_ifnullN (tgt := 29) X.1.1 X.1.2.1 dX8_span_10 (by decide) ?_
    cases hf
    exact r_throwI X hw hst (X.2.2.2.2.2.2.1) hl.1 dX8_span_29 dX8_span_32 dX8_span_33 dX8_span_35 dX8_span_38 hout ⟨Nat.le_of_ble_eq_true rfl, Nat.le_of_ble_eq_true rfl, Nat.le_of_ble_eq_true rfl, Nat.le_of_ble_eq_true rfl⟩ hlk
  · rw [nq3]
    refine lv_astore_n (lv' := [(3, .ref q3), (0, .ref a0), (1, .int p1), (2, .int p2)]) X.1.1 X.1.2.1 dX8_span_8 rfl hl (by decide) rfl (fun ls hl => ?_)
    refine lv_aload_n X.1.1 X.1.2.1 dX8_span_9 rfl (lv_at hl 0 rfl) ?_
    refine lv_ifnull X.1.1 X.1.2.1 dX8_span_10 ?_
    refine lv_iload_n X.1.1 X.1.2.1 dX8_span_13 rfl (lv_at hl 3 rfl) ?_
    refine lv_if_lt (tgt := 29) X.1.1 X.1.2.1 dX8_span_14 (by decide) (fun c_4 => ?_) (fun c_4 => ?_)
    · skip
      rw [if_pos c_4] at hf
      cases hf
      exact r_throwI X hw hst (X.2.2.2.2.2.2.1) hl.1 dX8_span_29 dX8_span_32 dX8_span_33 dX8_span_35 dX8_span_38 hout ⟨Nat.le_of_ble_eq_true rfl, Nat.le_of_ble_eq_true rfl, Nat.le_of_ble_eq_true rfl, Nat.le_of_ble_eq_true rfl⟩ hlk
    · skip
      rw [if_neg c_4] at hf
      refine lv_iload_n X.1.1 X.1.2.1 dX8_span_17 rfl (lv_at hl 3 rfl) ?_
      refine lv_aload_n X.1.1 X.1.2.1 dX8_span_18 rfl (lv_at hl 1 rfl) ?_
      refine r_getq (k := 8) (j := 1) X hw rfl inX8 g_a0 rfl (by decide) (by decide) uf_X8_19 rfl dX8_span_19 eq1 ?_
      refine lv_aload_n X.1.1 X.1.2.1 dX8_span_22 rfl (lv_at hl 0 rfl) ?_
      obtain ⟨z5, ez5, hf⟩ := obd hf
      refine r_callVI (As := [.ref q3]) (rest := [.int p2]) X hw (c_X0_spansOf ez5) (cwV 1 X.1.2.2.2.2 (guV um_X8_128 ui_X0_spansOf us_X0_spansOf un_X0 uo_X0_spansOf) rfl rfl rfl (by decide +kernel) ⟨Nat.le_of_ble_eq_true rfl, Nat.le_of_ble_eq_true rfl⟩) g_q1 (by decide) rfl rfl hl.1 rfl (Nat.le_of_ble_eq_true rfl) dX8_span_23 ⟨Nat.zero_le _, Nat.zero_le _⟩ (fun H locs hw => ?_)
      refine lv_icmp_lt (tgt := 39) X.1.1 X.1.2.1 dX8_span_26 (by decide) (fun c_6 => ?_) (fun c_6 => ?_)
      · skip
        rw [if_pos c_6] at hf
        refine lv_aload_n X.1.1 X.1.2.1 dX8_span_39 rfl (lv_at hl 1 rfl) ?_
        refine r_getq (k := 8) (j := 1) X hw rfl inX8 g_a0 rfl (by decide) (by decide) uf_X8_19 rfl dX8_span_40 eq1 ?_
        refine lv_aload_n X.1.1 X.1.2.1 dX8_span_43 rfl (lv_at hl 0 rfl) ?_
        refine lv_iload_n X.1.1 X.1.2.1 dX8_span_44 rfl (lv_at hl 3 rfl) ?_
        obtain ⟨z7, ez7, hf⟩ := obd hf
        refine r_callVI (As := [.ref q3, .int p2]) (rest := []) X hw (c_X0_cellOf ez7) (cwV 2 X.1.2.2.2.2 (guV um_X8_157 ui_X0_cellOf us_X0_cellOf un_X0 uo_X0_cellOf) rfl rfl rfl (by decide +kernel) ⟨Nat.le_of_ble_eq_true rfl, Nat.le_of_ble_eq_true rfl⟩) g_q1 (by decide) rfl rfl hl.1 rfl (Nat.le_of_ble_eq_true rfl) dX8_span_45 ⟨Nat.zero_le _, Nat.zero_le _⟩ (fun H locs hw => ?_)
        cases hf
        exact r_retXI (v := z7) X hw hr hlk rfl dX8_span_48
      · skip
        rw [if_neg c_6] at hf
        cases hf
        exact r_throwI X hw hst (X.2.2.2.2.2.2.1) hl.1 dX8_span_29 dX8_span_32 dX8_span_33 dX8_span_35 dX8_span_38 hout ⟨Nat.le_of_ble_eq_true rfl, Nat.le_of_ble_eq_true rfl, Nat.le_of_ble_eq_true rfl, Nat.le_of_ble_eq_true rfl⟩ hlk
/-! X8_turn -/
def f_X8_turn (h : Hs) (a0 : Nat) (p1 : Int32) (p2 : Int32) (p3 : Int32) (M : Mm) : Option (Option Int32 × Mm) :=
  gd (ok h a0 8) <|
  dq (zR h a0 1) fun q1 =>
  gd (ok h q1 0) <|
  (f_X0_gaugeAt h q1 p1 M).bind fun z2 =>
  mq z2
    (
     some (none, M)
    )
    (fun q3 =>
     if p2 < 0 then
       some (none, M)
     else
       if p2 ≤ (1 : Int32) then
         dq (zR h a0 2) fun q6 =>
         gd (ok h q6 5) <|
         (f_X5_reckon h q6 q1 q3 (0 : Int32) M).bind fun z7 =>
         Option.bind (
           if ¬ p2 = 0 then
             some (zI z7 q6 10)
           else
             some (zI z7 q6 9)
           ) fun y9 =>
         if p3 < 0 then
           some (none, z7)
         else
           if p3 < y9 then
             Option.bind (
               if ¬ p2 = 0 then
                 (f_X5_restAt h q6 p3 z7).bind fun z13 =>
                 some z13
               else
                 some p3
               ) fun y14 =>
             (f_X5_turnAt h q6 y14 z7).bind fun z15 =>
             some (some z15, z7)
           else
             some (none, z7)
       else
         some (none, M)
    )
set_option maxHeartbeats 4000000 in
set_option maxRecDepth 100000 in
theorem c_X8_turn {l : Launch} (hst : l.stackTraces = false) {D : va_G} {cy : Nat → ClassId} {h : Hs} {a0 : Nat} {p1 : Int32} {p2 : Int32} {p3 : Int32} {M : Mm} {z : (Option Int32 × Mm)} (hf : f_X8_turn h a0 p1 p2 p3 M = some z) : CtXI l D cy yX8_turn (wu yX8_turn cX8_turn 6 (some .int)) ({ frames := 6, cells := 1, slots := 6, locals := 115 }) [.ref a0, .int p1, .int p2, .int p3] h M z.1 z.2 := by
  refine enterXI (cc := cX8_turn) (maxL := 6) (ret := (some .int)) (by decide) (Nat.le_of_ble_eq_true rfl) ?_
  intro p e s m args below meth c A ls X hw hr hlk hout hl
  have hl : lv_has ls 6 [(0, .ref a0), (1, .int p1), (2, .int p2), (3, .int p3)] := hl
  unfold f_X8_turn at hf
  refine lv_aload_n X.1.1 X.1.2.1 dX8_turn_0 rfl (lv_at hl 0 rfl) ?_
  obtain ⟨g_a0, hf⟩ := ogd hf
  obtain ⟨q1, eq1, hf⟩ := odq hf
  refine r_getq (k := 8) (j := 1) X hw rfl inX8 g_a0 rfl (by decide) (by decide) uf_X8_19 rfl dX8_turn_1 eq1 ?_
  refine lv_iload_n X.1.1 X.1.2.1 dX8_turn_4 rfl (lv_at hl 1 rfl) ?_
  obtain ⟨g_q1, hf⟩ := ogd hf
  obtain ⟨z2, ez2, hf⟩ := obd hf
  refine r_callVQ (As := [.int p1]) (rest := []) X hw (c_X0_gaugeAt ez2) (cwV 1 X.1.2.2.2.2 (guV um_X8_121 ui_X0_gaugeAt us_X0_gaugeAt un_X0 uo_X0_gaugeAt) rfl rfl rfl (by decide +kernel) ⟨Nat.le_of_ble_eq_true rfl, Nat.le_of_ble_eq_true rfl⟩) g_q1 (by decide) rfl rfl hl.1 rfl (Nat.le_of_ble_eq_true rfl) dX8_turn_5 ⟨Nat.zero_le _, Nat.zero_le _⟩ (fun H locs hw => ?_)
  obtain ⟨nq3, hf⟩ | ⟨q3, nq3, hf⟩ := omq hf
  · rw [nq3]
    refine lv_astoreN (lv' := [(4, .null), (0, .ref a0), (1, .int p1), (2, .int p2), (3, .int p3)]) X.1.1 X.1.2.1 dX8_turn_8 hl (by decide) rfl (fun ls hl => ?_)
    refine lv_aloadN X.1.1 X.1.2.1 dX8_turn_10 (lv_at hl 0 rfl) ?_
    refine lv_ifnullN (tgt := 24) X.1.1 X.1.2.1 dX8_turn_12 (by decide) ?_
    cases hf
    exact r_throwI X hw hst (X.2.2.2.2.2.2.2.1) hl.1 dX8_turn_24 dX8_turn_27 dX8_turn_28 dX8_turn_30 dX8_turn_33 hout ⟨Nat.le_of_ble_eq_true rfl, Nat.le_of_ble_eq_true rfl, Nat.le_of_ble_eq_true rfl, Nat.le_of_ble_eq_true rfl⟩ hlk
  · rw [nq3]
    refine lv_astore (lv' := [(4, .ref q3), (0, .ref a0), (1, .int p1), (2, .int p2), (3, .int p3)]) X.1.1 X.1.2.1 dX8_turn_8 hl (by decide) rfl (fun ls hl => ?_)
    refine lv_aload X.1.1 X.1.2.1 dX8_turn_10 (lv_at hl 0 rfl) ?_
    refine lv_ifnull X.1.1 X.1.2.1 dX8_turn_12 ?_
    refine lv_iload_n X.1.1 X.1.2.1 dX8_turn_15 rfl (lv_at hl 3 rfl) ?_
    refine lv_if_lt (tgt := 24) X.1.1 X.1.2.1 dX8_turn_16 (by decide) (fun c_4 => ?_) (fun c_4 => ?_)
    · skip
      rw [if_pos c_4] at hf
      cases hf
      exact r_throwI X hw hst (X.2.2.2.2.2.2.2.1) hl.1 dX8_turn_24 dX8_turn_27 dX8_turn_28 dX8_turn_30 dX8_turn_33 hout ⟨Nat.le_of_ble_eq_true rfl, Nat.le_of_ble_eq_true rfl, Nat.le_of_ble_eq_true rfl, Nat.le_of_ble_eq_true rfl⟩ hlk
    · skip
      rw [if_neg c_4] at hf
      refine lv_iload_n X.1.1 X.1.2.1 dX8_turn_19 rfl (lv_at hl 3 rfl) ?_
      refine lv_iconst (v := (1 : Int32)) X.1.1 X.1.2.1 dX8_turn_20 (by decide) ?_
      refine lv_icmp_le (tgt := 34) X.1.1 X.1.2.1 dX8_turn_21 (by decide) (fun c_5 => ?_) (fun c_5 => ?_)
      · skip
        rw [if_pos c_5] at hf
        refine lv_aload_n X.1.1 X.1.2.1 dX8_turn_34 rfl (lv_at hl 1 rfl) ?_
        obtain ⟨q6, eq6, hf⟩ := odq hf
        refine r_getq (k := 8) (j := 2) X hw rfl inX8 g_a0 rfl (by decide) (by decide) uf_X8_26 rfl dX8_turn_35 eq6 ?_
        refine lv_aload_n X.1.1 X.1.2.1 dX8_turn_38 rfl (lv_at hl 1 rfl) ?_
        refine r_getq (k := 8) (j := 1) X hw rfl inX8 g_a0 rfl (by decide) (by decide) uf_X8_19 rfl dX8_turn_39 eq1 ?_
        refine lv_aload X.1.1 X.1.2.1 dX8_turn_42 (lv_at hl 0 rfl) ?_
        refine lv_iconst (v := (0 : Int32)) X.1.1 X.1.2.1 dX8_turn_44 (by decide) ?_
        obtain ⟨g_q6, hf⟩ := ogd hf
        obtain ⟨z7, ez7, hf⟩ := obd hf
        refine r_callVV (As := [.ref q1, .ref q3, .int (0 : Int32)]) (rest := []) X hw (c_X5_reckon ez7) (cwV 3 X.1.2.2.2.2 (guV um_X8_124 ui_X5_reckon us_X5_reckon un_X5 uo_X5_reckon) rfl rfl rfl (by decide +kernel) ⟨Nat.le_of_ble_eq_true rfl, Nat.le_of_ble_eq_true rfl⟩) g_q6 (by decide) rfl rfl hl.1 rfl (Nat.le_of_ble_eq_true rfl) dX8_turn_45 ⟨Nat.zero_le _, Nat.zero_le _⟩ (fun H locs hw => ?_)
        refine lv_iload_n X.1.1 X.1.2.1 dX8_turn_48 rfl (lv_at hl 3 rfl) ?_
        obtain ⟨y9, ey9, hf⟩ := obd hf
        have Jy9 : ∀ (H : Heap) (locs : List Loc) (ls : Array Slot), Wd D cy A s.heap h z7 H locs → lv_has ls 6 [(0, .ref a0), (2, .int p2), (3, .int p3)] → W p l e ({ frames := 6, cells := 1, slots := 6, locals := 115 } : Room) s m args below meth c H locs 0 0 (QXI below D cy A h args s z.1 z.2) (F0 m 69 ls [.int y9]) := by
          intro H locs ls hw hl
          refine lv_istore (lv' := [(5, .int y9), (0, .ref a0), (2, .int p2), (3, .int p3)]) X.1.1 X.1.2.1 dX8_turn_69 hl (by decide) rfl (fun ls hl => ?_)
          refine lv_iload_n X.1.1 X.1.2.1 dX8_turn_71 rfl (lv_at hl 3 rfl) ?_
          refine lv_if_lt (tgt := 81) X.1.1 X.1.2.1 dX8_turn_72 (by decide) (fun c_10 => ?_) (fun c_10 => ?_)
          · skip
            rw [if_pos c_10] at hf
            cases hf
            exact r_throwI X hw hst (X.2.2.2.2.2.2.2.1) hl.1 dX8_turn_81 dX8_turn_84 dX8_turn_85 dX8_turn_87 dX8_turn_90 hout ⟨Nat.le_of_ble_eq_true rfl, Nat.le_of_ble_eq_true rfl, Nat.le_of_ble_eq_true rfl, Nat.le_of_ble_eq_true rfl⟩ hlk
          · skip
            rw [if_neg c_10] at hf
            refine lv_iload_n X.1.1 X.1.2.1 dX8_turn_75 rfl (lv_at hl 3 rfl) ?_
            refine lv_iload X.1.1 X.1.2.1 dX8_turn_76 (lv_at hl 0 rfl) ?_
            refine lv_icmp_lt (tgt := 91) X.1.1 X.1.2.1 dX8_turn_78 (by decide) (fun c_11 => ?_) (fun c_11 => ?_)
            · skip
              rw [if_pos c_11] at hf
              refine lv_aload_n X.1.1 X.1.2.1 dX8_turn_91 rfl (lv_at hl 1 rfl) ?_
              refine r_getq (k := 8) (j := 2) X hw rfl inX8 g_a0 rfl (by decide) (by decide) uf_X8_26 rfl dX8_turn_92 eq6 ?_
              refine lv_iload_n X.1.1 X.1.2.1 dX8_turn_95 rfl (lv_at hl 2 rfl) ?_
              obtain ⟨y14, ey14, hf⟩ := obd hf
              have Jy14 : ∀ (H : Heap) (locs : List Loc) (ls : Array Slot), Wd D cy A s.heap h z7 H locs → lv_has ls 6 [] → W p l e ({ frames := 6, cells := 1, slots := 6, locals := 115 } : Room) s m args below meth c H locs 0 0 (QXI below D cy A h args s z.1 z.2) (F0 m 111 ls [.int y14, .ref q6]) := by
                intro H locs ls hw hl
                obtain ⟨z15, ez15, hf⟩ := obd hf
                refine r_callVI (As := [.int y14]) (rest := []) X hw (c_X5_turnAt ez15) (cwV 1 X.1.2.2.2.2 (guV um_X8_167 ui_X5_turnAt us_X5_turnAt un_X5 uo_X5_turnAt) rfl rfl rfl (by decide +kernel) ⟨Nat.le_of_ble_eq_true rfl, Nat.le_of_ble_eq_true rfl⟩) g_q6 (by decide) rfl rfl hl.1 rfl (Nat.le_of_ble_eq_true rfl) dX8_turn_111 ⟨Nat.zero_le _, Nat.zero_le _⟩ (fun H locs hw => ?_)
                cases hf
                exact r_retXI (v := z15) X hw hr hlk rfl dX8_turn_114
              clear hf
              have hf := ey14
              clear ey14
              refine lv_if_ne (tgt := 103) X.1.1 X.1.2.1 dX8_turn_96 (by decide) (fun c_12 => ?_) (fun c_12 => ?_)
              · skip
                rw [if_pos c_12] at hf
                refine lv_aload_n X.1.1 X.1.2.1 dX8_turn_103 rfl (lv_at hl 1 rfl) ?_
                refine r_getq (k := 8) (j := 2) X hw rfl inX8 g_a0 rfl (by decide) (by decide) uf_X8_26 rfl dX8_turn_104 eq6 ?_
                refine lv_iload_n X.1.1 X.1.2.1 dX8_turn_107 rfl (lv_at hl 3 rfl) ?_
                obtain ⟨z13, ez13, hf⟩ := obd hf
                refine r_callVI (As := [.int p3]) (rest := [.ref q6]) X hw (c_X5_restAt ez13) (cwV 1 X.1.2.2.2.2 (guV um_X8_163 ui_X5_restAt us_X5_restAt un_X5 uo_X5_restAt) rfl rfl rfl (by decide +kernel) ⟨Nat.le_of_ble_eq_true rfl, Nat.le_of_ble_eq_true rfl⟩) g_q6 (by decide) rfl rfl hl.1 rfl (Nat.le_of_ble_eq_true rfl) dX8_turn_108 ⟨Nat.zero_le _, Nat.zero_le _⟩ (fun H locs hw => ?_)
                cases hf
                exact Jy14 _ _ _ hw (lv_sub hl [] rfl)
              · skip
                rw [if_neg (fun z => z c_12)] at hf
                refine lv_iload_n X.1.1 X.1.2.1 dX8_turn_99 rfl (lv_at hl 3 rfl) ?_
                refine lv_goto (tgt := 111) X.1.1 X.1.2.1 dX8_turn_100 (by decide) ?_
                cases hf
                exact Jy14 _ _ _ hw (lv_sub hl [] rfl)
            · skip
              rw [if_neg c_11] at hf
              cases hf
              exact r_throwI X hw hst (X.2.2.2.2.2.2.2.1) hl.1 dX8_turn_81 dX8_turn_84 dX8_turn_85 dX8_turn_87 dX8_turn_90 hout ⟨Nat.le_of_ble_eq_true rfl, Nat.le_of_ble_eq_true rfl, Nat.le_of_ble_eq_true rfl, Nat.le_of_ble_eq_true rfl⟩ hlk
        clear hf
        have hf := ey9
        clear ey9
        refine lv_if_ne (tgt := 62) X.1.1 X.1.2.1 dX8_turn_49 (by decide) (fun c_8 => ?_) (fun c_8 => ?_)
        · skip
          rw [if_pos c_8] at hf
          refine lv_aload_n X.1.1 X.1.2.1 dX8_turn_62 rfl (lv_at hl 1 rfl) ?_
          refine r_getq (k := 8) (j := 2) X hw rfl inX8 g_a0 rfl (by decide) (by decide) uf_X8_26 rfl dX8_turn_63 eq6 ?_
          refine r_geti (k := 5) (j := 10) X hw rfl inX5 g_q6 rfl (by decide) (by decide) uf_X8_147 rfl dX8_turn_66 ?_
          cases hf
          exact Jy9 _ _ _ hw (lv_sub hl [1, 3, 4] rfl)
        · skip
          rw [if_neg (fun z => z c_8)] at hf
          refine lv_aload_n X.1.1 X.1.2.1 dX8_turn_52 rfl (lv_at hl 1 rfl) ?_
          refine r_getq (k := 8) (j := 2) X hw rfl inX8 g_a0 rfl (by decide) (by decide) uf_X8_26 rfl dX8_turn_53 eq6 ?_
          refine r_geti (k := 5) (j := 9) X hw rfl inX5 g_q6 rfl (by decide) (by decide) uf_X8_141 rfl dX8_turn_56 ?_
          refine lv_goto (tgt := 69) X.1.1 X.1.2.1 dX8_turn_59 (by decide) ?_
          cases hf
          exact Jy9 _ _ _ hw (lv_sub hl [1, 3, 4] rfl)
      · skip
        rw [if_neg c_5] at hf
        cases hf
        exact r_throwI X hw hst (X.2.2.2.2.2.2.2.1) hl.1 dX8_turn_24 dX8_turn_27 dX8_turn_28 dX8_turn_30 dX8_turn_33 hout ⟨Nat.le_of_ble_eq_true rfl, Nat.le_of_ble_eq_true rfl, Nat.le_of_ble_eq_true rfl, Nat.le_of_ble_eq_true rfl⟩ hlk
/-! X8_cycle -/
def f_X8_cycle (h : Hs) (a0 : Nat) (p1 : Int32) (p2 : Int32) (p3 : Int32) (M : Mm) : Option (Option Int32 × Mm) :=
  gd (ok h a0 8) <|
  dq (zR h a0 1) fun q1 =>
  gd (ok h q1 0) <|
  (f_X0_gaugeAt h q1 p1 M).bind fun z2 =>
  mq z2
    (
     some (none, M)
    )
    (fun q3 =>
     if p3 < 0 then
       some (none, M)
     else
       if p3 ≤ (6 : Int32) then
         dq (zR h a0 2) fun q6 =>
         gd (ok h q6 5) <|
         (f_X5_reckon h q6 q1 q3 (0 : Int32) M).bind fun z7 =>
         if p2 < 0 then
           some (none, z7)
         else
           if p2 < (zI z7 q6 11) then
             (f_X8_ofCycle h a0 p2 p3 z7).bind fun z10 =>
             some (some z10, z7)
           else
             some (none, z7)
       else
         some (none, M)
    )
set_option maxHeartbeats 4000000 in
set_option maxRecDepth 100000 in
theorem c_X8_cycle {l : Launch} (hst : l.stackTraces = false) {D : va_G} {cy : Nat → ClassId} {h : Hs} {a0 : Nat} {p1 : Int32} {p2 : Int32} {p3 : Int32} {M : Mm} {z : (Option Int32 × Mm)} (hf : f_X8_cycle h a0 p1 p2 p3 M = some z) : CtXI l D cy yX8_cycle (wu yX8_cycle cX8_cycle 5 (some .int)) ({ frames := 6, cells := 1, slots := 6, locals := 115 }) [.ref a0, .int p1, .int p2, .int p3] h M z.1 z.2 := by
  refine enterXI (cc := cX8_cycle) (maxL := 5) (ret := (some .int)) (by decide) (Nat.le_of_ble_eq_true rfl) ?_
  intro p e s m args below meth c A ls X hw hr hlk hout hl
  have hl : lv_has ls 5 [(0, .ref a0), (1, .int p1), (2, .int p2), (3, .int p3)] := hl
  unfold f_X8_cycle at hf
  refine lv_aload_n X.1.1 X.1.2.1 dX8_cycle_0 rfl (lv_at hl 0 rfl) ?_
  obtain ⟨g_a0, hf⟩ := ogd hf
  obtain ⟨q1, eq1, hf⟩ := odq hf
  refine r_getq (k := 8) (j := 1) X hw rfl inX8 g_a0 rfl (by decide) (by decide) uf_X8_19 rfl dX8_cycle_1 eq1 ?_
  refine lv_iload_n X.1.1 X.1.2.1 dX8_cycle_4 rfl (lv_at hl 1 rfl) ?_
  obtain ⟨g_q1, hf⟩ := ogd hf
  obtain ⟨z2, ez2, hf⟩ := obd hf
  refine r_callVQ (As := [.int p1]) (rest := []) X hw (c_X0_gaugeAt ez2) (cwV 1 X.1.2.2.2.2 (guV um_X8_121 ui_X0_gaugeAt us_X0_gaugeAt un_X0 uo_X0_gaugeAt) rfl rfl rfl (by decide +kernel) ⟨Nat.le_of_ble_eq_true rfl, Nat.le_of_ble_eq_true rfl⟩) g_q1 (by decide) rfl rfl hl.1 rfl (Nat.le_of_ble_eq_true rfl) dX8_cycle_5 ⟨Nat.zero_le _, Nat.zero_le _⟩ (fun H locs hw => ?_)
  obtain ⟨nq3, hf⟩ | ⟨q3, nq3, hf⟩ := omq hf
  · rw [nq3]
    refine lv_astoreN (lv' := [(4, .null), (0, .ref a0), (1, .int p1), (2, .int p2), (3, .int p3)]) X.1.1 X.1.2.1 dX8_cycle_8 hl (by decide) rfl (fun ls hl => ?_)
    refine lv_aloadN X.1.1 X.1.2.1 dX8_cycle_10 (lv_at hl 0 rfl) ?_
    refine lv_ifnullN (tgt := 25) X.1.1 X.1.2.1 dX8_cycle_12 (by decide) ?_
    cases hf
    exact r_throwI X hw hst (X.2.2.2.2.2.2.2.2.1) hl.1 dX8_cycle_25 dX8_cycle_28 dX8_cycle_29 dX8_cycle_31 dX8_cycle_34 hout ⟨Nat.le_of_ble_eq_true rfl, Nat.le_of_ble_eq_true rfl, Nat.le_of_ble_eq_true rfl, Nat.le_of_ble_eq_true rfl⟩ hlk
  · rw [nq3]
    refine lv_astore (lv' := [(4, .ref q3), (0, .ref a0), (1, .int p1), (2, .int p2), (3, .int p3)]) X.1.1 X.1.2.1 dX8_cycle_8 hl (by decide) rfl (fun ls hl => ?_)
    refine lv_aload X.1.1 X.1.2.1 dX8_cycle_10 (lv_at hl 0 rfl) ?_
    refine lv_ifnull X.1.1 X.1.2.1 dX8_cycle_12 ?_
    refine lv_iload_n X.1.1 X.1.2.1 dX8_cycle_15 rfl (lv_at hl 4 rfl) ?_
    refine lv_if_lt (tgt := 25) X.1.1 X.1.2.1 dX8_cycle_16 (by decide) (fun c_4 => ?_) (fun c_4 => ?_)
    · skip
      rw [if_pos c_4] at hf
      cases hf
      exact r_throwI X hw hst (X.2.2.2.2.2.2.2.2.1) hl.1 dX8_cycle_25 dX8_cycle_28 dX8_cycle_29 dX8_cycle_31 dX8_cycle_34 hout ⟨Nat.le_of_ble_eq_true rfl, Nat.le_of_ble_eq_true rfl, Nat.le_of_ble_eq_true rfl, Nat.le_of_ble_eq_true rfl⟩ hlk
    · skip
      rw [if_neg c_4] at hf
      refine lv_iload_n X.1.1 X.1.2.1 dX8_cycle_19 rfl (lv_at hl 4 rfl) ?_
      refine lv_bipush (v := (6 : Int32)) X.1.1 X.1.2.1 dX8_cycle_20 (by decide) ?_
      refine lv_icmp_le (tgt := 35) X.1.1 X.1.2.1 dX8_cycle_22 (by decide) (fun c_5 => ?_) (fun c_5 => ?_)
      · skip
        rw [if_pos c_5] at hf
        refine lv_aload_n X.1.1 X.1.2.1 dX8_cycle_35 rfl (lv_at hl 1 rfl) ?_
        obtain ⟨q6, eq6, hf⟩ := odq hf
        refine r_getq (k := 8) (j := 2) X hw rfl inX8 g_a0 rfl (by decide) (by decide) uf_X8_26 rfl dX8_cycle_36 eq6 ?_
        refine lv_aload_n X.1.1 X.1.2.1 dX8_cycle_39 rfl (lv_at hl 1 rfl) ?_
        refine r_getq (k := 8) (j := 1) X hw rfl inX8 g_a0 rfl (by decide) (by decide) uf_X8_19 rfl dX8_cycle_40 eq1 ?_
        refine lv_aload X.1.1 X.1.2.1 dX8_cycle_43 (lv_at hl 0 rfl) ?_
        refine lv_iconst (v := (0 : Int32)) X.1.1 X.1.2.1 dX8_cycle_45 (by decide) ?_
        obtain ⟨g_q6, hf⟩ := ogd hf
        obtain ⟨z7, ez7, hf⟩ := obd hf
        refine r_callVV (As := [.ref q1, .ref q3, .int (0 : Int32)]) (rest := []) X hw (c_X5_reckon ez7) (cwV 3 X.1.2.2.2.2 (guV um_X8_124 ui_X5_reckon us_X5_reckon un_X5 uo_X5_reckon) rfl rfl rfl (by decide +kernel) ⟨Nat.le_of_ble_eq_true rfl, Nat.le_of_ble_eq_true rfl⟩) g_q6 (by decide) rfl rfl hl.1 rfl (Nat.le_of_ble_eq_true rfl) dX8_cycle_46 ⟨Nat.zero_le _, Nat.zero_le _⟩ (fun H locs hw => ?_)
        refine lv_iload_n X.1.1 X.1.2.1 dX8_cycle_49 rfl (lv_at hl 3 rfl) ?_
        refine lv_if_lt (tgt := 64) X.1.1 X.1.2.1 dX8_cycle_50 (by decide) (fun c_8 => ?_) (fun c_8 => ?_)
        · skip
          rw [if_pos c_8] at hf
          cases hf
          exact r_throwI X hw hst (X.2.2.2.2.2.2.2.2.1) hl.1 dX8_cycle_64 dX8_cycle_67 dX8_cycle_68 dX8_cycle_70 dX8_cycle_73 hout ⟨Nat.le_of_ble_eq_true rfl, Nat.le_of_ble_eq_true rfl, Nat.le_of_ble_eq_true rfl, Nat.le_of_ble_eq_true rfl⟩ hlk
        · skip
          rw [if_neg c_8] at hf
          refine lv_iload_n X.1.1 X.1.2.1 dX8_cycle_53 rfl (lv_at hl 3 rfl) ?_
          refine lv_aload_n X.1.1 X.1.2.1 dX8_cycle_54 rfl (lv_at hl 1 rfl) ?_
          refine r_getq (k := 8) (j := 2) X hw rfl inX8 g_a0 rfl (by decide) (by decide) uf_X8_26 rfl dX8_cycle_55 eq6 ?_
          refine r_geti (k := 5) (j := 11) X hw rfl inX5 g_q6 rfl (by decide) (by decide) uf_X8_144 rfl dX8_cycle_58 ?_
          refine lv_icmp_lt (tgt := 74) X.1.1 X.1.2.1 dX8_cycle_61 (by decide) (fun c_9 => ?_) (fun c_9 => ?_)
          · skip
            rw [if_pos c_9] at hf
            refine lv_aload_n X.1.1 X.1.2.1 dX8_cycle_74 rfl (lv_at hl 1 rfl) ?_
            refine lv_iload_n X.1.1 X.1.2.1 dX8_cycle_75 rfl (lv_at hl 3 rfl) ?_
            refine lv_iload_n X.1.1 X.1.2.1 dX8_cycle_76 rfl (lv_at hl 4 rfl) ?_
            obtain ⟨z10, ez10, hf⟩ := obd hf
            refine r_callVI (As := [.int p2, .int p3]) (rest := []) X hw (c_X8_ofCycle ez10) (cwV 2 X.1.2.2.2.2 (guV um_X8_172 ui_X8_ofCycle us_X8_ofCycle un_X8 uo_X8_ofCycle) rfl rfl rfl (by decide +kernel) ⟨Nat.le_of_ble_eq_true rfl, Nat.le_of_ble_eq_true rfl⟩) g_a0 (by decide) rfl rfl hl.1 rfl (Nat.le_of_ble_eq_true rfl) dX8_cycle_77 ⟨Nat.zero_le _, Nat.zero_le _⟩ (fun H locs hw => ?_)
            cases hf
            exact r_retXI (v := z10) X hw hr hlk rfl dX8_cycle_80
          · skip
            rw [if_neg c_9] at hf
            cases hf
            exact r_throwI X hw hst (X.2.2.2.2.2.2.2.2.1) hl.1 dX8_cycle_64 dX8_cycle_67 dX8_cycle_68 dX8_cycle_70 dX8_cycle_73 hout ⟨Nat.le_of_ble_eq_true rfl, Nat.le_of_ble_eq_true rfl, Nat.le_of_ble_eq_true rfl, Nat.le_of_ble_eq_true rfl⟩ hlk
      · skip
        rw [if_neg c_5] at hf
        cases hf
        exact r_throwI X hw hst (X.2.2.2.2.2.2.2.2.1) hl.1 dX8_cycle_25 dX8_cycle_28 dX8_cycle_29 dX8_cycle_31 dX8_cycle_34 hout ⟨Nat.le_of_ble_eq_true rfl, Nat.le_of_ble_eq_true rfl, Nat.le_of_ble_eq_true rfl, Nat.le_of_ble_eq_true rfl⟩ hlk
/-! X8_damage -/
def f_X8_damage (h : Hs) (a0 : Nat) (p1 : Int32) (p2 : Int32) (p3 : Int32) (M : Mm) : Option (Option Int64 × Mm) :=
  gd (ok h a0 8) <|
  dq (zR h a0 1) fun q1 =>
  gd (ok h q1 0) <|
  (f_X0_detailAt h q1 p1 M).bind fun z2 =>
  mq z2
    (
     some (none, M)
    )
    (fun q3 =>
     if p2 < 0 then
       some (none, M)
     else
       if (1 : Int32) < p2 then
         some (none, M)
       else
         if p3 < 0 then
           some (none, M)
         else
           if p3 ≤ (2 : Int32) then
             (f_X8_reckonWear h a0 q3 M).bind fun z8 =>
             Option.bind (
               if ¬ p2 = 0 then
                 dq (zR h a0 3) fun q10 =>
                 gd (ok h q10 7) <|
                 some (zJ z8 q10 2)
               else
                 dq (zR h a0 3) fun q11 =>
                 gd (ok h q11 7) <|
                 some (zJ z8 q11 1)
               ) fun y12 =>
             if ¬ p3 = (2 : Int32) then
               (f_X8_greatestCommonDivisor h y12 (1441440000000 : Int64) z8).bind fun z14 =>
               if (1 : Int64) ≤ z14 then
                 if ¬ p3 = 0 then
                   gd (¬ z14 = 0) <|
                   some (some ((1441440000000 : Int64) / z14), z8)
                 else
                   gd (¬ z14 = 0) <|
                   some (some (y12 / z14), z8)
               else
                 some (some (0 : Int64), z8)
             else
               if y12 < (1441440000000 : Int64) then
                 some (some (0 : Int64), z8)
               else
                 some (some (1 : Int64), z8)
           else
             some (none, M)
    )
set_option maxHeartbeats 4000000 in
set_option maxRecDepth 100000 in
theorem c_X8_damage {l : Launch} (hst : l.stackTraces = false) {D : va_G} {cy : Nat → ClassId} {h : Hs} {a0 : Nat} {p1 : Int32} {p2 : Int32} {p3 : Int32} {M : Mm} {z : (Option Int64 × Mm)} (hf : f_X8_damage h a0 p1 p2 p3 M = some z) : CtXL l D cy yX8_damage (wu yX8_damage cX8_damage 9 (some .long)) ({ frames := 6, cells := 1, slots := 6, locals := 137 }) [.ref a0, .int p1, .int p2, .int p3] h M z.1 z.2 := by
  refine enterXL (cc := cX8_damage) (maxL := 9) (ret := (some .long)) (by decide) (Nat.le_of_ble_eq_true rfl) ?_
  intro p e s m args below meth c A ls X hw hr hlk hout hl
  have hl : lv_has ls 9 [(0, .ref a0), (1, .int p1), (2, .int p2), (3, .int p3)] := hl
  unfold f_X8_damage at hf
  refine lv_aload_n X.1.1 X.1.2.1 dX8_damage_0 rfl (lv_at hl 0 rfl) ?_
  obtain ⟨g_a0, hf⟩ := ogd hf
  obtain ⟨q1, eq1, hf⟩ := odq hf
  refine r_getq (k := 8) (j := 1) X hw rfl inX8 g_a0 rfl (by decide) (by decide) uf_X8_19 rfl dX8_damage_1 eq1 ?_
  refine lv_iload_n X.1.1 X.1.2.1 dX8_damage_4 rfl (lv_at hl 1 rfl) ?_
  obtain ⟨g_q1, hf⟩ := ogd hf
  obtain ⟨z2, ez2, hf⟩ := obd hf
  refine r_callVQ (As := [.int p1]) (rest := []) X hw (c_X0_detailAt ez2) (cwV 1 X.1.2.2.2.2 (guV um_X8_178 ui_X0_detailAt us_X0_detailAt un_X0 uo_X0_detailAt) rfl rfl rfl (by decide +kernel) ⟨Nat.le_of_ble_eq_true rfl, Nat.le_of_ble_eq_true rfl⟩) g_q1 (by decide) rfl rfl hl.1 rfl (Nat.le_of_ble_eq_true rfl) dX8_damage_5 ⟨Nat.zero_le _, Nat.zero_le _⟩ (fun H locs hw => ?_)
  obtain ⟨nq3, hf⟩ | ⟨q3, nq3, hf⟩ := omq hf
  · rw [nq3]
    refine lv_astoreN (lv' := [(4, .null), (0, .ref a0), (1, .int p1), (2, .int p2), (3, .int p3)]) X.1.1 X.1.2.1 dX8_damage_8 hl (by decide) rfl (fun ls hl => ?_)
    refine lv_aloadN X.1.1 X.1.2.1 dX8_damage_10 (lv_at hl 0 rfl) ?_
    refine lv_ifnullN (tgt := 33) X.1.1 X.1.2.1 dX8_damage_12 (by decide) ?_
    cases hf
    exact r_throwL X hw hst (X.2.2.2.2.2.2.2.2.2.1) hl.1 dX8_damage_33 dX8_damage_36 dX8_damage_37 dX8_damage_39 dX8_damage_42 hout ⟨Nat.le_of_ble_eq_true rfl, Nat.le_of_ble_eq_true rfl, Nat.le_of_ble_eq_true rfl, Nat.le_of_ble_eq_true rfl⟩ hlk
  · rw [nq3]
    refine lv_astore (lv' := [(4, .ref q3), (0, .ref a0), (1, .int p1), (2, .int p2), (3, .int p3)]) X.1.1 X.1.2.1 dX8_damage_8 hl (by decide) rfl (fun ls hl => ?_)
    refine lv_aload X.1.1 X.1.2.1 dX8_damage_10 (lv_at hl 0 rfl) ?_
    refine lv_ifnull X.1.1 X.1.2.1 dX8_damage_12 ?_
    refine lv_iload_n X.1.1 X.1.2.1 dX8_damage_15 rfl (lv_at hl 3 rfl) ?_
    refine lv_if_lt (tgt := 33) X.1.1 X.1.2.1 dX8_damage_16 (by decide) (fun c_4 => ?_) (fun c_4 => ?_)
    · skip
      rw [if_pos c_4] at hf
      cases hf
      exact r_throwL X hw hst (X.2.2.2.2.2.2.2.2.2.1) hl.1 dX8_damage_33 dX8_damage_36 dX8_damage_37 dX8_damage_39 dX8_damage_42 hout ⟨Nat.le_of_ble_eq_true rfl, Nat.le_of_ble_eq_true rfl, Nat.le_of_ble_eq_true rfl, Nat.le_of_ble_eq_true rfl⟩ hlk
    · skip
      rw [if_neg c_4] at hf
      refine lv_iload_n X.1.1 X.1.2.1 dX8_damage_19 rfl (lv_at hl 3 rfl) ?_
      refine lv_iconst (v := (1 : Int32)) X.1.1 X.1.2.1 dX8_damage_20 (by decide) ?_
      refine lv_icmp_gt (tgt := 33) X.1.1 X.1.2.1 dX8_damage_21 (by decide) (fun c_5 => ?_) (fun c_5 => ?_)
      · skip
        rw [if_pos c_5] at hf
        cases hf
        exact r_throwL X hw hst (X.2.2.2.2.2.2.2.2.2.1) hl.1 dX8_damage_33 dX8_damage_36 dX8_damage_37 dX8_damage_39 dX8_damage_42 hout ⟨Nat.le_of_ble_eq_true rfl, Nat.le_of_ble_eq_true rfl, Nat.le_of_ble_eq_true rfl, Nat.le_of_ble_eq_true rfl⟩ hlk
      · skip
        rw [if_neg c_5] at hf
        refine lv_iload_n X.1.1 X.1.2.1 dX8_damage_24 rfl (lv_at hl 4 rfl) ?_
        refine lv_if_lt (tgt := 33) X.1.1 X.1.2.1 dX8_damage_25 (by decide) (fun c_6 => ?_) (fun c_6 => ?_)
        · skip
          rw [if_pos c_6] at hf
          cases hf
          exact r_throwL X hw hst (X.2.2.2.2.2.2.2.2.2.1) hl.1 dX8_damage_33 dX8_damage_36 dX8_damage_37 dX8_damage_39 dX8_damage_42 hout ⟨Nat.le_of_ble_eq_true rfl, Nat.le_of_ble_eq_true rfl, Nat.le_of_ble_eq_true rfl, Nat.le_of_ble_eq_true rfl⟩ hlk
        · skip
          rw [if_neg c_6] at hf
          refine lv_iload_n X.1.1 X.1.2.1 dX8_damage_28 rfl (lv_at hl 4 rfl) ?_
          refine lv_iconst (v := (2 : Int32)) X.1.1 X.1.2.1 dX8_damage_29 (by decide) ?_
          refine lv_icmp_le (tgt := 43) X.1.1 X.1.2.1 dX8_damage_30 (by decide) (fun c_7 => ?_) (fun c_7 => ?_)
          · skip
            rw [if_pos c_7] at hf
            refine lv_aload_n X.1.1 X.1.2.1 dX8_damage_43 rfl (lv_at hl 1 rfl) ?_
            refine lv_aload X.1.1 X.1.2.1 dX8_damage_44 (lv_at hl 0 rfl) ?_
            obtain ⟨z8, ez8, hf⟩ := obd hf
            refine r_callVV (As := [.ref q3]) (rest := []) X hw (c_X8_reckonWear ez8) (cwV 1 X.1.2.2.2.2 (guV um_X8_228 ui_X8_reckonWear us_X8_reckonWear un_X8 uo_X8_reckonWear) rfl rfl rfl (by decide +kernel) ⟨Nat.le_of_ble_eq_true rfl, Nat.le_of_ble_eq_true rfl⟩) g_a0 (by decide) rfl rfl hl.1 rfl (Nat.le_of_ble_eq_true rfl) dX8_damage_46 ⟨Nat.zero_le _, Nat.zero_le _⟩ (fun H locs hw => ?_)
            refine lv_iload_n X.1.1 X.1.2.1 dX8_damage_49 rfl (lv_at hl 3 rfl) ?_
            obtain ⟨y12, ey12, hf⟩ := obd hf
            have Jy12 : ∀ (H : Heap) (locs : List Loc) (ls : Array Slot), Wd D cy A s.heap h z8 H locs → lv_has ls 9 [(3, .int p3)] → W p l e ({ frames := 6, cells := 1, slots := 6, locals := 137 } : Room) s m args below meth c H locs 0 0 (QXL below D cy A h args s z.1 z.2) (F0 m 70 ls [.long y12]) := by
              intro H locs ls hw hl
              refine lv_lstore (lv' := [(5, .long y12), (3, .int p3)]) X.1.1 X.1.2.1 dX8_damage_70 hl (by decide) rfl (fun ls hl => ?_)
              refine lv_iload_n X.1.1 X.1.2.1 dX8_damage_72 rfl (lv_at hl 1 rfl) ?_
              refine lv_iconst (v := (2 : Int32)) X.1.1 X.1.2.1 dX8_damage_73 (by decide) ?_
              refine lv_icmp_ne (tgt := 92) X.1.1 X.1.2.1 dX8_damage_74 (by decide) (fun c_13 => ?_) (fun c_13 => ?_)
              · skip
                rw [if_pos c_13] at hf
                refine lv_lload X.1.1 X.1.2.1 dX8_damage_92 (lv_at hl 0 rfl) ?_
                refine lv_ldc2 (v := (1441440000000 : Int64)) X.1.1 X.1.2.1 X.1.2.2.2.1 (X.1.2.2.2.2 _ uk_X8_239) dX8_damage_94 ?_
                obtain ⟨z14, ez14, hf⟩ := obd hf
                refine r_callSL (As := [.long y12, .long (1441440000000 : Int64)]) (rest := []) X hw (c_X8_greatestCommonDivisor ez14) (va_cwS 2 X.1.2.2.2.2 (guS um_X8_241 ut_X8_greatestCommonDivisor un_X8 uo_X8_greatestCommonDivisor) rfl rfl rfl (by decide +kernel) ⟨Nat.le_of_ble_eq_true rfl, Nat.le_of_ble_eq_true rfl⟩) rfl hl.1 rfl (Nat.le_of_ble_eq_true rfl) dX8_damage_97 ⟨Nat.zero_le _, Nat.zero_le _⟩ (fun H locs hw => ?_)
                refine lv_lstore (lv' := [(7, .long z14), (5, .long y12), (3, .int p3)]) X.1.1 X.1.2.1 dX8_damage_100 hl (by decide) rfl (fun ls hl => ?_)
                refine lv_lload X.1.1 X.1.2.1 dX8_damage_102 (lv_at hl 0 rfl) ?_
                refine lv_lconst (v := (1 : Int64)) X.1.1 X.1.2.1 dX8_damage_104 (by decide) ?_
                refine W.lcmp X.1.1 X.1.2.1 dX8_damage_105 ?_
                refine lv_if_ge (tgt := 111) X.1.1 X.1.2.1 dX8_damage_106 (by decide) (fun c_15 => ?_) (fun c_15 => ?_)
                · skip
                  rw [lg_cmp_ge] at c_15
                  rw [if_pos c_15] at hf
                  refine lv_iload_n X.1.1 X.1.2.1 dX8_damage_111 rfl (lv_at hl 2 rfl) ?_
                  refine lv_if_ne (tgt := 123) X.1.1 X.1.2.1 dX8_damage_112 (by decide) (fun c_16 => ?_) (fun c_16 => ?_)
                  · skip
                    rw [if_pos c_16] at hf
                    refine lv_ldc2 (v := (1441440000000 : Int64)) X.1.1 X.1.2.1 X.1.2.2.2.1 (X.1.2.2.2.2 _ uk_X8_239) dX8_damage_123 ?_
                    refine lv_lload X.1.1 X.1.2.1 dX8_damage_126 (lv_at hl 0 rfl) ?_
                    obtain ⟨n_17, hf⟩ := ogd hf
                    refine lv_ldiv X.1.1 X.1.2.1 dX8_damage_128 n_17 ?_
                    cases hf
                    exact r_retXL (v := (1441440000000 : Int64) / z14) X hw hr hlk dX8_damage_129
                  · skip
                    rw [if_neg (fun z => z c_16)] at hf
                    refine lv_lload X.1.1 X.1.2.1 dX8_damage_115 (lv_at hl 1 rfl) ?_
                    refine lv_lload X.1.1 X.1.2.1 dX8_damage_117 (lv_at hl 0 rfl) ?_
                    obtain ⟨n_18, hf⟩ := ogd hf
                    refine lv_ldiv X.1.1 X.1.2.1 dX8_damage_119 n_18 ?_
                    refine lv_goto (tgt := 129) X.1.1 X.1.2.1 dX8_damage_120 (by decide) ?_
                    cases hf
                    exact r_retXL (v := y12 / z14) X hw hr hlk dX8_damage_129
                · skip
                  rw [lg_cmp_ge] at c_15
                  rw [if_neg c_15] at hf
                  refine lv_lconst (v := (0 : Int64)) X.1.1 X.1.2.1 dX8_damage_109 (by decide) ?_
                  cases hf
                  exact r_retXL (v := (0 : Int64)) X hw hr hlk dX8_damage_110
              · skip
                rw [if_neg (fun z => z c_13)] at hf
                refine lv_lload X.1.1 X.1.2.1 dX8_damage_77 (lv_at hl 0 rfl) ?_
                refine lv_ldc2 (v := (1441440000000 : Int64)) X.1.1 X.1.2.1 X.1.2.2.2.1 (X.1.2.2.2.2 _ uk_X8_239) dX8_damage_79 ?_
                refine W.lcmp X.1.1 X.1.2.1 dX8_damage_82 ?_
                refine lv_if_lt (tgt := 90) X.1.1 X.1.2.1 dX8_damage_83 (by decide) (fun c_19 => ?_) (fun c_19 => ?_)
                · skip
                  rw [lg_cmp_lt] at c_19
                  rw [if_pos c_19] at hf
                  refine lv_lconst (v := (0 : Int64)) X.1.1 X.1.2.1 dX8_damage_90 (by decide) ?_
                  cases hf
                  exact r_retXL (v := (0 : Int64)) X hw hr hlk dX8_damage_91
                · skip
                  rw [lg_cmp_lt] at c_19
                  rw [if_neg c_19] at hf
                  refine lv_lconst (v := (1 : Int64)) X.1.1 X.1.2.1 dX8_damage_86 (by decide) ?_
                  refine lv_goto (tgt := 91) X.1.1 X.1.2.1 dX8_damage_87 (by decide) ?_
                  cases hf
                  exact r_retXL (v := (1 : Int64)) X hw hr hlk dX8_damage_91
            clear hf
            have hf := ey12
            clear ey12
            refine lv_if_ne (tgt := 63) X.1.1 X.1.2.1 dX8_damage_50 (by decide) (fun c_9 => ?_) (fun c_9 => ?_)
            · skip
              rw [if_pos c_9] at hf
              refine lv_aload_n X.1.1 X.1.2.1 dX8_damage_63 rfl (lv_at hl 1 rfl) ?_
              obtain ⟨q10, eq10, hf⟩ := odq hf
              refine r_getq (k := 8) (j := 3) X hw rfl inX8 g_a0 rfl (by decide) (by decide) uf_X8_33 rfl dX8_damage_64 eq10 ?_
              obtain ⟨g_q10, hf⟩ := ogd hf
              refine r_getl (k := 7) (j := 2) X hw rfl inX7 g_q10 rfl (by decide) (by decide) uf_X8_236 rfl dX8_damage_67 ?_
              cases hf
              exact Jy12 _ _ _ hw (lv_sub hl [4] rfl)
            · skip
              rw [if_neg (fun z => z c_9)] at hf
              refine lv_aload_n X.1.1 X.1.2.1 dX8_damage_53 rfl (lv_at hl 1 rfl) ?_
              obtain ⟨q11, eq11, hf⟩ := odq hf
              refine r_getq (k := 8) (j := 3) X hw rfl inX8 g_a0 rfl (by decide) (by decide) uf_X8_33 rfl dX8_damage_54 eq11 ?_
              obtain ⟨g_q11, hf⟩ := ogd hf
              refine r_getl (k := 7) (j := 1) X hw rfl inX7 g_q11 rfl (by decide) (by decide) uf_X8_232 rfl dX8_damage_57 ?_
              refine lv_goto (tgt := 70) X.1.1 X.1.2.1 dX8_damage_60 (by decide) ?_
              cases hf
              exact Jy12 _ _ _ hw (lv_sub hl [4] rfl)
          · skip
            rw [if_neg c_7] at hf
            cases hf
            exact r_throwL X hw hst (X.2.2.2.2.2.2.2.2.2.1) hl.1 dX8_damage_33 dX8_damage_36 dX8_damage_37 dX8_damage_39 dX8_damage_42 hout ⟨Nat.le_of_ble_eq_true rfl, Nat.le_of_ble_eq_true rfl, Nat.le_of_ble_eq_true rfl, Nat.le_of_ble_eq_true rfl⟩ hlk
/-! X8_part -/
def f_X8_part (h : Hs) (a0 : Nat) (p1 : Int32) (p2 : Int32) (M : Mm) : Option (Option Int64 × Mm) :=
  gd (ok h a0 8) <|
  dq (zR h a0 1) fun q1 =>
  gd (ok h q1 0) <|
  (f_X0_detailAt h q1 p1 M).bind fun z2 =>
  mq z2
    (
     some (none, M)
    )
    (fun q3 =>
     if p2 < 0 then
       some (none, M)
     else
       if p2 = (6 : Int32) then
         (f_X8_reckonWear h a0 q3 M).bind fun z6 =>
         dq (zR h a0 3) fun q7 =>
         gd (ok h q7 7) <|
         (f_X7_partOf h q7 p2 z6).bind fun z8 =>
         some (some z8, z6)
       else
         gd (ok h q3 2) <|
         dq (zR h q3 0) fun q9 =>
         gd (ok h q9 3) <|
         if p2 < (zI M q9 2) then
           (f_X8_reckonWear h a0 q3 M).bind fun z11 =>
           dq (zR h a0 3) fun q12 =>
           gd (ok h q12 7) <|
           (f_X7_partOf h q12 p2 z11).bind fun z13 =>
           some (some z13, z11)
         else
           some (none, M)
    )
set_option maxHeartbeats 4000000 in
set_option maxRecDepth 100000 in
theorem c_X8_part {l : Launch} (hst : l.stackTraces = false) {D : va_G} {cy : Nat → ClassId} {h : Hs} {a0 : Nat} {p1 : Int32} {p2 : Int32} {M : Mm} {z : (Option Int64 × Mm)} (hf : f_X8_part h a0 p1 p2 M = some z) : CtXL l D cy yX8_part (wu yX8_part cX8_part 4 (some .long)) ({ frames := 6, cells := 1, slots := 6, locals := 137 }) [.ref a0, .int p1, .int p2] h M z.1 z.2 := by
  refine enterXL (cc := cX8_part) (maxL := 4) (ret := (some .long)) (by decide) (Nat.le_of_ble_eq_true rfl) ?_
  intro p e s m args below meth c A ls X hw hr hlk hout hl
  have hl : lv_has ls 4 [(0, .ref a0), (1, .int p1), (2, .int p2)] := hl
  unfold f_X8_part at hf
  refine lv_aload_n X.1.1 X.1.2.1 dX8_part_0 rfl (lv_at hl 0 rfl) ?_
  obtain ⟨g_a0, hf⟩ := ogd hf
  obtain ⟨q1, eq1, hf⟩ := odq hf
  refine r_getq (k := 8) (j := 1) X hw rfl inX8 g_a0 rfl (by decide) (by decide) uf_X8_19 rfl dX8_part_1 eq1 ?_
  refine lv_iload_n X.1.1 X.1.2.1 dX8_part_4 rfl (lv_at hl 1 rfl) ?_
  obtain ⟨g_q1, hf⟩ := ogd hf
  obtain ⟨z2, ez2, hf⟩ := obd hf
  refine r_callVQ (As := [.int p1]) (rest := []) X hw (c_X0_detailAt ez2) (cwV 1 X.1.2.2.2.2 (guV um_X8_178 ui_X0_detailAt us_X0_detailAt un_X0 uo_X0_detailAt) rfl rfl rfl (by decide +kernel) ⟨Nat.le_of_ble_eq_true rfl, Nat.le_of_ble_eq_true rfl⟩) g_q1 (by decide) rfl rfl hl.1 rfl (Nat.le_of_ble_eq_true rfl) dX8_part_5 ⟨Nat.zero_le _, Nat.zero_le _⟩ (fun H locs hw => ?_)
  obtain ⟨nq3, hf⟩ | ⟨q3, nq3, hf⟩ := omq hf
  · rw [nq3]
    refine lv_astore_nN (lv' := [(3, .null), (0, .ref a0), (1, .int p1), (2, .int p2)]) X.1.1 X.1.2.1 dX8_part_8 rfl hl (by decide) rfl (fun ls hl => ?_)
    refine lv_aload_nN X.1.1 X.1.2.1 dX8_part_9 rfl (lv_at hl 0 rfl) ?_
    refine lv_ifnullN (tgt := 34) X.1.1 X.1.2.1 dX8_part_10 (by decide) ?_
    cases hf
    exact r_throwL X hw hst (X.2.2.2.2.2.2.2.2.2.2.1) hl.1 dX8_part_34 dX8_part_37 dX8_part_38 dX8_part_40 dX8_part_43 hout ⟨Nat.le_of_ble_eq_true rfl, Nat.le_of_ble_eq_true rfl, Nat.le_of_ble_eq_true rfl, Nat.le_of_ble_eq_true rfl⟩ hlk
  · rw [nq3]
    refine lv_astore_n (lv' := [(3, .ref q3), (0, .ref a0), (1, .int p1), (2, .int p2)]) X.1.1 X.1.2.1 dX8_part_8 rfl hl (by decide) rfl (fun ls hl => ?_)
    refine lv_aload_n X.1.1 X.1.2.1 dX8_part_9 rfl (lv_at hl 0 rfl) ?_
    refine lv_ifnull X.1.1 X.1.2.1 dX8_part_10 ?_
    refine lv_iload_n X.1.1 X.1.2.1 dX8_part_13 rfl (lv_at hl 3 rfl) ?_
    refine lv_if_lt (tgt := 34) X.1.1 X.1.2.1 dX8_part_14 (by decide) (fun c_4 => ?_) (fun c_4 => ?_)
    · skip
      rw [if_pos c_4] at hf
      cases hf
      exact r_throwL X hw hst (X.2.2.2.2.2.2.2.2.2.2.1) hl.1 dX8_part_34 dX8_part_37 dX8_part_38 dX8_part_40 dX8_part_43 hout ⟨Nat.le_of_ble_eq_true rfl, Nat.le_of_ble_eq_true rfl, Nat.le_of_ble_eq_true rfl, Nat.le_of_ble_eq_true rfl⟩ hlk
    · skip
      rw [if_neg c_4] at hf
      refine lv_iload_n X.1.1 X.1.2.1 dX8_part_17 rfl (lv_at hl 3 rfl) ?_
      refine lv_bipush (v := (6 : Int32)) X.1.1 X.1.2.1 dX8_part_18 (by decide) ?_
      refine lv_icmp_eq (tgt := 44) X.1.1 X.1.2.1 dX8_part_20 (by decide) (fun c_5 => ?_) (fun c_5 => ?_)
      · skip
        rw [if_pos c_5] at hf
        refine lv_aload_n X.1.1 X.1.2.1 dX8_part_44 rfl (lv_at hl 1 rfl) ?_
        refine lv_aload_n X.1.1 X.1.2.1 dX8_part_45 rfl (lv_at hl 0 rfl) ?_
        obtain ⟨z6, ez6, hf⟩ := obd hf
        refine r_callVV (As := [.ref q3]) (rest := []) X hw (c_X8_reckonWear ez6) (cwV 1 X.1.2.2.2.2 (guV um_X8_228 ui_X8_reckonWear us_X8_reckonWear un_X8 uo_X8_reckonWear) rfl rfl rfl (by decide +kernel) ⟨Nat.le_of_ble_eq_true rfl, Nat.le_of_ble_eq_true rfl⟩) g_a0 (by decide) rfl rfl hl.1 rfl (Nat.le_of_ble_eq_true rfl) dX8_part_46 ⟨Nat.zero_le _, Nat.zero_le _⟩ (fun H locs hw => ?_)
        refine lv_aload_n X.1.1 X.1.2.1 dX8_part_49 rfl (lv_at hl 1 rfl) ?_
        obtain ⟨q7, eq7, hf⟩ := odq hf
        refine r_getq (k := 8) (j := 3) X hw rfl inX8 g_a0 rfl (by decide) (by decide) uf_X8_33 rfl dX8_part_50 eq7 ?_
        refine lv_iload_n X.1.1 X.1.2.1 dX8_part_53 rfl (lv_at hl 3 rfl) ?_
        obtain ⟨g_q7, hf⟩ := ogd hf
        obtain ⟨z8, ez8, hf⟩ := obd hf
        refine r_callVL (As := [.int p2]) (rest := []) X hw (c_X7_partOf ez8) (cwV 1 X.1.2.2.2.2 (guV um_X8_250 ui_X7_partOf us_X7_partOf un_X7 uo_X7_partOf) rfl rfl rfl (by decide +kernel) ⟨Nat.le_of_ble_eq_true rfl, Nat.le_of_ble_eq_true rfl⟩) g_q7 (by decide) rfl rfl hl.1 rfl (Nat.le_of_ble_eq_true rfl) dX8_part_54 ⟨Nat.zero_le _, Nat.zero_le _⟩ (fun H locs hw => ?_)
        cases hf
        exact r_retXL (v := z8) X hw hr hlk dX8_part_57
      · skip
        rw [if_neg c_5] at hf
        refine lv_iload_n X.1.1 X.1.2.1 dX8_part_23 rfl (lv_at hl 3 rfl) ?_
        refine lv_aload_n X.1.1 X.1.2.1 dX8_part_24 rfl (lv_at hl 0 rfl) ?_
        obtain ⟨g_q3, hf⟩ := ogd hf
        obtain ⟨q9, eq9, hf⟩ := odq hf
        refine r_getq (k := 2) (j := 0) X hw rfl inX2 g_q3 rfl (by decide) (by decide) uf_X8_192 rfl dX8_part_25 eq9 ?_
        obtain ⟨g_q9, hf⟩ := ogd hf
        refine r_geti (k := 3) (j := 2) X hw rfl inX3 g_q9 rfl (by decide) (by decide) uf_X8_245 rfl dX8_part_28 ?_
        refine lv_icmp_lt (tgt := 44) X.1.1 X.1.2.1 dX8_part_31 (by decide) (fun c_10 => ?_) (fun c_10 => ?_)
        · skip
          rw [if_pos c_10] at hf
          refine lv_aload_n X.1.1 X.1.2.1 dX8_part_44 rfl (lv_at hl 1 rfl) ?_
          refine lv_aload_n X.1.1 X.1.2.1 dX8_part_45 rfl (lv_at hl 0 rfl) ?_
          obtain ⟨z11, ez11, hf⟩ := obd hf
          refine r_callVV (As := [.ref q3]) (rest := []) X hw (c_X8_reckonWear ez11) (cwV 1 X.1.2.2.2.2 (guV um_X8_228 ui_X8_reckonWear us_X8_reckonWear un_X8 uo_X8_reckonWear) rfl rfl rfl (by decide +kernel) ⟨Nat.le_of_ble_eq_true rfl, Nat.le_of_ble_eq_true rfl⟩) g_a0 (by decide) rfl rfl hl.1 rfl (Nat.le_of_ble_eq_true rfl) dX8_part_46 ⟨Nat.zero_le _, Nat.zero_le _⟩ (fun H locs hw => ?_)
          refine lv_aload_n X.1.1 X.1.2.1 dX8_part_49 rfl (lv_at hl 1 rfl) ?_
          obtain ⟨q12, eq12, hf⟩ := odq hf
          refine r_getq (k := 8) (j := 3) X hw rfl inX8 g_a0 rfl (by decide) (by decide) uf_X8_33 rfl dX8_part_50 eq12 ?_
          refine lv_iload_n X.1.1 X.1.2.1 dX8_part_53 rfl (lv_at hl 3 rfl) ?_
          obtain ⟨g_q12, hf⟩ := ogd hf
          obtain ⟨z13, ez13, hf⟩ := obd hf
          refine r_callVL (As := [.int p2]) (rest := []) X hw (c_X7_partOf ez13) (cwV 1 X.1.2.2.2.2 (guV um_X8_250 ui_X7_partOf us_X7_partOf un_X7 uo_X7_partOf) rfl rfl rfl (by decide +kernel) ⟨Nat.le_of_ble_eq_true rfl, Nat.le_of_ble_eq_true rfl⟩) g_q12 (by decide) rfl rfl hl.1 rfl (Nat.le_of_ble_eq_true rfl) dX8_part_54 ⟨Nat.zero_le _, Nat.zero_le _⟩ (fun H locs hw => ?_)
          cases hf
          exact r_retXL (v := z13) X hw hr hlk dX8_part_57
        · skip
          rw [if_neg c_10] at hf
          cases hf
          exact r_throwL X hw hst (X.2.2.2.2.2.2.2.2.2.2.1) hl.1 dX8_part_34 dX8_part_37 dX8_part_38 dX8_part_40 dX8_part_43 hout ⟨Nat.le_of_ble_eq_true rfl, Nat.le_of_ble_eq_true rfl, Nat.le_of_ble_eq_true rfl, Nat.le_of_ble_eq_true rfl⟩ hlk
/-! X8_parts -/
def lp_X8_parts_31 (h : Hs) (w2 : Int32) (a0 : Nat) (M : Mm) : Nat → Int32 → Option ((Option Int32 × Mm) ⊕ Int32)
  | 0, _ => none
  | n + 1, v4 =>
    if (6 : Int32) < v4 then
      some (.inr v4)
    else
      dq (zR h a0 3) fun q6 =>
      gd (ok h q6 7) <|
      (f_X7_partOf h q6 v4 M).bind fun z7 =>
      if z7 ≤ (0 : Int64) then
        lt_ (v4 + (1 : Int32)) fun x9 =>
        lp_X8_parts_31 h w2 a0 M n x9
      else
        (f_X7_partsAheadOf h q6 v4 M).bind fun z10 =>
        if ¬ z10 = w2 then
          lt_ (v4 + (1 : Int32)) fun x12 =>
          lp_X8_parts_31 h w2 a0 M n x12
        else
          some (.inl (some v4, M))
set_option maxHeartbeats 4000000 in
set_option maxRecDepth 100000 in
theorem wlp_X8_parts_31 {l : Launch} {D : va_G} {cy : Nat → ClassId} {h : Hs} {w2 : Int32} {a0 : Nat} {M : Mm} {p : Program} {e : Env} {s : State} {m : MethodId} {args : Array Value} {below : List Frame} {meth : Method} {c : Code} {A : Nat → Prop} (X : Cx p s m args c cX8_parts 5 gtbl RX8 D cy A) {zf : (Option Int32 × Mm)} (hr : meth.sig.returnType = (some .int)) (hlk : meth.locks = false) (g_a0 : ok h a0 8) : ∀ (n : Nat) (v4 : Int32) (z : ((Option Int32 × Mm) ⊕ Int32)) (H : Heap) (locs : List Loc) (ls : Array Slot), lp_X8_parts_31 h w2 a0 M n v4 = some z → Wd D cy A s.heap h M H locs → lv_has ls 5 [(4, .int v4), (0, .ref a0), (2, .int w2)] → (∀ rr, z = .inl rr → rr = zf) → (∀ x : Int32, z = .inr x → ∀ (H : Heap) (locs : List Loc) (ls : Array Slot), Wd D cy A s.heap h M H locs → lv_has ls 5 [(4, .int x), (0, .ref a0), (2, .int w2)] → W p l e ({ frames := 6, cells := 1, slots := 6, locals := 137 } : Room) s m args below meth c H locs 0 0 (QXI below D cy A h args s zf.1 zf.2) (F0 m 74 ls [])) → W p l e ({ frames := 6, cells := 1, slots := 6, locals := 137 } : Room) s m args below meth c H locs 0 0 (QXI below D cy A h args s zf.1 zf.2) (F0 m 31 ls []) := by
  intro n
  induction n with
  | zero => intro v4 z H locs ls hf hw hl kr kx; exact absurd hf (by intro q; cases q)
  | succ n ih =>
    intro v4 z H locs ls hf hw hl kr kx
    unfold lp_X8_parts_31 at hf
    refine lv_iload X.1.1 X.1.2.1 dX8_parts_31 (lv_at hl 0 rfl) ?_
    refine lv_bipush (v := (6 : Int32)) X.1.1 X.1.2.1 dX8_parts_33 (by decide) ?_
    refine lv_icmp_gt (tgt := 74) X.1.1 X.1.2.1 dX8_parts_35 (by decide) (fun c_5 => ?_) (fun c_5 => ?_)
    · skip
      rw [if_pos c_5] at hf
      cases hf
      exact kx _ rfl _ _ _ hw (lv_sub hl [0, 1, 2] rfl)
    · skip
      rw [if_neg c_5] at hf
      refine lv_aload_n X.1.1 X.1.2.1 dX8_parts_38 rfl (lv_at hl 1 rfl) ?_
      obtain ⟨q6, eq6, hf⟩ := odq hf
      refine r_getq (k := 8) (j := 3) X hw rfl inX8 g_a0 rfl (by decide) (by decide) uf_X8_33 rfl dX8_parts_39 eq6 ?_
      refine lv_iload X.1.1 X.1.2.1 dX8_parts_42 (lv_at hl 0 rfl) ?_
      obtain ⟨g_q6, hf⟩ := ogd hf
      obtain ⟨z7, ez7, hf⟩ := obd hf
      refine r_callVL (As := [.int v4]) (rest := []) X hw (c_X7_partOf ez7) (cwV 1 X.1.2.2.2.2 (guV um_X8_250 ui_X7_partOf us_X7_partOf un_X7 uo_X7_partOf) rfl rfl rfl (by decide +kernel) ⟨Nat.le_of_ble_eq_true rfl, Nat.le_of_ble_eq_true rfl⟩) g_q6 (by decide) rfl rfl hl.1 rfl (Nat.le_of_ble_eq_true rfl) dX8_parts_44 ⟨Nat.zero_le _, Nat.zero_le _⟩ (fun H locs hw => ?_)
      refine lv_lconst (v := (0 : Int64)) X.1.1 X.1.2.1 dX8_parts_47 (by decide) ?_
      refine W.lcmp X.1.1 X.1.2.1 dX8_parts_48 ?_
      refine lv_if_le (tgt := 68) X.1.1 X.1.2.1 dX8_parts_49 (by decide) (fun c_8 => ?_) (fun c_8 => ?_)
      · skip
        rw [lg_cmp_le] at c_8
        rw [if_pos c_8] at hf
        obtain ⟨x9, ex9, hf⟩ := olt hf
        refine lv_iinc (v := x9) (lv' := [(4, .int x9), (0, .ref a0), (2, .int w2)]) X.1.1 X.1.2.1 dX8_parts_68 hl (k := 0) rfl (by rw [ex9]; rfl) (by decide) rfl (fun ls hl => ?_)
        refine lv_goto (tgt := 31) X.1.1 X.1.2.1 dX8_parts_71 (by decide) ?_
        exact ih _ _ _ _ _ hf hw (lv_sub hl [0, 1, 2] rfl) kr kx
      · skip
        rw [lg_cmp_le] at c_8
        rw [if_neg c_8] at hf
        refine lv_aload_n X.1.1 X.1.2.1 dX8_parts_52 rfl (lv_at hl 1 rfl) ?_
        refine r_getq (k := 8) (j := 3) X hw rfl inX8 g_a0 rfl (by decide) (by decide) uf_X8_33 rfl dX8_parts_53 eq6 ?_
        refine lv_iload X.1.1 X.1.2.1 dX8_parts_56 (lv_at hl 0 rfl) ?_
        obtain ⟨z10, ez10, hf⟩ := obd hf
        refine r_callVI (As := [.int v4]) (rest := []) X hw (c_X7_partsAheadOf ez10) (cwV 1 X.1.2.2.2.2 (guV um_X8_256 ui_X7_partsAheadOf us_X7_partsAheadOf un_X7 uo_X7_partsAheadOf) rfl rfl rfl (by decide +kernel) ⟨Nat.le_of_ble_eq_true rfl, Nat.le_of_ble_eq_true rfl⟩) g_q6 (by decide) rfl rfl hl.1 rfl (Nat.le_of_ble_eq_true rfl) dX8_parts_58 ⟨Nat.zero_le _, Nat.zero_le _⟩ (fun H locs hw => ?_)
        refine lv_iload_n X.1.1 X.1.2.1 dX8_parts_61 rfl (lv_at hl 2 rfl) ?_
        refine lv_icmp_ne (tgt := 68) X.1.1 X.1.2.1 dX8_parts_62 (by decide) (fun c_11 => ?_) (fun c_11 => ?_)
        · skip
          rw [if_pos c_11] at hf
          obtain ⟨x12, ex12, hf⟩ := olt hf
          refine lv_iinc (v := x12) (lv' := [(4, .int x12), (0, .ref a0), (2, .int w2)]) X.1.1 X.1.2.1 dX8_parts_68 hl (k := 0) rfl (by rw [ex12]; rfl) (by decide) rfl (fun ls hl => ?_)
          refine lv_goto (tgt := 31) X.1.1 X.1.2.1 dX8_parts_71 (by decide) ?_
          exact ih _ _ _ _ _ hf hw (lv_sub hl [0, 1, 2] rfl) kr kx
        · skip
          rw [if_neg (fun z => z c_11)] at hf
          refine lv_iload X.1.1 X.1.2.1 dX8_parts_65 (lv_at hl 0 rfl) ?_
          cases hf
          cases kr _ rfl
          exact r_retXI (v := v4) X hw hr hlk rfl dX8_parts_67
def f_X8_parts (h : Hs) (a0 : Nat) (p1 : Int32) (p2 : Int32) (M : Mm) : Option (Option Int32 × Mm) :=
  gd (ok h a0 8) <|
  dq (zR h a0 1) fun q1 =>
  gd (ok h q1 0) <|
  (f_X0_detailAt h q1 p1 M).bind fun z2 =>
  mq z2
    (
     some (none, M)
    )
    (fun q3 =>
     (f_X8_reckonWear h a0 q3 M).bind fun z4 =>
     (lp_X8_parts_31 h p2 a0 z4 fuel (0 : Int32)).bind fun z13 =>
     sm z13 (fun r => some r) (fun y14 =>
       some (some (-1 : Int32), z4)
       )
    )
set_option maxHeartbeats 4000000 in
set_option maxRecDepth 100000 in
theorem c_X8_parts {l : Launch} (hst : l.stackTraces = false) {D : va_G} {cy : Nat → ClassId} {h : Hs} {a0 : Nat} {p1 : Int32} {p2 : Int32} {M : Mm} {z : (Option Int32 × Mm)} (hf : f_X8_parts h a0 p1 p2 M = some z) : CtXI l D cy yX8_parts (wu yX8_parts cX8_parts 5 (some .int)) ({ frames := 6, cells := 1, slots := 6, locals := 137 }) [.ref a0, .int p1, .int p2] h M z.1 z.2 := by
  refine enterXI (cc := cX8_parts) (maxL := 5) (ret := (some .int)) (by decide) (Nat.le_of_ble_eq_true rfl) ?_
  intro p e s m args below meth c A ls X hw hr hlk hout hl
  have hl : lv_has ls 5 [(0, .ref a0), (1, .int p1), (2, .int p2)] := hl
  unfold f_X8_parts at hf
  refine lv_aload_n X.1.1 X.1.2.1 dX8_parts_0 rfl (lv_at hl 0 rfl) ?_
  obtain ⟨g_a0, hf⟩ := ogd hf
  obtain ⟨q1, eq1, hf⟩ := odq hf
  refine r_getq (k := 8) (j := 1) X hw rfl inX8 g_a0 rfl (by decide) (by decide) uf_X8_19 rfl dX8_parts_1 eq1 ?_
  refine lv_iload_n X.1.1 X.1.2.1 dX8_parts_4 rfl (lv_at hl 1 rfl) ?_
  obtain ⟨g_q1, hf⟩ := ogd hf
  obtain ⟨z2, ez2, hf⟩ := obd hf
  refine r_callVQ (As := [.int p1]) (rest := []) X hw (c_X0_detailAt ez2) (cwV 1 X.1.2.2.2.2 (guV um_X8_178 ui_X0_detailAt us_X0_detailAt un_X0 uo_X0_detailAt) rfl rfl rfl (by decide +kernel) ⟨Nat.le_of_ble_eq_true rfl, Nat.le_of_ble_eq_true rfl⟩) g_q1 (by decide) rfl rfl hl.1 rfl (Nat.le_of_ble_eq_true rfl) dX8_parts_5 ⟨Nat.zero_le _, Nat.zero_le _⟩ (fun H locs hw => ?_)
  obtain ⟨nq3, hf⟩ | ⟨q3, nq3, hf⟩ := omq hf
  · rw [nq3]
    refine lv_astore_nN (lv' := [(3, .null), (0, .ref a0), (1, .int p1), (2, .int p2)]) X.1.1 X.1.2.1 dX8_parts_8 rfl hl (by decide) rfl (fun ls hl => ?_)
    refine lv_aload_nN X.1.1 X.1.2.1 dX8_parts_9 rfl (lv_at hl 0 rfl) ?_
    refine lv_ifnonnullN X.1.1 X.1.2.1 dX8_parts_10 ?_
    cases hf
    exact r_throwI X hw hst (X.2.2.2.2.2.2.2.2.2.2.2) hl.1 dX8_parts_13 dX8_parts_16 dX8_parts_17 dX8_parts_19 dX8_parts_22 hout ⟨Nat.le_of_ble_eq_true rfl, Nat.le_of_ble_eq_true rfl, Nat.le_of_ble_eq_true rfl, Nat.le_of_ble_eq_true rfl⟩ hlk
  · rw [nq3]
    refine lv_astore_n (lv' := [(3, .ref q3), (0, .ref a0), (1, .int p1), (2, .int p2)]) X.1.1 X.1.2.1 dX8_parts_8 rfl hl (by decide) rfl (fun ls hl => ?_)
    refine lv_aload_n X.1.1 X.1.2.1 dX8_parts_9 rfl (lv_at hl 0 rfl) ?_
    refine lv_ifnonnull (tgt := 23) X.1.1 X.1.2.1 dX8_parts_10 (by decide) ?_
    refine lv_aload_n X.1.1 X.1.2.1 dX8_parts_23 rfl (lv_at hl 1 rfl) ?_
    refine lv_aload_n X.1.1 X.1.2.1 dX8_parts_24 rfl (lv_at hl 0 rfl) ?_
    obtain ⟨z4, ez4, hf⟩ := obd hf
    refine r_callVV (As := [.ref q3]) (rest := []) X hw (c_X8_reckonWear ez4) (cwV 1 X.1.2.2.2.2 (guV um_X8_228 ui_X8_reckonWear us_X8_reckonWear un_X8 uo_X8_reckonWear) rfl rfl rfl (by decide +kernel) ⟨Nat.le_of_ble_eq_true rfl, Nat.le_of_ble_eq_true rfl⟩) g_a0 (by decide) rfl rfl hl.1 rfl (Nat.le_of_ble_eq_true rfl) dX8_parts_25 ⟨Nat.zero_le _, Nat.zero_le _⟩ (fun H locs hw => ?_)
    refine lv_iconst (v := (0 : Int32)) X.1.1 X.1.2.1 dX8_parts_28 (by decide) ?_
    refine lv_istore (lv' := [(4, .int (0 : Int32)), (3, .ref q3), (0, .ref a0), (1, .int p1), (2, .int p2)]) X.1.1 X.1.2.1 dX8_parts_29 hl (by decide) rfl (fun ls hl => ?_)
    obtain ⟨z13, ez13, hf⟩ := obd hf
    refine wlp_X8_parts_31 X hr hlk g_a0 fuel _ _ _ _ _ ez13 hw (lv_sub hl [0, 2, 4] rfl) (fun rr er => ?_) (fun y14 ex H locs ls hw hl => ?_)
    · subst er
      exact Option.some.inj hf
    · subst ex
      dsimp only [sm] at hf
      refine lv_iconst (v := (-1 : Int32)) X.1.1 X.1.2.1 dX8_parts_74 (by decide) ?_
      cases hf
      exact r_retXI (v := (-1 : Int32)) X hw hr hlk rfl dX8_parts_75
