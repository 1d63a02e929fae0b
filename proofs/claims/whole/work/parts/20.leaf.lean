/-! X4_isGauge -/
def f_X4_isGauge (h : Hs) (a0 : Nat) (M : Mm) : Option Int32 :=
  gd (ok h a0 4) <|
  if (zI M a0 1) < 0 then
    some (0 : Int32)
  else
    if (4 : Int32) < (zI M a0 1) then
      some (0 : Int32)
    else
      some (1 : Int32)
set_option maxHeartbeats 4000000 in
set_option maxRecDepth 100000 in
theorem c_X4_isGauge {l : Launch} {D : va_G} {cy : Nat → ClassId} {h : Hs} {a0 : Nat} {M : Mm} {z : Int32} (hf : f_X4_isGauge h a0 M = some z) : CtI l D cy yX4_isGauge (wu yX4_isGauge cX4_isGauge 1 (some .boolean)) ({ frames := 0, cells := 0, slots := 0, locals := 0 }) [.ref a0] h M z M := by
  refine enterI (cc := cX4_isGauge) (maxL := 1) (ret := (some .boolean)) (by decide) (Nat.le_of_ble_eq_true rfl) ?_
  intro p e s m args below meth c A ls X hw hr hlk hl
  have hl : lv_has ls 1 [(0, .ref a0)] := hl
  unfold f_X4_isGauge at hf
  refine lv_aload_n X.1.1 X.1.2.1 dX4_isGauge_0 rfl (lv_at hl 0 rfl) ?_
  obtain ⟨g_a0, hf⟩ := ogd hf
  refine r_geti (k := 4) (j := 1) X hw rfl inX4 g_a0 rfl (by decide) (by decide) uf_X4_15 rfl dX4_isGauge_1 ?_
  refine lv_if_lt (tgt := 19) X.1.1 X.1.2.1 dX4_isGauge_4 (by decide) (fun c_1 => ?_) (fun c_1 => ?_)
  · skip
    rw [if_pos c_1] at hf
    refine lv_iconst (v := (0 : Int32)) X.1.1 X.1.2.1 dX4_isGauge_19 (by decide) ?_
    cases hf
    exact r_retI X hw hr hlk rfl dX4_isGauge_20
  · skip
    rw [if_neg c_1] at hf
    refine lv_aload_n X.1.1 X.1.2.1 dX4_isGauge_7 rfl (lv_at hl 0 rfl) ?_
    refine r_geti (k := 4) (j := 1) X hw rfl inX4 g_a0 rfl (by decide) (by decide) uf_X4_15 rfl dX4_isGauge_8 ?_
    refine lv_iconst (v := (4 : Int32)) X.1.1 X.1.2.1 dX4_isGauge_11 (by decide) ?_
    refine lv_icmp_gt (tgt := 19) X.1.1 X.1.2.1 dX4_isGauge_12 (by decide) (fun c_2 => ?_) (fun c_2 => ?_)
    · skip
      rw [if_pos c_2] at hf
      refine lv_iconst (v := (0 : Int32)) X.1.1 X.1.2.1 dX4_isGauge_19 (by decide) ?_
      cases hf
      exact r_retI X hw hr hlk rfl dX4_isGauge_20
    · skip
      rw [if_neg c_2] at hf
      refine lv_iconst (v := (1 : Int32)) X.1.1 X.1.2.1 dX4_isGauge_15 (by decide) ?_
      refine lv_goto (tgt := 20) X.1.1 X.1.2.1 dX4_isGauge_16 (by decide) ?_
      cases hf
      exact r_retI X hw hr hlk rfl dX4_isGauge_20
/-! X4_cellAt -/
def f_X4_cellAt (h : Hs) (a0 : Nat) (p1 : Int32) (M : Mm) : Option Int32 :=
  if p1 < 0 then
    some (3000000 : Int32)
  else
    gd (ok h a0 4) <|
    if (zI M a0 4) ≤ p1 then
      some (3000000 : Int32)
    else
      dq (zR h a0 0) fun q3 =>
      gd (ok h q3 11) <|
      if (Int32.ofNat (zN h q3)) ≤ p1 then
        some (3000000 : Int32)
      else
        gd (inb p1 (zN h q3)) <|
        some (zI M q3 p1.toNatClampNeg)
set_option maxHeartbeats 4000000 in
set_option maxRecDepth 100000 in
theorem c_X4_cellAt {l : Launch} {D : va_G} {cy : Nat → ClassId} {h : Hs} {a0 : Nat} {p1 : Int32} {M : Mm} {z : Int32} (hf : f_X4_cellAt h a0 p1 M = some z) : CtI l D cy yX4_cellAt (wu yX4_cellAt cX4_cellAt 2 (some .int)) ({ frames := 0, cells := 0, slots := 0, locals := 0 }) [.ref a0, .int p1] h M z M := by
  refine enterI (cc := cX4_cellAt) (maxL := 2) (ret := (some .int)) (by decide) (Nat.le_of_ble_eq_true rfl) ?_
  intro p e s m args below meth c A ls X hw hr hlk hl
  have hl : lv_has ls 2 [(0, .ref a0), (1, .int p1)] := hl
  unfold f_X4_cellAt at hf
  refine lv_iload_n X.1.1 X.1.2.1 dX4_cellAt_0 rfl (lv_at hl 1 rfl) ?_
  refine lv_if_lt (tgt := 30) X.1.1 X.1.2.1 dX4_cellAt_1 (by decide) (fun c_1 => ?_) (fun c_1 => ?_)
  · skip
    rw [if_pos c_1] at hf
    refine lv_ldc (v := (3000000 : Int32)) X.1.1 X.1.2.1 X.1.2.2.2.1 (X.1.2.2.2.2 _ uc_X4_28) dX4_cellAt_30 ?_
    cases hf
    exact r_retI X hw hr hlk rfl dX4_cellAt_32
  · skip
    rw [if_neg c_1] at hf
    refine lv_iload_n X.1.1 X.1.2.1 dX4_cellAt_4 rfl (lv_at hl 1 rfl) ?_
    refine lv_aload_n X.1.1 X.1.2.1 dX4_cellAt_5 rfl (lv_at hl 0 rfl) ?_
    obtain ⟨g_a0, hf⟩ := ogd hf
    refine r_geti (k := 4) (j := 4) X hw rfl inX4 g_a0 rfl (by decide) (by decide) uf_X4_25 rfl dX4_cellAt_6 ?_
    refine lv_icmp_ge (tgt := 30) X.1.1 X.1.2.1 dX4_cellAt_9 (by decide) (fun c_2 => ?_) (fun c_2 => ?_)
    · skip
      rw [if_pos c_2] at hf
      refine lv_ldc (v := (3000000 : Int32)) X.1.1 X.1.2.1 X.1.2.2.2.1 (X.1.2.2.2.2 _ uc_X4_28) dX4_cellAt_30 ?_
      cases hf
      exact r_retI X hw hr hlk rfl dX4_cellAt_32
    · skip
      rw [if_neg c_2] at hf
      refine lv_iload_n X.1.1 X.1.2.1 dX4_cellAt_12 rfl (lv_at hl 1 rfl) ?_
      refine lv_aload_n X.1.1 X.1.2.1 dX4_cellAt_13 rfl (lv_at hl 0 rfl) ?_
      obtain ⟨q3, eq3, hf⟩ := odq hf
      refine r_getq (k := 4) (j := 0) X hw rfl inX4 g_a0 rfl (by decide) (by decide) uf_X4_9 rfl dX4_cellAt_14 eq3 ?_
      obtain ⟨g_q3, hf⟩ := ogd hf
      refine r_alen X hw g_q3 (by decide) dX4_cellAt_17 ?_
      refine lv_icmp_ge (tgt := 30) X.1.1 X.1.2.1 dX4_cellAt_18 (by decide) (fun c_4 => ?_) (fun c_4 => ?_)
      · skip
        rw [if_pos c_4] at hf
        refine lv_ldc (v := (3000000 : Int32)) X.1.1 X.1.2.1 X.1.2.2.2.1 (X.1.2.2.2.2 _ uc_X4_28) dX4_cellAt_30 ?_
        cases hf
        exact r_retI X hw hr hlk rfl dX4_cellAt_32
      · skip
        rw [if_neg c_4] at hf
        refine lv_aload_n X.1.1 X.1.2.1 dX4_cellAt_21 rfl (lv_at hl 0 rfl) ?_
        refine r_getq (k := 4) (j := 0) X hw rfl inX4 g_a0 rfl (by decide) (by decide) uf_X4_9 rfl dX4_cellAt_22 eq3 ?_
        refine lv_iload_n X.1.1 X.1.2.1 dX4_cellAt_25 rfl (lv_at hl 1 rfl) ?_
        obtain ⟨i_5, hf⟩ := ogd hf
        refine r_iald X hw g_q3 i_5 dX4_cellAt_26 ?_
        refine lv_goto (tgt := 32) X.1.1 X.1.2.1 dX4_cellAt_27 (by decide) ?_
        cases hf
        exact r_retI X hw hr hlk rfl dX4_cellAt_32
/-! X4_hasGap -/
def f_X4_hasGap (h : Hs) (a0 : Nat) (p1 : Int32) (M : Mm) : Option Int32 :=
  gd (ok h a0 4) <|
  (f_X4_cellAt h a0 p1 M).bind fun z1 =>
  if ¬ z1 = (2000000 : Int32) then
    some (0 : Int32)
  else
    some (1 : Int32)
set_option maxHeartbeats 4000000 in
set_option maxRecDepth 100000 in
theorem c_X4_hasGap {l : Launch} {D : va_G} {cy : Nat → ClassId} {h : Hs} {a0 : Nat} {p1 : Int32} {M : Mm} {z : Int32} (hf : f_X4_hasGap h a0 p1 M = some z) : CtI l D cy yX4_hasGap (wu yX4_hasGap cX4_hasGap 2 (some .boolean)) ({ frames := 1, cells := 0, slots := 0, locals := 21 }) [.ref a0, .int p1] h M z M := by
  refine enterI (cc := cX4_hasGap) (maxL := 2) (ret := (some .boolean)) (by decide) (Nat.le_of_ble_eq_true rfl) ?_
  intro p e s m args below meth c A ls X hw hr hlk hl
  have hl : lv_has ls 2 [(0, .ref a0), (1, .int p1)] := hl
  unfold f_X4_hasGap at hf
  refine lv_aload_n X.1.1 X.1.2.1 dX4_hasGap_0 rfl (lv_at hl 0 rfl) ?_
  refine lv_iload_n X.1.1 X.1.2.1 dX4_hasGap_1 rfl (lv_at hl 1 rfl) ?_
  obtain ⟨g_a0, hf⟩ := ogd hf
  obtain ⟨z1, ez1, hf⟩ := obd hf
  refine r_callVI (As := [.int p1]) (rest := []) X hw (c_X4_cellAt ez1) (cwV 1 X.1.2.2.2.2 (guV um_X4_29 ui_X4_cellAt us_X4_cellAt un_X4 uo_X4_cellAt) rfl rfl rfl (by decide +kernel) ⟨Nat.le_of_ble_eq_true rfl, Nat.le_of_ble_eq_true rfl⟩) g_a0 (by decide) rfl rfl hl.1 rfl (Nat.le_of_ble_eq_true rfl) dX4_hasGap_2 ⟨Nat.zero_le _, Nat.zero_le _⟩ (fun H locs hw => ?_)
  refine lv_ldc (v := (2000000 : Int32)) X.1.1 X.1.2.1 X.1.2.2.2.1 (X.1.2.2.2.2 _ uc_X4_33) dX4_hasGap_5 ?_
  refine lv_icmp_ne (tgt := 14) X.1.1 X.1.2.1 dX4_hasGap_7 (by decide) (fun c_2 => ?_) (fun c_2 => ?_)
  · skip
    rw [if_pos c_2] at hf
    refine lv_iconst (v := (0 : Int32)) X.1.1 X.1.2.1 dX4_hasGap_14 (by decide) ?_
    cases hf
    exact r_retI X hw hr hlk rfl dX4_hasGap_15
  · skip
    rw [if_neg (fun z => z c_2)] at hf
    refine lv_iconst (v := (1 : Int32)) X.1.1 X.1.2.1 dX4_hasGap_10 (by decide) ?_
    refine lv_goto (tgt := 15) X.1.1 X.1.2.1 dX4_hasGap_11 (by decide) ?_
    cases hf
    exact r_retI X hw hr hlk rfl dX4_hasGap_15
/-! X4_become -/
def f_X4_become (h : Hs) (a0 : Nat) (p1 : Int32) (p2 : Int32) (p3 : Int32) (M : Mm) : Option Mm :=
  gd (ok h a0 4) <|
  lt_ (sI M a0 1 p1) fun M1 =>
  lt_ (sI M1 a0 2 p2) fun M2 =>
  lt_ (sI M2 a0 3 p3) fun M3 =>
  lt_ (sI M3 a0 4 (0 : Int32)) fun M4 =>
  some M4
set_option maxHeartbeats 4000000 in
set_option maxRecDepth 100000 in
theorem c_X4_become {l : Launch} {D : va_G} {cy : Nat → ClassId} {h : Hs} {a0 : Nat} {p1 : Int32} {p2 : Int32} {p3 : Int32} {M : Mm} {z : Mm} (hf : f_X4_become h a0 p1 p2 p3 M = some z) : CtV l D cy yX4_become (wu yX4_become cX4_become 4 none) ({ frames := 0, cells := 0, slots := 0, locals := 0 }) [.ref a0, .int p1, .int p2, .int p3] h M z := by
  refine enterV (cc := cX4_become) (maxL := 4) (ret := none) (by decide) (Nat.le_of_ble_eq_true rfl) ?_
  intro p e s m args below meth c A ls X hw hr hlk hl
  have hl : lv_has ls 4 [(0, .ref a0), (1, .int p1), (2, .int p2), (3, .int p3)] := hl
  unfold f_X4_become at hf
  refine lv_aload_n X.1.1 X.1.2.1 dX4_become_0 rfl (lv_at hl 0 rfl) ?_
  refine lv_iload_n X.1.1 X.1.2.1 dX4_become_1 rfl (lv_at hl 1 rfl) ?_
  obtain ⟨g_a0, hf⟩ := ogd hf
  refine r_puti (k := 4) (j := 1) X hw rfl inX4 tyX4_ok nmX4 g_a0 rfl (by decide) (by decide) uf_X4_15 rfl rfl rfl rfl dX4_become_2 (fun H locs hw => ?_)
  obtain ⟨M1, eM1, hf⟩ := olt hf
  rw [← eM1] at hw
  refine lv_aload_n X.1.1 X.1.2.1 dX4_become_5 rfl (lv_at hl 0 rfl) ?_
  refine lv_iload_n X.1.1 X.1.2.1 dX4_become_6 rfl (lv_at hl 2 rfl) ?_
  refine r_puti (k := 4) (j := 2) X hw rfl inX4 tyX4_ok nmX4 g_a0 rfl (by decide) (by decide) uf_X4_19 rfl rfl rfl rfl dX4_become_7 (fun H locs hw => ?_)
  obtain ⟨M2, eM2, hf⟩ := olt hf
  rw [← eM2] at hw
  refine lv_aload_n X.1.1 X.1.2.1 dX4_become_10 rfl (lv_at hl 0 rfl) ?_
  refine lv_iload_n X.1.1 X.1.2.1 dX4_become_11 rfl (lv_at hl 3 rfl) ?_
  refine r_puti (k := 4) (j := 3) X hw rfl inX4 tyX4_ok nmX4 g_a0 rfl (by decide) (by decide) uf_X4_22 rfl rfl rfl rfl dX4_become_12 (fun H locs hw => ?_)
  obtain ⟨M3, eM3, hf⟩ := olt hf
  rw [← eM3] at hw
  refine lv_aload_n X.1.1 X.1.2.1 dX4_become_15 rfl (lv_at hl 0 rfl) ?_
  refine lv_iconst (v := (0 : Int32)) X.1.1 X.1.2.1 dX4_become_16 (by decide) ?_
  refine r_puti (k := 4) (j := 4) X hw rfl inX4 tyX4_ok nmX4 g_a0 rfl (by decide) (by decide) uf_X4_25 rfl rfl rfl rfl dX4_become_17 (fun H locs hw => ?_)
  obtain ⟨M4, eM4, hf⟩ := olt hf
  rw [← eM4] at hw
  cases hf
  exact r_retV X hw hr hlk dX4_become_20
/-! X4_set -/
def f_X4_set (h : Hs) (a0 : Nat) (p1 : Int32) (p2 : Int32) (M : Mm) : Option Mm :=
  if p1 < 0 then
    some M
  else
    gd (ok h a0 4) <|
    if (zI M a0 4) ≤ p1 then
      some M
    else
      dq (zR h a0 0) fun q3 =>
      gd (ok h q3 11) <|
      if (Int32.ofNat (zN h q3)) ≤ p1 then
        some M
      else
        gd (inb p1 (zN h q3)) <|
        lt_ (sI M q3 p1.toNatClampNeg p2) fun M6 =>
        some M6
set_option maxHeartbeats 4000000 in
set_option maxRecDepth 100000 in
theorem c_X4_set {l : Launch} {D : va_G} {cy : Nat → ClassId} {h : Hs} {a0 : Nat} {p1 : Int32} {p2 : Int32} {M : Mm} {z : Mm} (hf : f_X4_set h a0 p1 p2 M = some z) : CtV l D cy yX4_set (wu yX4_set cX4_set 3 none) ({ frames := 0, cells := 0, slots := 0, locals := 0 }) [.ref a0, .int p1, .int p2] h M z := by
  refine enterV (cc := cX4_set) (maxL := 3) (ret := none) (by decide) (Nat.le_of_ble_eq_true rfl) ?_
  intro p e s m args below meth c A ls X hw hr hlk hl
  have hl : lv_has ls 3 [(0, .ref a0), (1, .int p1), (2, .int p2)] := hl
  unfold f_X4_set at hf
  refine lv_iload_n X.1.1 X.1.2.1 dX4_set_0 rfl (lv_at hl 1 rfl) ?_
  refine lv_if_lt (tgt := 28) X.1.1 X.1.2.1 dX4_set_1 (by decide) (fun c_1 => ?_) (fun c_1 => ?_)
  · skip
    rw [if_pos c_1] at hf
    cases hf
    exact r_retV X hw hr hlk dX4_set_28
  · skip
    rw [if_neg c_1] at hf
    refine lv_iload_n X.1.1 X.1.2.1 dX4_set_4 rfl (lv_at hl 1 rfl) ?_
    refine lv_aload_n X.1.1 X.1.2.1 dX4_set_5 rfl (lv_at hl 0 rfl) ?_
    obtain ⟨g_a0, hf⟩ := ogd hf
    refine r_geti (k := 4) (j := 4) X hw rfl inX4 g_a0 rfl (by decide) (by decide) uf_X4_25 rfl dX4_set_6 ?_
    refine lv_icmp_ge (tgt := 28) X.1.1 X.1.2.1 dX4_set_9 (by decide) (fun c_2 => ?_) (fun c_2 => ?_)
    · skip
      rw [if_pos c_2] at hf
      cases hf
      exact r_retV X hw hr hlk dX4_set_28
    · skip
      rw [if_neg c_2] at hf
      refine lv_iload_n X.1.1 X.1.2.1 dX4_set_12 rfl (lv_at hl 1 rfl) ?_
      refine lv_aload_n X.1.1 X.1.2.1 dX4_set_13 rfl (lv_at hl 0 rfl) ?_
      obtain ⟨q3, eq3, hf⟩ := odq hf
      refine r_getq (k := 4) (j := 0) X hw rfl inX4 g_a0 rfl (by decide) (by decide) uf_X4_9 rfl dX4_set_14 eq3 ?_
      obtain ⟨g_q3, hf⟩ := ogd hf
      refine r_alen X hw g_q3 (by decide) dX4_set_17 ?_
      refine lv_icmp_ge (tgt := 28) X.1.1 X.1.2.1 dX4_set_18 (by decide) (fun c_4 => ?_) (fun c_4 => ?_)
      · skip
        rw [if_pos c_4] at hf
        cases hf
        exact r_retV X hw hr hlk dX4_set_28
      · skip
        rw [if_neg c_4] at hf
        refine lv_aload_n X.1.1 X.1.2.1 dX4_set_21 rfl (lv_at hl 0 rfl) ?_
        refine r_getq (k := 4) (j := 0) X hw rfl inX4 g_a0 rfl (by decide) (by decide) uf_X4_9 rfl dX4_set_22 eq3 ?_
        refine lv_iload_n X.1.1 X.1.2.1 dX4_set_25 rfl (lv_at hl 1 rfl) ?_
        refine lv_iload_n X.1.1 X.1.2.1 dX4_set_26 rfl (lv_at hl 2 rfl) ?_
        obtain ⟨i_5, hf⟩ := ogd hf
        refine r_iast X hw g_q3 i_5 dX4_set_27 (fun H locs hw => ?_)
        obtain ⟨M6, eM6, hf⟩ := olt hf
        rw [← eM6] at hw
        cases hf
        exact r_retV X hw hr hlk dX4_set_28
/-! X4_add -/
def f_X4_add (h : Hs) (a0 : Nat) (p1 : Int32) (M : Mm) : Option Mm :=
  gd (ok h a0 4) <|
  if (zI M a0 4) < 0 then
    some M
  else
    dq (zR h a0 0) fun q2 =>
    gd (ok h q2 11) <|
    if (Int32.ofNat (zN h q2)) ≤ (zI M a0 4) then
      some M
    else
      Option.bind (
        if ¬ (zI M a0 1) = (3 : Int32) then
          some (0 : Int32)
        else
          if (zI M a0 4) < (zI M a0 2) then
            some (0 : Int32)
          else
            if (zI M a0 3) < (zI M a0 4) then
              some (0 : Int32)
            else
              some (1 : Int32)
        ) fun y7 =>
      Option.bind (
        if y7 = 0 then
          some p1
        else
          some (3000000 : Int32)
        ) fun y9 =>
      gd (inb (zI M a0 4) (zN h q2)) <|
      lt_ (sI M q2 (zI M a0 4).toNatClampNeg y9) fun M11 =>
      lt_ (sI M11 a0 4 ((zI M11 a0 4) + (1 : Int32))) fun M12 =>
      some M12
set_option maxHeartbeats 4000000 in
set_option maxRecDepth 100000 in
theorem c_X4_add {l : Launch} {D : va_G} {cy : Nat → ClassId} {h : Hs} {a0 : Nat} {p1 : Int32} {M : Mm} {z : Mm} (hf : f_X4_add h a0 p1 M = some z) : CtV l D cy yX4_add (wu yX4_add cX4_add 3 none) ({ frames := 0, cells := 0, slots := 0, locals := 0 }) [.ref a0, .int p1] h M z := by
  refine enterV (cc := cX4_add) (maxL := 3) (ret := none) (by decide) (Nat.le_of_ble_eq_true rfl) ?_
  intro p e s m args below meth c A ls X hw hr hlk hl
  have hl : lv_has ls 3 [(0, .ref a0), (1, .int p1)] := hl
  unfold f_X4_add at hf
  refine lv_aload_n X.1.1 X.1.2.1 dX4_add_0 rfl (lv_at hl 0 rfl) ?_
  obtain ⟨g_a0, hf⟩ := ogd hf
  refine r_geti (k := 4) (j := 4) X hw rfl inX4 g_a0 rfl (by decide) (by decide) uf_X4_25 rfl dX4_add_1 ?_
  refine lv_if_lt (tgt := 84) X.1.1 X.1.2.1 dX4_add_4 (by decide) (fun c_1 => ?_) (fun c_1 => ?_)
  · skip
    rw [if_pos c_1] at hf
    cases hf
    exact r_retV X hw hr hlk dX4_add_84
  · skip
    rw [if_neg c_1] at hf
    refine lv_aload_n X.1.1 X.1.2.1 dX4_add_7 rfl (lv_at hl 0 rfl) ?_
    refine r_geti (k := 4) (j := 4) X hw rfl inX4 g_a0 rfl (by decide) (by decide) uf_X4_25 rfl dX4_add_8 ?_
    refine lv_aload_n X.1.1 X.1.2.1 dX4_add_11 rfl (lv_at hl 0 rfl) ?_
    obtain ⟨q2, eq2, hf⟩ := odq hf
    refine r_getq (k := 4) (j := 0) X hw rfl inX4 g_a0 rfl (by decide) (by decide) uf_X4_9 rfl dX4_add_12 eq2 ?_
    obtain ⟨g_q2, hf⟩ := ogd hf
    refine r_alen X hw g_q2 (by decide) dX4_add_15 ?_
    refine lv_icmp_ge (tgt := 84) X.1.1 X.1.2.1 dX4_add_16 (by decide) (fun c_3 => ?_) (fun c_3 => ?_)
    · skip
      rw [if_pos c_3] at hf
      cases hf
      exact r_retV X hw hr hlk dX4_add_84
    · skip
      rw [if_neg c_3] at hf
      refine lv_aload_n X.1.1 X.1.2.1 dX4_add_19 rfl (lv_at hl 0 rfl) ?_
      refine r_geti (k := 4) (j := 1) X hw rfl inX4 g_a0 rfl (by decide) (by decide) uf_X4_15 rfl dX4_add_20 ?_
      refine lv_iconst (v := (3 : Int32)) X.1.1 X.1.2.1 dX4_add_23 (by decide) ?_
      obtain ⟨y7, ey7, hf⟩ := obd hf
      have Jy7 : ∀ (H : Heap) (locs : List Loc) (ls : Array Slot), Wd D cy A s.heap h M H locs → lv_has ls 3 [(0, .ref a0), (1, .int p1)] → W p l e ({ frames := 0, cells := 0, slots := 0, locals := 0 } : Room) s m args below meth c H locs 0 0 (QV below D cy A h args s z) (F0 m 54 ls [.int y7]) := by
        intro H locs ls hw hl
        refine lv_istore_n (lv' := [(2, .int y7), (0, .ref a0), (1, .int p1)]) X.1.1 X.1.2.1 dX4_add_54 rfl hl (by decide) rfl (fun ls hl => ?_)
        refine lv_aload_n X.1.1 X.1.2.1 dX4_add_55 rfl (lv_at hl 1 rfl) ?_
        refine r_getq (k := 4) (j := 0) X hw rfl inX4 g_a0 rfl (by decide) (by decide) uf_X4_9 rfl dX4_add_56 eq2 ?_
        refine lv_aload_n X.1.1 X.1.2.1 dX4_add_59 rfl (lv_at hl 1 rfl) ?_
        refine r_geti (k := 4) (j := 4) X hw rfl inX4 g_a0 rfl (by decide) (by decide) uf_X4_25 rfl dX4_add_60 ?_
        refine lv_iload_n X.1.1 X.1.2.1 dX4_add_63 rfl (lv_at hl 0 rfl) ?_
        obtain ⟨y9, ey9, hf⟩ := obd hf
        have Jy9 : ∀ (H : Heap) (locs : List Loc) (ls : Array Slot), Wd D cy A s.heap h M H locs → lv_has ls 3 [(0, .ref a0)] → W p l e ({ frames := 0, cells := 0, slots := 0, locals := 0 } : Room) s m args below meth c H locs 0 0 (QV below D cy A h args s z) (F0 m 73 ls [.int y9, .int (zI M a0 4), .ref q2]) := by
          intro H locs ls hw hl
          obtain ⟨i_10, hf⟩ := ogd hf
          refine r_iast X hw g_q2 i_10 dX4_add_73 (fun H locs hw => ?_)
          obtain ⟨M11, eM11, hf⟩ := olt hf
          rw [← eM11] at hw
          refine lv_aload_n X.1.1 X.1.2.1 dX4_add_74 rfl (lv_at hl 0 rfl) ?_
          refine lv_dup X.1.1 X.1.2.1 dX4_add_75 rfl ?_
          refine r_geti (k := 4) (j := 4) X hw rfl inX4 g_a0 rfl (by decide) (by decide) uf_X4_25 rfl dX4_add_76 ?_
          refine lv_iconst (v := (1 : Int32)) X.1.1 X.1.2.1 dX4_add_79 (by decide) ?_
          refine lv_iadd X.1.1 X.1.2.1 dX4_add_80 ?_
          refine r_puti (k := 4) (j := 4) X hw rfl inX4 tyX4_ok nmX4 g_a0 rfl (by decide) (by decide) uf_X4_25 rfl rfl rfl rfl dX4_add_81 (fun H locs hw => ?_)
          obtain ⟨M12, eM12, hf⟩ := olt hf
          rw [← eM12] at hw
          cases hf
          exact r_retV X hw hr hlk dX4_add_84
        clear hf
        have hf := ey9
        clear ey9
        refine lv_if_eq (tgt := 72) X.1.1 X.1.2.1 dX4_add_64 (by decide) (fun c_8 => ?_) (fun c_8 => ?_)
        · skip
          rw [if_pos c_8] at hf
          refine lv_iload_n X.1.1 X.1.2.1 dX4_add_72 rfl (lv_at hl 2 rfl) ?_
          cases hf
          exact Jy9 _ _ _ hw (lv_sub hl [1] rfl)
        · skip
          rw [if_neg c_8] at hf
          refine lv_ldc (v := (3000000 : Int32)) X.1.1 X.1.2.1 X.1.2.2.2.1 (X.1.2.2.2.2 _ uc_X4_28) dX4_add_67 ?_
          refine lv_goto (tgt := 73) X.1.1 X.1.2.1 dX4_add_69 (by decide) ?_
          cases hf
          exact Jy9 _ _ _ hw (lv_sub hl [1] rfl)
      clear hf
      have hf := ey7
      clear ey7
      refine lv_icmp_ne (tgt := 53) X.1.1 X.1.2.1 dX4_add_24 (by decide) (fun c_4 => ?_) (fun c_4 => ?_)
      · skip
        rw [if_pos c_4] at hf
        refine lv_iconst (v := (0 : Int32)) X.1.1 X.1.2.1 dX4_add_53 (by decide) ?_
        cases hf
        exact Jy7 _ _ _ hw (lv_sub hl [0, 1] rfl)
      · skip
        rw [if_neg (fun z => z c_4)] at hf
        refine lv_aload_n X.1.1 X.1.2.1 dX4_add_27 rfl (lv_at hl 0 rfl) ?_
        refine r_geti (k := 4) (j := 4) X hw rfl inX4 g_a0 rfl (by decide) (by decide) uf_X4_25 rfl dX4_add_28 ?_
        refine lv_aload_n X.1.1 X.1.2.1 dX4_add_31 rfl (lv_at hl 0 rfl) ?_
        refine r_geti (k := 4) (j := 2) X hw rfl inX4 g_a0 rfl (by decide) (by decide) uf_X4_19 rfl dX4_add_32 ?_
        refine lv_icmp_lt (tgt := 53) X.1.1 X.1.2.1 dX4_add_35 (by decide) (fun c_5 => ?_) (fun c_5 => ?_)
        · skip
          rw [if_pos c_5] at hf
          refine lv_iconst (v := (0 : Int32)) X.1.1 X.1.2.1 dX4_add_53 (by decide) ?_
          cases hf
          exact Jy7 _ _ _ hw (lv_sub hl [0, 1] rfl)
        · skip
          rw [if_neg c_5] at hf
          refine lv_aload_n X.1.1 X.1.2.1 dX4_add_38 rfl (lv_at hl 0 rfl) ?_
          refine r_geti (k := 4) (j := 4) X hw rfl inX4 g_a0 rfl (by decide) (by decide) uf_X4_25 rfl dX4_add_39 ?_
          refine lv_aload_n X.1.1 X.1.2.1 dX4_add_42 rfl (lv_at hl 0 rfl) ?_
          refine r_geti (k := 4) (j := 3) X hw rfl inX4 g_a0 rfl (by decide) (by decide) uf_X4_22 rfl dX4_add_43 ?_
          refine lv_icmp_gt (tgt := 53) X.1.1 X.1.2.1 dX4_add_46 (by decide) (fun c_6 => ?_) (fun c_6 => ?_)
          · skip
            rw [if_pos c_6] at hf
            refine lv_iconst (v := (0 : Int32)) X.1.1 X.1.2.1 dX4_add_53 (by decide) ?_
            cases hf
            exact Jy7 _ _ _ hw (lv_sub hl [0, 1] rfl)
          · skip
            rw [if_neg c_6] at hf
            refine lv_iconst (v := (1 : Int32)) X.1.1 X.1.2.1 dX4_add_49 (by decide) ?_
            refine lv_goto (tgt := 54) X.1.1 X.1.2.1 dX4_add_50 (by decide) ?_
            cases hf
            exact Jy7 _ _ _ hw (lv_sub hl [0, 1] rfl)
/-! X4_tearOut -/
def lp_X4_tearOut_5 (h : Hs) (w2 : Int32) (a0 : Nat) : Nat → Int32 → Int32 → Mm → Option (Int32 × Int32 × Mm)
  | 0, _, _, _ => none
  | n + 1, v3, v4, M =>
    if w2 < v4 then
      some (v3, v4, M)
    else
      gd (ok h a0 4) <|
      if (zI M a0 4) ≤ v4 then
        some (v3, v4, M)
      else
        (f_X4_cellAt h a0 v4 M).bind fun z3 =>
        Option.bind (
          if z3 = (2000000 : Int32) then
            some (v3, M)
          else
            if z3 = (3000000 : Int32) then
              some (v3, M)
            else
              (f_X4_set h a0 v4 (2000000 : Int32) M).bind fun z6 =>
              lt_ (v3 + (1 : Int32)) fun x7 =>
              some (x7, z6)
          ) fun y8 =>
        lt_ (v4 + (1 : Int32)) fun x9 =>
        lp_X4_tearOut_5 h w2 a0 n y8.1 x9 y8.2
set_option maxHeartbeats 4000000 in
set_option maxRecDepth 100000 in
theorem wlp_X4_tearOut_5 {l : Launch} {D : va_G} {cy : Nat → ClassId} {h : Hs} {w2 : Int32} {a0 : Nat} {p : Program} {e : Env} {s : State} {m : MethodId} {args : Array Value} {below : List Frame} {meth : Method} {c : Code} {A : Nat → Prop} (X : Cx p s m args c cX4_tearOut 6 gtbl RX4 D cy A) {Q : State → Prop} : ∀ (n : Nat) (v3 : Int32) (v4 : Int32) (M : Mm) (z : (Int32 × Int32 × Mm)) (H : Heap) (locs : List Loc) (ls : Array Slot), lp_X4_tearOut_5 h w2 a0 n v3 v4 M = some z → Wd D cy A s.heap h M H locs → lv_has ls 6 [(3, .int v3), (4, .int v4), (0, .ref a0), (2, .int w2)] → (∀ x : (Int32 × Int32 × Mm), z = x → ∀ (H : Heap) (locs : List Loc) (ls : Array Slot), Wd D cy A s.heap h x.2.2 H locs → lv_has ls 6 [(3, .int x.1), (4, .int x.2.1), (0, .ref a0), (2, .int w2)] → W p l e ({ frames := 1, cells := 0, slots := 0, locals := 22 } : Room) s m args below meth c H locs 0 0 Q (F0 m 59 ls [])) → W p l e ({ frames := 1, cells := 0, slots := 0, locals := 22 } : Room) s m args below meth c H locs 0 0 Q (F0 m 5 ls []) := by
  intro n
  induction n with
  | zero => intro v3 v4 M z H locs ls hf hw hl kx; exact absurd hf (by intro q; cases q)
  | succ n ih =>
    intro v3 v4 M z H locs ls hf hw hl kx
    unfold lp_X4_tearOut_5 at hf
    refine lv_iload X.1.1 X.1.2.1 dX4_tearOut_5 (lv_at hl 1 rfl) ?_
    refine lv_iload_n X.1.1 X.1.2.1 dX4_tearOut_7 rfl (lv_at hl 3 rfl) ?_
    refine lv_icmp_gt (tgt := 59) X.1.1 X.1.2.1 dX4_tearOut_8 (by decide) (fun c_1 => ?_) (fun c_1 => ?_)
    · skip
      rw [if_pos c_1] at hf
      cases hf
      exact kx _ rfl _ _ _ hw (lv_sub hl [0, 1, 2, 3] rfl)
    · skip
      rw [if_neg c_1] at hf
      refine lv_iload X.1.1 X.1.2.1 dX4_tearOut_11 (lv_at hl 1 rfl) ?_
      refine lv_aload_n X.1.1 X.1.2.1 dX4_tearOut_13 rfl (lv_at hl 2 rfl) ?_
      obtain ⟨g_a0, hf⟩ := ogd hf
      refine r_geti (k := 4) (j := 4) X hw rfl inX4 g_a0 rfl (by decide) (by decide) uf_X4_25 rfl dX4_tearOut_14 ?_
      refine lv_icmp_ge (tgt := 59) X.1.1 X.1.2.1 dX4_tearOut_17 (by decide) (fun c_2 => ?_) (fun c_2 => ?_)
      · skip
        rw [if_pos c_2] at hf
        cases hf
        exact kx _ rfl _ _ _ hw (lv_sub hl [0, 1, 2, 3] rfl)
      · skip
        rw [if_neg c_2] at hf
        refine lv_aload_n X.1.1 X.1.2.1 dX4_tearOut_20 rfl (lv_at hl 2 rfl) ?_
        refine lv_iload X.1.1 X.1.2.1 dX4_tearOut_21 (lv_at hl 1 rfl) ?_
        obtain ⟨z3, ez3, hf⟩ := obd hf
        refine r_callVI (As := [.int v4]) (rest := []) X hw (c_X4_cellAt ez3) (cwV 1 X.1.2.2.2.2 (guV um_X4_29 ui_X4_cellAt us_X4_cellAt un_X4 uo_X4_cellAt) rfl rfl rfl (by decide +kernel) ⟨Nat.le_of_ble_eq_true rfl, Nat.le_of_ble_eq_true rfl⟩) g_a0 (by decide) rfl rfl hl.1 rfl (Nat.le_of_ble_eq_true rfl) dX4_tearOut_23 ⟨Nat.zero_le _, Nat.zero_le _⟩ (fun H locs hw => ?_)
        refine lv_istore (lv' := [(5, .int z3), (3, .int v3), (4, .int v4), (0, .ref a0), (2, .int w2)]) X.1.1 X.1.2.1 dX4_tearOut_26 hl (by decide) rfl (fun ls hl => ?_)
        refine lv_iload X.1.1 X.1.2.1 dX4_tearOut_28 (lv_at hl 0 rfl) ?_
        refine lv_ldc (v := (2000000 : Int32)) X.1.1 X.1.2.1 X.1.2.2.2.1 (X.1.2.2.2.2 _ uc_X4_33) dX4_tearOut_30 ?_
        obtain ⟨y8, ey8, hf⟩ := obd hf
        have Jy8 : ∀ (H : Heap) (locs : List Loc) (ls : Array Slot), Wd D cy A s.heap h y8.2 H locs → lv_has ls 6 [(3, .int y8.1), (4, .int v4), (0, .ref a0), (2, .int w2)] → W p l e ({ frames := 1, cells := 0, slots := 0, locals := 22 } : Room) s m args below meth c H locs 0 0 Q (F0 m 53 ls []) := by
          intro H locs ls hw hl
          obtain ⟨x9, ex9, hf⟩ := olt hf
          refine lv_iinc (v := x9) (lv' := [(4, .int x9), (3, .int y8.1), (0, .ref a0), (2, .int w2)]) X.1.1 X.1.2.1 dX4_tearOut_53 hl (k := 1) rfl (by rw [ex9]; rfl) (by decide) rfl (fun ls hl => ?_)
          refine lv_goto (tgt := 5) X.1.1 X.1.2.1 dX4_tearOut_56 (by decide) ?_
          exact ih _ _ _ _ _ _ _ hf hw (lv_sub hl [1, 0, 2, 3] rfl) kx
        clear hf
        have hf := ey8
        clear ey8
        refine lv_icmp_eq (tgt := 53) X.1.1 X.1.2.1 dX4_tearOut_32 (by decide) (fun c_4 => ?_) (fun c_4 => ?_)
        · skip
          rw [if_pos c_4] at hf
          cases hf
          exact Jy8 _ _ _ hw (lv_sub hl [1, 2, 3, 4] rfl)
        · skip
          rw [if_neg c_4] at hf
          refine lv_iload X.1.1 X.1.2.1 dX4_tearOut_35 (lv_at hl 0 rfl) ?_
          refine lv_ldc (v := (3000000 : Int32)) X.1.1 X.1.2.1 X.1.2.2.2.1 (X.1.2.2.2.2 _ uc_X4_28) dX4_tearOut_37 ?_
          refine lv_icmp_eq (tgt := 53) X.1.1 X.1.2.1 dX4_tearOut_39 (by decide) (fun c_5 => ?_) (fun c_5 => ?_)
          · skip
            rw [if_pos c_5] at hf
            cases hf
            exact Jy8 _ _ _ hw (lv_sub hl [1, 2, 3, 4] rfl)
          · skip
            rw [if_neg c_5] at hf
            refine lv_aload_n X.1.1 X.1.2.1 dX4_tearOut_42 rfl (lv_at hl 3 rfl) ?_
            refine lv_iload X.1.1 X.1.2.1 dX4_tearOut_43 (lv_at hl 2 rfl) ?_
            refine lv_ldc (v := (2000000 : Int32)) X.1.1 X.1.2.1 X.1.2.2.2.1 (X.1.2.2.2.2 _ uc_X4_33) dX4_tearOut_45 ?_
            obtain ⟨z6, ez6, hf⟩ := obd hf
            refine r_callVV (As := [.int v4, .int (2000000 : Int32)]) (rest := []) X hw (c_X4_set ez6) (cwV 2 X.1.2.2.2.2 (guV um_X4_34 ui_X4_set us_X4_set un_X4 uo_X4_set) rfl rfl rfl (by decide +kernel) ⟨Nat.le_of_ble_eq_true rfl, Nat.le_of_ble_eq_true rfl⟩) g_a0 (by decide) rfl rfl hl.1 rfl (Nat.le_of_ble_eq_true rfl) dX4_tearOut_47 ⟨Nat.zero_le _, Nat.zero_le _⟩ (fun H locs hw => ?_)
            obtain ⟨x7, ex7, hf⟩ := olt hf
            refine lv_iinc (v := x7) (lv' := [(3, .int x7), (5, .int z3), (4, .int v4), (0, .ref a0), (2, .int w2)]) X.1.1 X.1.2.1 dX4_tearOut_50 hl (k := 1) rfl (by rw [ex7]; rfl) (by decide) rfl (fun ls hl => ?_)
            cases hf
            exact Jy8 _ _ _ hw (lv_sub hl [0, 2, 3, 4] rfl)
def f_X4_tearOut (h : Hs) (a0 : Nat) (p1 : Int32) (p2 : Int32) (M : Mm) : Option (Int32 × Mm) :=
  (lp_X4_tearOut_5 h p2 a0 fuel (0 : Int32) p1 M).bind fun z10 =>
  some (z10.1, z10.2.2)
set_option maxHeartbeats 4000000 in
set_option maxRecDepth 100000 in
theorem c_X4_tearOut {l : Launch} {D : va_G} {cy : Nat → ClassId} {h : Hs} {a0 : Nat} {p1 : Int32} {p2 : Int32} {M : Mm} {z : (Int32 × Mm)} (hf : f_X4_tearOut h a0 p1 p2 M = some z) : CtI l D cy yX4_tearOut (wu yX4_tearOut cX4_tearOut 6 (some .int)) ({ frames := 1, cells := 0, slots := 0, locals := 22 }) [.ref a0, .int p1, .int p2] h M z.1 z.2 := by
  refine enterI (cc := cX4_tearOut) (maxL := 6) (ret := (some .int)) (by decide) (Nat.le_of_ble_eq_true rfl) ?_
  intro p e s m args below meth c A ls X hw hr hlk hl
  have hl : lv_has ls 6 [(0, .ref a0), (1, .int p1), (2, .int p2)] := hl
  unfold f_X4_tearOut at hf
  refine lv_iconst (v := (0 : Int32)) X.1.1 X.1.2.1 dX4_tearOut_0 (by decide) ?_
  refine lv_istore_n (lv' := [(3, .int (0 : Int32)), (0, .ref a0), (1, .int p1), (2, .int p2)]) X.1.1 X.1.2.1 dX4_tearOut_1 rfl hl (by decide) rfl (fun ls hl => ?_)
  refine lv_iload_n X.1.1 X.1.2.1 dX4_tearOut_2 rfl (lv_at hl 2 rfl) ?_
  refine lv_istore (lv' := [(4, .int p1), (3, .int (0 : Int32)), (0, .ref a0), (1, .int p1), (2, .int p2)]) X.1.1 X.1.2.1 dX4_tearOut_3 hl (by decide) rfl (fun ls hl => ?_)
  obtain ⟨z10, ez10, hf⟩ := obd hf
  refine wlp_X4_tearOut_5 X fuel _ _ _ _ _ _ _ ez10 hw (lv_sub hl [1, 0, 2, 4] rfl) (fun x ex H locs ls hw hl => ?_)
  subst ex
  refine lv_iload_n X.1.1 X.1.2.1 dX4_tearOut_59 rfl (lv_at hl 0 rfl) ?_
  cases hf
  exact r_retI (v := z10.1) X hw hr hlk rfl dX4_tearOut_60
/-! X4_copyFrom -/
def lp_X4_copyFrom_34 (h : Hs) (p1 : Nat) (a0 : Nat) : Nat → Int32 → Mm → Option (Int32 × Mm)
  | 0, _, _ => none
  | n + 1, v2, M =>
    if (zI M a0 4) ≤ v2 then
      some (v2, M)
    else
      dq (zR h a0 0) fun q6 =>
      gd (ok h q6 11) <|
      if (Int32.ofNat (zN h q6)) ≤ v2 then
        some (v2, M)
      else
        dq (zR h p1 0) fun q8 =>
        gd (ok h q8 11) <|
        if (Int32.ofNat (zN h q8)) ≤ v2 then
          some (v2, M)
        else
          gd (inb v2 (zN h q8)) <|
          gd (inb v2 (zN h q6)) <|
          lt_ (sI M q6 v2.toNatClampNeg (zI M q8 v2.toNatClampNeg)) fun M12 =>
          lt_ (v2 + (1 : Int32)) fun x13 =>
          lp_X4_copyFrom_34 h p1 a0 n x13 M12
set_option maxHeartbeats 4000000 in
set_option maxRecDepth 100000 in
theorem wlp_X4_copyFrom_34 {l : Launch} {D : va_G} {cy : Nat → ClassId} {h : Hs} {p1 : Nat} {a0 : Nat} {p : Program} {e : Env} {s : State} {m : MethodId} {args : Array Value} {below : List Frame} {meth : Method} {c : Code} {A : Nat → Prop} (X : Cx p s m args c cX4_copyFrom 3 gtbl RX4 D cy A) {Q : State → Prop} (g_p1 : ok h p1 4) (g_a0 : ok h a0 4) : ∀ (n : Nat) (v2 : Int32) (M : Mm) (z : (Int32 × Mm)) (H : Heap) (locs : List Loc) (ls : Array Slot), lp_X4_copyFrom_34 h p1 a0 n v2 M = some z → Wd D cy A s.heap h M H locs → lv_has ls 3 [(2, .int v2), (0, .ref a0), (1, .ref p1)] → (∀ x : (Int32 × Mm), z = x → ∀ (H : Heap) (locs : List Loc) (ls : Array Slot), Wd D cy A s.heap h x.2 H locs → lv_has ls 3 [(2, .int x.1), (0, .ref a0), (1, .ref p1)] → W p l e ({ frames := 0, cells := 0, slots := 0, locals := 0 } : Room) s m args below meth c H locs 0 0 Q (F0 m 78 ls [])) → W p l e ({ frames := 0, cells := 0, slots := 0, locals := 0 } : Room) s m args below meth c H locs 0 0 Q (F0 m 34 ls []) := by
  intro n
  induction n with
  | zero => intro v2 M z H locs ls hf hw hl kx; exact absurd hf (by intro q; cases q)
  | succ n ih =>
    intro v2 M z H locs ls hf hw hl kx
    unfold lp_X4_copyFrom_34 at hf
    refine lv_iload_n X.1.1 X.1.2.1 dX4_copyFrom_34 rfl (lv_at hl 0 rfl) ?_
    refine lv_aload_n X.1.1 X.1.2.1 dX4_copyFrom_35 rfl (lv_at hl 1 rfl) ?_
    refine r_geti (k := 4) (j := 4) X hw rfl inX4 g_a0 rfl (by decide) (by decide) uf_X4_25 rfl dX4_copyFrom_36 ?_
    refine lv_icmp_ge (tgt := 78) X.1.1 X.1.2.1 dX4_copyFrom_39 (by decide) (fun c_5 => ?_) (fun c_5 => ?_)
    · skip
      rw [if_pos c_5] at hf
      cases hf
      exact kx _ rfl _ _ _ hw (lv_sub hl [0, 1, 2] rfl)
    · skip
      rw [if_neg c_5] at hf
      refine lv_iload_n X.1.1 X.1.2.1 dX4_copyFrom_42 rfl (lv_at hl 0 rfl) ?_
      refine lv_aload_n X.1.1 X.1.2.1 dX4_copyFrom_43 rfl (lv_at hl 1 rfl) ?_
      obtain ⟨q6, eq6, hf⟩ := odq hf
      refine r_getq (k := 4) (j := 0) X hw rfl inX4 g_a0 rfl (by decide) (by decide) uf_X4_9 rfl dX4_copyFrom_44 eq6 ?_
      obtain ⟨g_q6, hf⟩ := ogd hf
      refine r_alen X hw g_q6 (by decide) dX4_copyFrom_47 ?_
      refine lv_icmp_ge (tgt := 78) X.1.1 X.1.2.1 dX4_copyFrom_48 (by decide) (fun c_7 => ?_) (fun c_7 => ?_)
      · skip
        rw [if_pos c_7] at hf
        cases hf
        exact kx _ rfl _ _ _ hw (lv_sub hl [0, 1, 2] rfl)
      · skip
        rw [if_neg c_7] at hf
        refine lv_iload_n X.1.1 X.1.2.1 dX4_copyFrom_51 rfl (lv_at hl 0 rfl) ?_
        refine lv_aload_n X.1.1 X.1.2.1 dX4_copyFrom_52 rfl (lv_at hl 2 rfl) ?_
        obtain ⟨q8, eq8, hf⟩ := odq hf
        refine r_getq (k := 4) (j := 0) X hw rfl inX4 g_p1 rfl (by decide) (by decide) uf_X4_9 rfl dX4_copyFrom_53 eq8 ?_
        obtain ⟨g_q8, hf⟩ := ogd hf
        refine r_alen X hw g_q8 (by decide) dX4_copyFrom_56 ?_
        refine lv_icmp_ge (tgt := 78) X.1.1 X.1.2.1 dX4_copyFrom_57 (by decide) (fun c_9 => ?_) (fun c_9 => ?_)
        · skip
          rw [if_pos c_9] at hf
          cases hf
          exact kx _ rfl _ _ _ hw (lv_sub hl [0, 1, 2] rfl)
        · skip
          rw [if_neg c_9] at hf
          refine lv_aload_n X.1.1 X.1.2.1 dX4_copyFrom_60 rfl (lv_at hl 1 rfl) ?_
          refine r_getq (k := 4) (j := 0) X hw rfl inX4 g_a0 rfl (by decide) (by decide) uf_X4_9 rfl dX4_copyFrom_61 eq6 ?_
          refine lv_iload_n X.1.1 X.1.2.1 dX4_copyFrom_64 rfl (lv_at hl 0 rfl) ?_
          refine lv_aload_n X.1.1 X.1.2.1 dX4_copyFrom_65 rfl (lv_at hl 2 rfl) ?_
          refine r_getq (k := 4) (j := 0) X hw rfl inX4 g_p1 rfl (by decide) (by decide) uf_X4_9 rfl dX4_copyFrom_66 eq8 ?_
          refine lv_iload_n X.1.1 X.1.2.1 dX4_copyFrom_69 rfl (lv_at hl 0 rfl) ?_
          obtain ⟨i_10, hf⟩ := ogd hf
          refine r_iald X hw g_q8 i_10 dX4_copyFrom_70 ?_
          obtain ⟨i_11, hf⟩ := ogd hf
          refine r_iast X hw g_q6 i_11 dX4_copyFrom_71 (fun H locs hw => ?_)
          obtain ⟨M12, eM12, hf⟩ := olt hf
          rw [← eM12] at hw
          obtain ⟨x13, ex13, hf⟩ := olt hf
          refine lv_iinc (v := x13) (lv' := [(2, .int x13), (0, .ref a0), (1, .ref p1)]) X.1.1 X.1.2.1 dX4_copyFrom_72 hl (k := 0) rfl (by rw [ex13]; rfl) (by decide) rfl (fun ls hl => ?_)
          refine lv_goto (tgt := 34) X.1.1 X.1.2.1 dX4_copyFrom_75 (by decide) ?_
          exact ih _ _ _ _ _ _ hf hw (lv_sub hl [0, 1, 2] rfl) kx
def f_X4_copyFrom (h : Hs) (a0 : Nat) (p1 : Nat) (M : Mm) : Option Mm :=
  gd (ok h p1 4) <|
  gd (ok h a0 4) <|
  lt_ (sI M a0 1 (zI M p1 1)) fun M1 =>
  lt_ (sI M1 a0 2 (zI M1 p1 2)) fun M2 =>
  lt_ (sI M2 a0 3 (zI M2 p1 3)) fun M3 =>
  lt_ (sI M3 a0 4 (zI M3 p1 4)) fun M4 =>
  (lp_X4_copyFrom_34 h p1 a0 fuel (0 : Int32) M4).bind fun z14 =>
  some z14.2
set_option maxHeartbeats 4000000 in
set_option maxRecDepth 100000 in
theorem c_X4_copyFrom {l : Launch} {D : va_G} {cy : Nat → ClassId} {h : Hs} {a0 : Nat} {p1 : Nat} {M : Mm} {z : Mm} (hf : f_X4_copyFrom h a0 p1 M = some z) : CtV l D cy yX4_copyFrom (wu yX4_copyFrom cX4_copyFrom 3 none) ({ frames := 0, cells := 0, slots := 0, locals := 0 }) [.ref a0, .ref p1] h M z := by
  refine enterV (cc := cX4_copyFrom) (maxL := 3) (ret := none) (by decide) (Nat.le_of_ble_eq_true rfl) ?_
  intro p e s m args below meth c A ls X hw hr hlk hl
  have hl : lv_has ls 3 [(0, .ref a0), (1, .ref p1)] := hl
  unfold f_X4_copyFrom at hf
  refine lv_aload_n X.1.1 X.1.2.1 dX4_copyFrom_0 rfl (lv_at hl 0 rfl) ?_
  refine lv_aload_n X.1.1 X.1.2.1 dX4_copyFrom_1 rfl (lv_at hl 1 rfl) ?_
  obtain ⟨g_p1, hf⟩ := ogd hf
  refine r_geti (k := 4) (j := 1) X hw rfl inX4 g_p1 rfl (by decide) (by decide) uf_X4_15 rfl dX4_copyFrom_2 ?_
  obtain ⟨g_a0, hf⟩ := ogd hf
  refine r_puti (k := 4) (j := 1) X hw rfl inX4 tyX4_ok nmX4 g_a0 rfl (by decide) (by decide) uf_X4_15 rfl rfl rfl rfl dX4_copyFrom_5 (fun H locs hw => ?_)
  obtain ⟨M1, eM1, hf⟩ := olt hf
  rw [← eM1] at hw
  refine lv_aload_n X.1.1 X.1.2.1 dX4_copyFrom_8 rfl (lv_at hl 0 rfl) ?_
  refine lv_aload_n X.1.1 X.1.2.1 dX4_copyFrom_9 rfl (lv_at hl 1 rfl) ?_
  refine r_geti (k := 4) (j := 2) X hw rfl inX4 g_p1 rfl (by decide) (by decide) uf_X4_19 rfl dX4_copyFrom_10 ?_
  refine r_puti (k := 4) (j := 2) X hw rfl inX4 tyX4_ok nmX4 g_a0 rfl (by decide) (by decide) uf_X4_19 rfl rfl rfl rfl dX4_copyFrom_13 (fun H locs hw => ?_)
  obtain ⟨M2, eM2, hf⟩ := olt hf
  rw [← eM2] at hw
  refine lv_aload_n X.1.1 X.1.2.1 dX4_copyFrom_16 rfl (lv_at hl 0 rfl) ?_
  refine lv_aload_n X.1.1 X.1.2.1 dX4_copyFrom_17 rfl (lv_at hl 1 rfl) ?_
  refine r_geti (k := 4) (j := 3) X hw rfl inX4 g_p1 rfl (by decide) (by decide) uf_X4_22 rfl dX4_copyFrom_18 ?_
  refine r_puti (k := 4) (j := 3) X hw rfl inX4 tyX4_ok nmX4 g_a0 rfl (by decide) (by decide) uf_X4_22 rfl rfl rfl rfl dX4_copyFrom_21 (fun H locs hw => ?_)
  obtain ⟨M3, eM3, hf⟩ := olt hf
  rw [← eM3] at hw
  refine lv_aload_n X.1.1 X.1.2.1 dX4_copyFrom_24 rfl (lv_at hl 0 rfl) ?_
  refine lv_aload_n X.1.1 X.1.2.1 dX4_copyFrom_25 rfl (lv_at hl 1 rfl) ?_
  refine r_geti (k := 4) (j := 4) X hw rfl inX4 g_p1 rfl (by decide) (by decide) uf_X4_25 rfl dX4_copyFrom_26 ?_
  refine r_puti (k := 4) (j := 4) X hw rfl inX4 tyX4_ok nmX4 g_a0 rfl (by decide) (by decide) uf_X4_25 rfl rfl rfl rfl dX4_copyFrom_29 (fun H locs hw => ?_)
  obtain ⟨M4, eM4, hf⟩ := olt hf
  rw [← eM4] at hw
  refine lv_iconst (v := (0 : Int32)) X.1.1 X.1.2.1 dX4_copyFrom_32 (by decide) ?_
  refine lv_istore_n (lv' := [(2, .int (0 : Int32)), (0, .ref a0), (1, .ref p1)]) X.1.1 X.1.2.1 dX4_copyFrom_33 rfl hl (by decide) rfl (fun ls hl => ?_)
  obtain ⟨z14, ez14, hf⟩ := obd hf
  refine wlp_X4_copyFrom_34 X g_p1 g_a0 fuel _ _ _ _ _ _ ez14 hw (lv_sub hl [0, 1, 2] rfl) (fun x ex H locs ls hw hl => ?_)
  subst ex
  cases hf
  exact r_retV X hw hr hlk dX4_copyFrom_78
/-! X3_topAt -/
def f_X3_topAt (h : Hs) (a0 : Nat) (p1 : Int32) (M : Mm) : Option Int32 :=
  if p1 < 0 then
    some (0 : Int32)
  else
    gd (ok h a0 3) <|
    dq (zR h a0 0) fun q2 =>
    gd (ok h q2 11) <|
    if (Int32.ofNat (zN h q2)) ≤ p1 then
      some (0 : Int32)
    else
      gd (inb p1 (zN h q2)) <|
      some (zI M q2 p1.toNatClampNeg)
set_option maxHeartbeats 4000000 in
set_option maxRecDepth 100000 in
theorem c_X3_topAt {l : Launch} {D : va_G} {cy : Nat → ClassId} {h : Hs} {a0 : Nat} {p1 : Int32} {M : Mm} {z : Int32} (hf : f_X3_topAt h a0 p1 M = some z) : CtI l D cy yX3_topAt (wu yX3_topAt cX3_topAt 2 (some .int)) ({ frames := 0, cells := 0, slots := 0, locals := 0 }) [.ref a0, .int p1] h M z M := by
  refine enterI (cc := cX3_topAt) (maxL := 2) (ret := (some .int)) (by decide) (Nat.le_of_ble_eq_true rfl) ?_
  intro p e s m args below meth c A ls X hw hr hlk hl
  have hl : lv_has ls 2 [(0, .ref a0), (1, .int p1)] := hl
  unfold f_X3_topAt at hf
  refine lv_iload_n X.1.1 X.1.2.1 dX3_topAt_0 rfl (lv_at hl 1 rfl) ?_
  refine lv_if_lt (tgt := 22) X.1.1 X.1.2.1 dX3_topAt_1 (by decide) (fun c_1 => ?_) (fun c_1 => ?_)
  · skip
    rw [if_pos c_1] at hf
    refine lv_iconst (v := (0 : Int32)) X.1.1 X.1.2.1 dX3_topAt_22 (by decide) ?_
    cases hf
    exact r_retI X hw hr hlk rfl dX3_topAt_23
  · skip
    rw [if_neg c_1] at hf
    refine lv_iload_n X.1.1 X.1.2.1 dX3_topAt_4 rfl (lv_at hl 1 rfl) ?_
    refine lv_aload_n X.1.1 X.1.2.1 dX3_topAt_5 rfl (lv_at hl 0 rfl) ?_
    obtain ⟨g_a0, hf⟩ := ogd hf
    obtain ⟨q2, eq2, hf⟩ := odq hf
    refine r_getq (k := 3) (j := 0) X hw rfl inX3 g_a0 rfl (by decide) (by decide) uf_X3_9 rfl dX3_topAt_6 eq2 ?_
    obtain ⟨g_q2, hf⟩ := ogd hf
    refine r_alen X hw g_q2 (by decide) dX3_topAt_9 ?_
    refine lv_icmp_ge (tgt := 22) X.1.1 X.1.2.1 dX3_topAt_10 (by decide) (fun c_3 => ?_) (fun c_3 => ?_)
    · skip
      rw [if_pos c_3] at hf
      refine lv_iconst (v := (0 : Int32)) X.1.1 X.1.2.1 dX3_topAt_22 (by decide) ?_
      cases hf
      exact r_retI X hw hr hlk rfl dX3_topAt_23
    · skip
      rw [if_neg c_3] at hf
      refine lv_aload_n X.1.1 X.1.2.1 dX3_topAt_13 rfl (lv_at hl 0 rfl) ?_
      refine r_getq (k := 3) (j := 0) X hw rfl inX3 g_a0 rfl (by decide) (by decide) uf_X3_9 rfl dX3_topAt_14 eq2 ?_
      refine lv_iload_n X.1.1 X.1.2.1 dX3_topAt_17 rfl (lv_at hl 1 rfl) ?_
      obtain ⟨i_4, hf⟩ := ogd hf
      refine r_iald X hw g_q2 i_4 dX3_topAt_18 ?_
      refine lv_goto (tgt := 23) X.1.1 X.1.2.1 dX3_topAt_19 (by decide) ?_
      cases hf
      exact r_retI X hw hr hlk rfl dX3_topAt_23
/-! X3_valueAt -/
def f_X3_valueAt (h : Hs) (a0 : Nat) (p1 : Int32) (M : Mm) : Option Int32 :=
  if p1 < 0 then
    some (0 : Int32)
  else
    gd (ok h a0 3) <|
    dq (zR h a0 1) fun q2 =>
    gd (ok h q2 11) <|
    if (Int32.ofNat (zN h q2)) ≤ p1 then
      some (0 : Int32)
    else
      gd (inb p1 (zN h q2)) <|
      some (zI M q2 p1.toNatClampNeg)
set_option maxHeartbeats 4000000 in
set_option maxRecDepth 100000 in
theorem c_X3_valueAt {l : Launch} {D : va_G} {cy : Nat → ClassId} {h : Hs} {a0 : Nat} {p1 : Int32} {M : Mm} {z : Int32} (hf : f_X3_valueAt h a0 p1 M = some z) : CtI l D cy yX3_valueAt (wu yX3_valueAt cX3_valueAt 2 (some .int)) ({ frames := 0, cells := 0, slots := 0, locals := 0 }) [.ref a0, .int p1] h M z M := by
  refine enterI (cc := cX3_valueAt) (maxL := 2) (ret := (some .int)) (by decide) (Nat.le_of_ble_eq_true rfl) ?_
  intro p e s m args below meth c A ls X hw hr hlk hl
  have hl : lv_has ls 2 [(0, .ref a0), (1, .int p1)] := hl
  unfold f_X3_valueAt at hf
  refine lv_iload_n X.1.1 X.1.2.1 dX3_valueAt_0 rfl (lv_at hl 1 rfl) ?_
  refine lv_if_lt (tgt := 22) X.1.1 X.1.2.1 dX3_valueAt_1 (by decide) (fun c_1 => ?_) (fun c_1 => ?_)
  · skip
    rw [if_pos c_1] at hf
    refine lv_iconst (v := (0 : Int32)) X.1.1 X.1.2.1 dX3_valueAt_22 (by decide) ?_
    cases hf
    exact r_retI X hw hr hlk rfl dX3_valueAt_23
  · skip
    rw [if_neg c_1] at hf
    refine lv_iload_n X.1.1 X.1.2.1 dX3_valueAt_4 rfl (lv_at hl 1 rfl) ?_
    refine lv_aload_n X.1.1 X.1.2.1 dX3_valueAt_5 rfl (lv_at hl 0 rfl) ?_
    obtain ⟨g_a0, hf⟩ := ogd hf
    obtain ⟨q2, eq2, hf⟩ := odq hf
    refine r_getq (k := 3) (j := 1) X hw rfl inX3 g_a0 rfl (by decide) (by decide) uf_X3_15 rfl dX3_valueAt_6 eq2 ?_
    obtain ⟨g_q2, hf⟩ := ogd hf
    refine r_alen X hw g_q2 (by decide) dX3_valueAt_9 ?_
    refine lv_icmp_ge (tgt := 22) X.1.1 X.1.2.1 dX3_valueAt_10 (by decide) (fun c_3 => ?_) (fun c_3 => ?_)
    · skip
      rw [if_pos c_3] at hf
      refine lv_iconst (v := (0 : Int32)) X.1.1 X.1.2.1 dX3_valueAt_22 (by decide) ?_
      cases hf
      exact r_retI X hw hr hlk rfl dX3_valueAt_23
    · skip
      rw [if_neg c_3] at hf
      refine lv_aload_n X.1.1 X.1.2.1 dX3_valueAt_13 rfl (lv_at hl 0 rfl) ?_
      refine r_getq (k := 3) (j := 1) X hw rfl inX3 g_a0 rfl (by decide) (by decide) uf_X3_15 rfl dX3_valueAt_14 eq2 ?_
      refine lv_iload_n X.1.1 X.1.2.1 dX3_valueAt_17 rfl (lv_at hl 1 rfl) ?_
      obtain ⟨i_4, hf⟩ := ogd hf
      refine r_iald X hw g_q2 i_4 dX3_valueAt_18 ?_
      refine lv_goto (tgt := 23) X.1.1 X.1.2.1 dX3_valueAt_19 (by decide) ?_
      cases hf
      exact r_retI X hw hr hlk rfl dX3_valueAt_23
/-! X3_firstNotBelow -/
def lp_X3_firstNotBelow_2 (h : Hs) (w1 : Int32) (a0 : Nat) (M : Mm) : Nat → Int32 → Option (Int32 ⊕ Int32)
  | 0, _ => none
  | n + 1, v2 =>
    gd (ok h a0 3) <|
    if (zI M a0 2) ≤ v2 then
      some (.inr v2)
    else
      dq (zR h a0 0) fun q2 =>
      gd (ok h q2 11) <|
      if (Int32.ofNat (zN h q2)) ≤ v2 then
        some (.inr v2)
      else
        gd (inb v2 (zN h q2)) <|
        if (zI M q2 v2.toNatClampNeg) < w1 then
          lt_ (v2 + (1 : Int32)) fun x6 =>
          lp_X3_firstNotBelow_2 h w1 a0 M n x6
        else
          some (.inl v2)
set_option maxHeartbeats 4000000 in
set_option maxRecDepth 100000 in
theorem wlp_X3_firstNotBelow_2 {l : Launch} {D : va_G} {cy : Nat → ClassId} {h : Hs} {w1 : Int32} {a0 : Nat} {M : Mm} {p : Program} {e : Env} {s : State} {m : MethodId} {args : Array Value} {below : List Frame} {meth : Method} {c : Code} {A : Nat → Prop} (X : Cx p s m args c cX3_firstNotBelow 3 gtbl RX3 D cy A) {zf : Int32} (hr : meth.sig.returnType = (some .int)) (hlk : meth.locks = false) : ∀ (n : Nat) (v2 : Int32) (z : (Int32 ⊕ Int32)) (H : Heap) (locs : List Loc) (ls : Array Slot), lp_X3_firstNotBelow_2 h w1 a0 M n v2 = some z → Wd D cy A s.heap h M H locs → lv_has ls 3 [(2, .int v2), (0, .ref a0), (1, .int w1)] → (∀ rr, z = .inl rr → rr = zf) → (∀ x : Int32, z = .inr x → ∀ (H : Heap) (locs : List Loc) (ls : Array Slot), Wd D cy A s.heap h M H locs → lv_has ls 3 [(2, .int x), (0, .ref a0), (1, .int w1)] → W p l e ({ frames := 0, cells := 0, slots := 0, locals := 0 } : Room) s m args below meth c H locs 0 0 (QI below D cy A h args s zf M) (F0 m 37 ls [])) → W p l e ({ frames := 0, cells := 0, slots := 0, locals := 0 } : Room) s m args below meth c H locs 0 0 (QI below D cy A h args s zf M) (F0 m 2 ls []) := by
  intro n
  induction n with
  | zero => intro v2 z H locs ls hf hw hl kr kx; exact absurd hf (by intro q; cases q)
  | succ n ih =>
    intro v2 z H locs ls hf hw hl kr kx
    unfold lp_X3_firstNotBelow_2 at hf
    refine lv_iload_n X.1.1 X.1.2.1 dX3_firstNotBelow_2 rfl (lv_at hl 0 rfl) ?_
    refine lv_aload_n X.1.1 X.1.2.1 dX3_firstNotBelow_3 rfl (lv_at hl 1 rfl) ?_
    obtain ⟨g_a0, hf⟩ := ogd hf
    refine r_geti (k := 3) (j := 2) X hw rfl inX3 g_a0 rfl (by decide) (by decide) uf_X3_18 rfl dX3_firstNotBelow_4 ?_
    refine lv_icmp_ge (tgt := 37) X.1.1 X.1.2.1 dX3_firstNotBelow_7 (by decide) (fun c_1 => ?_) (fun c_1 => ?_)
    · skip
      rw [if_pos c_1] at hf
      cases hf
      exact kx _ rfl _ _ _ hw (lv_sub hl [0, 1, 2] rfl)
    · skip
      rw [if_neg c_1] at hf
      refine lv_iload_n X.1.1 X.1.2.1 dX3_firstNotBelow_10 rfl (lv_at hl 0 rfl) ?_
      refine lv_aload_n X.1.1 X.1.2.1 dX3_firstNotBelow_11 rfl (lv_at hl 1 rfl) ?_
      obtain ⟨q2, eq2, hf⟩ := odq hf
      refine r_getq (k := 3) (j := 0) X hw rfl inX3 g_a0 rfl (by decide) (by decide) uf_X3_9 rfl dX3_firstNotBelow_12 eq2 ?_
      obtain ⟨g_q2, hf⟩ := ogd hf
      refine r_alen X hw g_q2 (by decide) dX3_firstNotBelow_15 ?_
      refine lv_icmp_ge (tgt := 37) X.1.1 X.1.2.1 dX3_firstNotBelow_16 (by decide) (fun c_3 => ?_) (fun c_3 => ?_)
      · skip
        rw [if_pos c_3] at hf
        cases hf
        exact kx _ rfl _ _ _ hw (lv_sub hl [0, 1, 2] rfl)
      · skip
        rw [if_neg c_3] at hf
        refine lv_aload_n X.1.1 X.1.2.1 dX3_firstNotBelow_19 rfl (lv_at hl 1 rfl) ?_
        refine r_getq (k := 3) (j := 0) X hw rfl inX3 g_a0 rfl (by decide) (by decide) uf_X3_9 rfl dX3_firstNotBelow_20 eq2 ?_
        refine lv_iload_n X.1.1 X.1.2.1 dX3_firstNotBelow_23 rfl (lv_at hl 0 rfl) ?_
        obtain ⟨i_4, hf⟩ := ogd hf
        refine r_iald X hw g_q2 i_4 dX3_firstNotBelow_24 ?_
        refine lv_iload_n X.1.1 X.1.2.1 dX3_firstNotBelow_25 rfl (lv_at hl 2 rfl) ?_
        refine lv_icmp_lt (tgt := 31) X.1.1 X.1.2.1 dX3_firstNotBelow_26 (by decide) (fun c_5 => ?_) (fun c_5 => ?_)
        · skip
          rw [if_pos c_5] at hf
          obtain ⟨x6, ex6, hf⟩ := olt hf
          refine lv_iinc (v := x6) (lv' := [(2, .int x6), (0, .ref a0), (1, .int w1)]) X.1.1 X.1.2.1 dX3_firstNotBelow_31 hl (k := 0) rfl (by rw [ex6]; rfl) (by decide) rfl (fun ls hl => ?_)
          refine lv_goto (tgt := 2) X.1.1 X.1.2.1 dX3_firstNotBelow_34 (by decide) ?_
          exact ih _ _ _ _ _ hf hw (lv_sub hl [0, 1, 2] rfl) kr kx
        · skip
          rw [if_neg c_5] at hf
          refine lv_iload_n X.1.1 X.1.2.1 dX3_firstNotBelow_29 rfl (lv_at hl 0 rfl) ?_
          cases hf
          cases kr _ rfl
          exact r_retI X hw hr hlk rfl dX3_firstNotBelow_30
def f_X3_firstNotBelow (h : Hs) (a0 : Nat) (p1 : Int32) (M : Mm) : Option Int32 :=
  (lp_X3_firstNotBelow_2 h p1 a0 M fuel (0 : Int32)).bind fun z7 =>
  sm z7 (fun r => some r) (fun y8 =>
    some (-1 : Int32)
    )
set_option maxHeartbeats 4000000 in
set_option maxRecDepth 100000 in
theorem c_X3_firstNotBelow {l : Launch} {D : va_G} {cy : Nat → ClassId} {h : Hs} {a0 : Nat} {p1 : Int32} {M : Mm} {z : Int32} (hf : f_X3_firstNotBelow h a0 p1 M = some z) : CtI l D cy yX3_firstNotBelow (wu yX3_firstNotBelow cX3_firstNotBelow 3 (some .int)) ({ frames := 0, cells := 0, slots := 0, locals := 0 }) [.ref a0, .int p1] h M z M := by
  refine enterI (cc := cX3_firstNotBelow) (maxL := 3) (ret := (some .int)) (by decide) (Nat.le_of_ble_eq_true rfl) ?_
  intro p e s m args below meth c A ls X hw hr hlk hl
  have hl : lv_has ls 3 [(0, .ref a0), (1, .int p1)] := hl
  unfold f_X3_firstNotBelow at hf
  refine lv_iconst (v := (0 : Int32)) X.1.1 X.1.2.1 dX3_firstNotBelow_0 (by decide) ?_
  refine lv_istore_n (lv' := [(2, .int (0 : Int32)), (0, .ref a0), (1, .int p1)]) X.1.1 X.1.2.1 dX3_firstNotBelow_1 rfl hl (by decide) rfl (fun ls hl => ?_)
  obtain ⟨z7, ez7, hf⟩ := obd hf
  refine wlp_X3_firstNotBelow_2 X hr hlk fuel _ _ _ _ _ ez7 hw (lv_sub hl [0, 1, 2] rfl) (fun rr er => ?_) (fun y8 ex H locs ls hw hl => ?_)
  · subst er
    exact Option.some.inj hf
  · subst ex
    dsimp only [sm] at hf
    refine lv_iconst (v := (-1 : Int32)) X.1.1 X.1.2.1 dX3_firstNotBelow_37 (by decide) ?_
    cases hf
    exact r_retI X hw hr hlk rfl dX3_firstNotBelow_38
/-! X3_takes -/
def f_X3_takes (h : Hs) (a0 : Nat) (p1 : Int32) (M : Mm) : Option Int32 :=
  gd (ok h a0 3) <|
  dq (zR h a0 0) fun q1 =>
  gd (ok h q1 11) <|
  if (zI M a0 2) < (Int32.ofNat (zN h q1)) then
    if (zI M a0 2) < (1 : Int32) then
      some (1 : Int32)
    else
      gd (inb ((zI M a0 2) - (1 : Int32)) (zN h q1)) <|
      if p1 ≤ (zI M q1 ((zI M a0 2) - (1 : Int32)).toNatClampNeg) then
        some (0 : Int32)
      else
        some (1 : Int32)
  else
    some (0 : Int32)
set_option maxHeartbeats 4000000 in
set_option maxRecDepth 100000 in
theorem c_X3_takes {l : Launch} {D : va_G} {cy : Nat → ClassId} {h : Hs} {a0 : Nat} {p1 : Int32} {M : Mm} {z : Int32} (hf : f_X3_takes h a0 p1 M = some z) : CtI l D cy yX3_takes (wu yX3_takes cX3_takes 2 (some .boolean)) ({ frames := 0, cells := 0, slots := 0, locals := 0 }) [.ref a0, .int p1] h M z M := by
  refine enterI (cc := cX3_takes) (maxL := 2) (ret := (some .boolean)) (by decide) (Nat.le_of_ble_eq_true rfl) ?_
  intro p e s m args below meth c A ls X hw hr hlk hl
  have hl : lv_has ls 2 [(0, .ref a0), (1, .int p1)] := hl
  unfold f_X3_takes at hf
  refine lv_aload_n X.1.1 X.1.2.1 dX3_takes_0 rfl (lv_at hl 0 rfl) ?_
  obtain ⟨g_a0, hf⟩ := ogd hf
  refine r_geti (k := 3) (j := 2) X hw rfl inX3 g_a0 rfl (by decide) (by decide) uf_X3_18 rfl dX3_takes_1 ?_
  refine lv_aload_n X.1.1 X.1.2.1 dX3_takes_4 rfl (lv_at hl 0 rfl) ?_
  obtain ⟨q1, eq1, hf⟩ := odq hf
  refine r_getq (k := 3) (j := 0) X hw rfl inX3 g_a0 rfl (by decide) (by decide) uf_X3_9 rfl dX3_takes_5 eq1 ?_
  obtain ⟨g_q1, hf⟩ := ogd hf
  refine r_alen X hw g_q1 (by decide) dX3_takes_8 ?_
  refine lv_icmp_lt (tgt := 14) X.1.1 X.1.2.1 dX3_takes_9 (by decide) (fun c_2 => ?_) (fun c_2 => ?_)
  · skip
    rw [if_pos c_2] at hf
    refine lv_aload_n X.1.1 X.1.2.1 dX3_takes_14 rfl (lv_at hl 0 rfl) ?_
    refine r_geti (k := 3) (j := 2) X hw rfl inX3 g_a0 rfl (by decide) (by decide) uf_X3_18 rfl dX3_takes_15 ?_
    refine lv_iconst (v := (1 : Int32)) X.1.1 X.1.2.1 dX3_takes_18 (by decide) ?_
    refine lv_icmp_lt (tgt := 37) X.1.1 X.1.2.1 dX3_takes_19 (by decide) (fun c_3 => ?_) (fun c_3 => ?_)
    · skip
      rw [if_pos c_3] at hf
      refine lv_iconst (v := (1 : Int32)) X.1.1 X.1.2.1 dX3_takes_37 (by decide) ?_
      refine lv_goto (tgt := 42) X.1.1 X.1.2.1 dX3_takes_38 (by decide) ?_
      cases hf
      exact r_retI X hw hr hlk rfl dX3_takes_42
    · skip
      rw [if_neg c_3] at hf
      refine lv_iload_n X.1.1 X.1.2.1 dX3_takes_22 rfl (lv_at hl 1 rfl) ?_
      refine lv_aload_n X.1.1 X.1.2.1 dX3_takes_23 rfl (lv_at hl 0 rfl) ?_
      refine r_getq (k := 3) (j := 0) X hw rfl inX3 g_a0 rfl (by decide) (by decide) uf_X3_9 rfl dX3_takes_24 eq1 ?_
      refine lv_aload_n X.1.1 X.1.2.1 dX3_takes_27 rfl (lv_at hl 0 rfl) ?_
      refine r_geti (k := 3) (j := 2) X hw rfl inX3 g_a0 rfl (by decide) (by decide) uf_X3_18 rfl dX3_takes_28 ?_
      refine lv_iconst (v := (1 : Int32)) X.1.1 X.1.2.1 dX3_takes_31 (by decide) ?_
      refine lv_isub X.1.1 X.1.2.1 dX3_takes_32 ?_
      obtain ⟨i_4, hf⟩ := ogd hf
      refine r_iald X hw g_q1 i_4 dX3_takes_33 ?_
      refine lv_icmp_le (tgt := 41) X.1.1 X.1.2.1 dX3_takes_34 (by decide) (fun c_5 => ?_) (fun c_5 => ?_)
      · skip
        rw [if_pos c_5] at hf
        refine lv_iconst (v := (0 : Int32)) X.1.1 X.1.2.1 dX3_takes_41 (by decide) ?_
        cases hf
        exact r_retI X hw hr hlk rfl dX3_takes_42
      · skip
        rw [if_neg c_5] at hf
        refine lv_iconst (v := (1 : Int32)) X.1.1 X.1.2.1 dX3_takes_37 (by decide) ?_
        refine lv_goto (tgt := 42) X.1.1 X.1.2.1 dX3_takes_38 (by decide) ?_
        cases hf
        exact r_retI X hw hr hlk rfl dX3_takes_42
  · skip
    rw [if_neg c_2] at hf
    refine lv_iconst (v := (0 : Int32)) X.1.1 X.1.2.1 dX3_takes_12 (by decide) ?_
    cases hf
    exact r_retI X hw hr hlk rfl dX3_takes_13
/-! X3_add -/
def f_X3_add (h : Hs) (a0 : Nat) (p1 : Int32) (p2 : Int32) (M : Mm) : Option (Int32 × Mm) :=
  gd (ok h a0 3) <|
  Option.bind (
    if (zI M a0 2) < 0 then
      some M
    else
      dq (zR h a0 0) fun q2 =>
      gd (ok h q2 11) <|
      if (Int32.ofNat (zN h q2)) ≤ (zI M a0 2) then
        some M
      else
        dq (zR h a0 1) fun q4 =>
        gd (ok h q4 11) <|
        if (Int32.ofNat (zN h q4)) ≤ (zI M a0 2) then
          some M
        else
          gd (inb (zI M a0 2) (zN h q2)) <|
          lt_ (sI M q2 (zI M a0 2).toNatClampNeg p1) fun M7 =>
          gd (inb (zI M7 a0 2) (zN h q4)) <|
          lt_ (sI M7 q4 (zI M7 a0 2).toNatClampNeg p2) fun M9 =>
          lt_ (sI M9 a0 2 ((zI M9 a0 2) + (1 : Int32))) fun M10 =>
          some M10
    ) fun y11 =>
  some (zI y11 a0 2, y11)
set_option maxHeartbeats 4000000 in
set_option maxRecDepth 100000 in
theorem c_X3_add {l : Launch} {D : va_G} {cy : Nat → ClassId} {h : Hs} {a0 : Nat} {p1 : Int32} {p2 : Int32} {M : Mm} {z : (Int32 × Mm)} (hf : f_X3_add h a0 p1 p2 M = some z) : CtI l D cy yX3_add (wu yX3_add cX3_add 3 (some .int)) ({ frames := 0, cells := 0, slots := 0, locals := 0 }) [.ref a0, .int p1, .int p2] h M z.1 z.2 := by
  refine enterI (cc := cX3_add) (maxL := 3) (ret := (some .int)) (by decide) (Nat.le_of_ble_eq_true rfl) ?_
  intro p e s m args below meth c A ls X hw hr hlk hl
  have hl : lv_has ls 3 [(0, .ref a0), (1, .int p1), (2, .int p2)] := hl
  unfold f_X3_add at hf
  refine lv_aload_n X.1.1 X.1.2.1 dX3_add_0 rfl (lv_at hl 0 rfl) ?_
  obtain ⟨g_a0, hf⟩ := ogd hf
  refine r_geti (k := 3) (j := 2) X hw rfl inX3 g_a0 rfl (by decide) (by decide) uf_X3_18 rfl dX3_add_1 ?_
  obtain ⟨y11, ey11, hf⟩ := obd hf
  have Jy11 : ∀ (H : Heap) (locs : List Loc) (ls : Array Slot), Wd D cy A s.heap h y11 H locs → lv_has ls 3 [(0, .ref a0)] → W p l e ({ frames := 0, cells := 0, slots := 0, locals := 0 } : Room) s m args below meth c H locs 0 0 (QI below D cy A h args s z.1 z.2) (F0 m 61 ls []) := by
    intro H locs ls hw hl
    refine lv_aload_n X.1.1 X.1.2.1 dX3_add_61 rfl (lv_at hl 0 rfl) ?_
    refine r_geti (k := 3) (j := 2) X hw rfl inX3 g_a0 rfl (by decide) (by decide) uf_X3_18 rfl dX3_add_62 ?_
    cases hf
    exact r_retI (v := zI y11 a0 2) X hw hr hlk rfl dX3_add_65
  clear hf
  have hf := ey11
  clear ey11
  refine lv_if_lt (tgt := 61) X.1.1 X.1.2.1 dX3_add_4 (by decide) (fun c_1 => ?_) (fun c_1 => ?_)
  · skip
    rw [if_pos c_1] at hf
    cases hf
    exact Jy11 _ _ _ hw (lv_sub hl [0] rfl)
  · skip
    rw [if_neg c_1] at hf
    refine lv_aload_n X.1.1 X.1.2.1 dX3_add_7 rfl (lv_at hl 0 rfl) ?_
    refine r_geti (k := 3) (j := 2) X hw rfl inX3 g_a0 rfl (by decide) (by decide) uf_X3_18 rfl dX3_add_8 ?_
    refine lv_aload_n X.1.1 X.1.2.1 dX3_add_11 rfl (lv_at hl 0 rfl) ?_
    obtain ⟨q2, eq2, hf⟩ := odq hf
    refine r_getq (k := 3) (j := 0) X hw rfl inX3 g_a0 rfl (by decide) (by decide) uf_X3_9 rfl dX3_add_12 eq2 ?_
    obtain ⟨g_q2, hf⟩ := ogd hf
    refine r_alen X hw g_q2 (by decide) dX3_add_15 ?_
    refine lv_icmp_ge (tgt := 61) X.1.1 X.1.2.1 dX3_add_16 (by decide) (fun c_3 => ?_) (fun c_3 => ?_)
    · skip
      rw [if_pos c_3] at hf
      cases hf
      exact Jy11 _ _ _ hw (lv_sub hl [0] rfl)
    · skip
      rw [if_neg c_3] at hf
      refine lv_aload_n X.1.1 X.1.2.1 dX3_add_19 rfl (lv_at hl 0 rfl) ?_
      refine r_geti (k := 3) (j := 2) X hw rfl inX3 g_a0 rfl (by decide) (by decide) uf_X3_18 rfl dX3_add_20 ?_
      refine lv_aload_n X.1.1 X.1.2.1 dX3_add_23 rfl (lv_at hl 0 rfl) ?_
      obtain ⟨q4, eq4, hf⟩ := odq hf
      refine r_getq (k := 3) (j := 1) X hw rfl inX3 g_a0 rfl (by decide) (by decide) uf_X3_15 rfl dX3_add_24 eq4 ?_
      obtain ⟨g_q4, hf⟩ := ogd hf
      refine r_alen X hw g_q4 (by decide) dX3_add_27 ?_
      refine lv_icmp_ge (tgt := 61) X.1.1 X.1.2.1 dX3_add_28 (by decide) (fun c_5 => ?_) (fun c_5 => ?_)
      · skip
        rw [if_pos c_5] at hf
        cases hf
        exact Jy11 _ _ _ hw (lv_sub hl [0] rfl)
      · skip
        rw [if_neg c_5] at hf
        refine lv_aload_n X.1.1 X.1.2.1 dX3_add_31 rfl (lv_at hl 0 rfl) ?_
        refine r_getq (k := 3) (j := 0) X hw rfl inX3 g_a0 rfl (by decide) (by decide) uf_X3_9 rfl dX3_add_32 eq2 ?_
        refine lv_aload_n X.1.1 X.1.2.1 dX3_add_35 rfl (lv_at hl 0 rfl) ?_
        refine r_geti (k := 3) (j := 2) X hw rfl inX3 g_a0 rfl (by decide) (by decide) uf_X3_18 rfl dX3_add_36 ?_
        refine lv_iload_n X.1.1 X.1.2.1 dX3_add_39 rfl (lv_at hl 1 rfl) ?_
        obtain ⟨i_6, hf⟩ := ogd hf
        refine r_iast X hw g_q2 i_6 dX3_add_40 (fun H locs hw => ?_)
        obtain ⟨M7, eM7, hf⟩ := olt hf
        rw [← eM7] at hw
        refine lv_aload_n X.1.1 X.1.2.1 dX3_add_41 rfl (lv_at hl 0 rfl) ?_
        refine r_getq (k := 3) (j := 1) X hw rfl inX3 g_a0 rfl (by decide) (by decide) uf_X3_15 rfl dX3_add_42 eq4 ?_
        refine lv_aload_n X.1.1 X.1.2.1 dX3_add_45 rfl (lv_at hl 0 rfl) ?_
        refine r_geti (k := 3) (j := 2) X hw rfl inX3 g_a0 rfl (by decide) (by decide) uf_X3_18 rfl dX3_add_46 ?_
        refine lv_iload_n X.1.1 X.1.2.1 dX3_add_49 rfl (lv_at hl 2 rfl) ?_
        obtain ⟨i_8, hf⟩ := ogd hf
        refine r_iast X hw g_q4 i_8 dX3_add_50 (fun H locs hw => ?_)
        obtain ⟨M9, eM9, hf⟩ := olt hf
        rw [← eM9] at hw
        refine lv_aload_n X.1.1 X.1.2.1 dX3_add_51 rfl (lv_at hl 0 rfl) ?_
        refine lv_dup X.1.1 X.1.2.1 dX3_add_52 rfl ?_
        refine r_geti (k := 3) (j := 2) X hw rfl inX3 g_a0 rfl (by decide) (by decide) uf_X3_18 rfl dX3_add_53 ?_
        refine lv_iconst (v := (1 : Int32)) X.1.1 X.1.2.1 dX3_add_56 (by decide) ?_
        refine lv_iadd X.1.1 X.1.2.1 dX3_add_57 ?_
        refine r_puti (k := 3) (j := 2) X hw rfl inX3 tyX3_ok nmX3 g_a0 rfl (by decide) (by decide) uf_X3_18 rfl rfl rfl rfl dX3_add_58 (fun H locs hw => ?_)
        obtain ⟨M10, eM10, hf⟩ := olt hf
        rw [← eM10] at hw
        cases hf
        exact Jy11 _ _ _ hw (lv_sub hl [0] rfl)
/-! X3_copyFrom -/
def lp_X3_copyFrom_10 (h : Hs) (p1 : Nat) (a0 : Nat) : Nat → Int32 → Mm → Option (Int32 × Mm)
  | 0, _, _ => none
  | n + 1, v2, M =>
    if (zI M a0 2) ≤ v2 then
      some (v2, M)
    else
      dq (zR h a0 0) fun q3 =>
      gd (ok h q3 11) <|
      if (Int32.ofNat (zN h q3)) ≤ v2 then
        some (v2, M)
      else
        (f_X3_topAt h p1 v2 M).bind fun z5 =>
        gd (inb v2 (zN h q3)) <|
        lt_ (sI M q3 v2.toNatClampNeg z5) fun M7 =>
        lt_ (v2 + (1 : Int32)) fun x8 =>
        lp_X3_copyFrom_10 h p1 a0 n x8 M7
set_option maxHeartbeats 4000000 in
set_option maxRecDepth 100000 in
theorem wlp_X3_copyFrom_10 {l : Launch} {D : va_G} {cy : Nat → ClassId} {h : Hs} {p1 : Nat} {a0 : Nat} {p : Program} {e : Env} {s : State} {m : MethodId} {args : Array Value} {below : List Frame} {meth : Method} {c : Code} {A : Nat → Prop} (X : Cx p s m args c cX3_copyFrom 3 gtbl RX3 D cy A) {Q : State → Prop} (g_p1 : ok h p1 3) (g_a0 : ok h a0 3) : ∀ (n : Nat) (v2 : Int32) (M : Mm) (z : (Int32 × Mm)) (H : Heap) (locs : List Loc) (ls : Array Slot), lp_X3_copyFrom_10 h p1 a0 n v2 M = some z → Wd D cy A s.heap h M H locs → lv_has ls 3 [(2, .int v2), (0, .ref a0), (1, .ref p1)] → (∀ x : (Int32 × Mm), z = x → ∀ (H : Heap) (locs : List Loc) (ls : Array Slot), Wd D cy A s.heap h x.2 H locs → lv_has ls 3 [(2, .int x.1), (0, .ref a0), (1, .ref p1)] → W p l e ({ frames := 1, cells := 0, slots := 0, locals := 21 } : Room) s m args below meth c H locs 0 0 Q (F0 m 44 ls [])) → W p l e ({ frames := 1, cells := 0, slots := 0, locals := 21 } : Room) s m args below meth c H locs 0 0 Q (F0 m 10 ls []) := by
  intro n
  induction n with
  | zero => intro v2 M z H locs ls hf hw hl kx; exact absurd hf (by intro q; cases q)
  | succ n ih =>
    intro v2 M z H locs ls hf hw hl kx
    unfold lp_X3_copyFrom_10 at hf
    refine lv_iload_n X.1.1 X.1.2.1 dX3_copyFrom_10 rfl (lv_at hl 0 rfl) ?_
    refine lv_aload_n X.1.1 X.1.2.1 dX3_copyFrom_11 rfl (lv_at hl 1 rfl) ?_
    refine r_geti (k := 3) (j := 2) X hw rfl inX3 g_a0 rfl (by decide) (by decide) uf_X3_18 rfl dX3_copyFrom_12 ?_
    refine lv_icmp_ge (tgt := 44) X.1.1 X.1.2.1 dX3_copyFrom_15 (by decide) (fun c_2 => ?_) (fun c_2 => ?_)
    · skip
      rw [if_pos c_2] at hf
      cases hf
      exact kx _ rfl _ _ _ hw (lv_sub hl [0, 1, 2] rfl)
    · skip
      rw [if_neg c_2] at hf
      refine lv_iload_n X.1.1 X.1.2.1 dX3_copyFrom_18 rfl (lv_at hl 0 rfl) ?_
      refine lv_aload_n X.1.1 X.1.2.1 dX3_copyFrom_19 rfl (lv_at hl 1 rfl) ?_
      obtain ⟨q3, eq3, hf⟩ := odq hf
      refine r_getq (k := 3) (j := 0) X hw rfl inX3 g_a0 rfl (by decide) (by decide) uf_X3_9 rfl dX3_copyFrom_20 eq3 ?_
      obtain ⟨g_q3, hf⟩ := ogd hf
      refine r_alen X hw g_q3 (by decide) dX3_copyFrom_23 ?_
      refine lv_icmp_ge (tgt := 44) X.1.1 X.1.2.1 dX3_copyFrom_24 (by decide) (fun c_4 => ?_) (fun c_4 => ?_)
      · skip
        rw [if_pos c_4] at hf
        cases hf
        exact kx _ rfl _ _ _ hw (lv_sub hl [0, 1, 2] rfl)
      · skip
        rw [if_neg c_4] at hf
        refine lv_aload_n X.1.1 X.1.2.1 dX3_copyFrom_27 rfl (lv_at hl 1 rfl) ?_
        refine r_getq (k := 3) (j := 0) X hw rfl inX3 g_a0 rfl (by decide) (by decide) uf_X3_9 rfl dX3_copyFrom_28 eq3 ?_
        refine lv_iload_n X.1.1 X.1.2.1 dX3_copyFrom_31 rfl (lv_at hl 0 rfl) ?_
        refine lv_aload_n X.1.1 X.1.2.1 dX3_copyFrom_32 rfl (lv_at hl 2 rfl) ?_
        refine lv_iload_n X.1.1 X.1.2.1 dX3_copyFrom_33 rfl (lv_at hl 0 rfl) ?_
        obtain ⟨z5, ez5, hf⟩ := obd hf
        refine r_callVI (As := [.int v2]) (rest := [.int v2, .ref q3]) X hw (c_X3_topAt ez5) (cwV 1 X.1.2.2.2.2 (guV um_X3_22 ui_X3_topAt us_X3_topAt un_X3 uo_X3_topAt) rfl rfl rfl (by decide +kernel) ⟨Nat.le_of_ble_eq_true rfl, Nat.le_of_ble_eq_true rfl⟩) g_p1 (by decide) rfl rfl hl.1 rfl (Nat.le_of_ble_eq_true rfl) dX3_copyFrom_34 ⟨Nat.zero_le _, Nat.zero_le _⟩ (fun H locs hw => ?_)
        obtain ⟨i_6, hf⟩ := ogd hf
        refine r_iast X hw g_q3 i_6 dX3_copyFrom_37 (fun H locs hw => ?_)
        obtain ⟨M7, eM7, hf⟩ := olt hf
        rw [← eM7] at hw
        obtain ⟨x8, ex8, hf⟩ := olt hf
        refine lv_iinc (v := x8) (lv' := [(2, .int x8), (0, .ref a0), (1, .ref p1)]) X.1.1 X.1.2.1 dX3_copyFrom_38 hl (k := 0) rfl (by rw [ex8]; rfl) (by decide) rfl (fun ls hl => ?_)
        refine lv_goto (tgt := 10) X.1.1 X.1.2.1 dX3_copyFrom_41 (by decide) ?_
        exact ih _ _ _ _ _ _ hf hw (lv_sub hl [0, 1, 2] rfl) kx
def lp_X3_copyFrom_46 (h : Hs) (p1 : Nat) (a0 : Nat) : Nat → Int32 → Mm → Option (Int32 × Mm)
  | 0, _, _ => none
  | n + 1, v2, M =>
    if (zI M a0 2) ≤ v2 then
      some (v2, M)
    else
      dq (zR h a0 1) fun q11 =>
      gd (ok h q11 11) <|
      if (Int32.ofNat (zN h q11)) ≤ v2 then
        some (v2, M)
      else
        (f_X3_valueAt h p1 v2 M).bind fun z13 =>
        gd (inb v2 (zN h q11)) <|
        lt_ (sI M q11 v2.toNatClampNeg z13) fun M15 =>
        lt_ (v2 + (1 : Int32)) fun x16 =>
        lp_X3_copyFrom_46 h p1 a0 n x16 M15
set_option maxHeartbeats 4000000 in
set_option maxRecDepth 100000 in
theorem wlp_X3_copyFrom_46 {l : Launch} {D : va_G} {cy : Nat → ClassId} {h : Hs} {p1 : Nat} {a0 : Nat} {p : Program} {e : Env} {s : State} {m : MethodId} {args : Array Value} {below : List Frame} {meth : Method} {c : Code} {A : Nat → Prop} (X : Cx p s m args c cX3_copyFrom 3 gtbl RX3 D cy A) {Q : State → Prop} (g_p1 : ok h p1 3) (g_a0 : ok h a0 3) : ∀ (n : Nat) (v2 : Int32) (M : Mm) (z : (Int32 × Mm)) (H : Heap) (locs : List Loc) (ls : Array Slot), lp_X3_copyFrom_46 h p1 a0 n v2 M = some z → Wd D cy A s.heap h M H locs → lv_has ls 3 [(2, .int v2), (0, .ref a0), (1, .ref p1)] → (∀ x : (Int32 × Mm), z = x → ∀ (H : Heap) (locs : List Loc) (ls : Array Slot), Wd D cy A s.heap h x.2 H locs → lv_has ls 3 [(2, .int x.1), (0, .ref a0), (1, .ref p1)] → W p l e ({ frames := 1, cells := 0, slots := 0, locals := 21 } : Room) s m args below meth c H locs 0 0 Q (F0 m 80 ls [])) → W p l e ({ frames := 1, cells := 0, slots := 0, locals := 21 } : Room) s m args below meth c H locs 0 0 Q (F0 m 46 ls []) := by
  intro n
  induction n with
  | zero => intro v2 M z H locs ls hf hw hl kx; exact absurd hf (by intro q; cases q)
  | succ n ih =>
    intro v2 M z H locs ls hf hw hl kx
    unfold lp_X3_copyFrom_46 at hf
    refine lv_iload_n X.1.1 X.1.2.1 dX3_copyFrom_46 rfl (lv_at hl 0 rfl) ?_
    refine lv_aload_n X.1.1 X.1.2.1 dX3_copyFrom_47 rfl (lv_at hl 1 rfl) ?_
    refine r_geti (k := 3) (j := 2) X hw rfl inX3 g_a0 rfl (by decide) (by decide) uf_X3_18 rfl dX3_copyFrom_48 ?_
    refine lv_icmp_ge (tgt := 80) X.1.1 X.1.2.1 dX3_copyFrom_51 (by decide) (fun c_10 => ?_) (fun c_10 => ?_)
    · skip
      rw [if_pos c_10] at hf
      cases hf
      exact kx _ rfl _ _ _ hw (lv_sub hl [0, 1, 2] rfl)
    · skip
      rw [if_neg c_10] at hf
      refine lv_iload_n X.1.1 X.1.2.1 dX3_copyFrom_54 rfl (lv_at hl 0 rfl) ?_
      refine lv_aload_n X.1.1 X.1.2.1 dX3_copyFrom_55 rfl (lv_at hl 1 rfl) ?_
      obtain ⟨q11, eq11, hf⟩ := odq hf
      refine r_getq (k := 3) (j := 1) X hw rfl inX3 g_a0 rfl (by decide) (by decide) uf_X3_15 rfl dX3_copyFrom_56 eq11 ?_
      obtain ⟨g_q11, hf⟩ := ogd hf
      refine r_alen X hw g_q11 (by decide) dX3_copyFrom_59 ?_
      refine lv_icmp_ge (tgt := 80) X.1.1 X.1.2.1 dX3_copyFrom_60 (by decide) (fun c_12 => ?_) (fun c_12 => ?_)
      · skip
        rw [if_pos c_12] at hf
        cases hf
        exact kx _ rfl _ _ _ hw (lv_sub hl [0, 1, 2] rfl)
      · skip
        rw [if_neg c_12] at hf
        refine lv_aload_n X.1.1 X.1.2.1 dX3_copyFrom_63 rfl (lv_at hl 1 rfl) ?_
        refine r_getq (k := 3) (j := 1) X hw rfl inX3 g_a0 rfl (by decide) (by decide) uf_X3_15 rfl dX3_copyFrom_64 eq11 ?_
        refine lv_iload_n X.1.1 X.1.2.1 dX3_copyFrom_67 rfl (lv_at hl 0 rfl) ?_
        refine lv_aload_n X.1.1 X.1.2.1 dX3_copyFrom_68 rfl (lv_at hl 2 rfl) ?_
        refine lv_iload_n X.1.1 X.1.2.1 dX3_copyFrom_69 rfl (lv_at hl 0 rfl) ?_
        obtain ⟨z13, ez13, hf⟩ := obd hf
        refine r_callVI (As := [.int v2]) (rest := [.int v2, .ref q11]) X hw (c_X3_valueAt ez13) (cwV 1 X.1.2.2.2.2 (guV um_X3_26 ui_X3_valueAt us_X3_valueAt un_X3 uo_X3_valueAt) rfl rfl rfl (by decide +kernel) ⟨Nat.le_of_ble_eq_true rfl, Nat.le_of_ble_eq_true rfl⟩) g_p1 (by decide) rfl rfl hl.1 rfl (Nat.le_of_ble_eq_true rfl) dX3_copyFrom_70 ⟨Nat.zero_le _, Nat.zero_le _⟩ (fun H locs hw => ?_)
        obtain ⟨i_14, hf⟩ := ogd hf
        refine r_iast X hw g_q11 i_14 dX3_copyFrom_73 (fun H locs hw => ?_)
        obtain ⟨M15, eM15, hf⟩ := olt hf
        rw [← eM15] at hw
        obtain ⟨x16, ex16, hf⟩ := olt hf
        refine lv_iinc (v := x16) (lv' := [(2, .int x16), (0, .ref a0), (1, .ref p1)]) X.1.1 X.1.2.1 dX3_copyFrom_74 hl (k := 0) rfl (by rw [ex16]; rfl) (by decide) rfl (fun ls hl => ?_)
        refine lv_goto (tgt := 46) X.1.1 X.1.2.1 dX3_copyFrom_77 (by decide) ?_
        exact ih _ _ _ _ _ _ hf hw (lv_sub hl [0, 1, 2] rfl) kx
def f_X3_copyFrom (h : Hs) (a0 : Nat) (p1 : Nat) (M : Mm) : Option Mm :=
  gd (ok h p1 3) <|
  gd (ok h a0 3) <|
  lt_ (sI M a0 2 (zI M p1 2)) fun M1 =>
  (lp_X3_copyFrom_10 h p1 a0 fuel (0 : Int32) M1).bind fun z9 =>
  (lp_X3_copyFrom_46 h p1 a0 fuel (0 : Int32) z9.2).bind fun z17 =>
  some z17.2
set_option maxHeartbeats 4000000 in
set_option maxRecDepth 100000 in
theorem c_X3_copyFrom {l : Launch} {D : va_G} {cy : Nat → ClassId} {h : Hs} {a0 : Nat} {p1 : Nat} {M : Mm} {z : Mm} (hf : f_X3_copyFrom h a0 p1 M = some z) : CtV l D cy yX3_copyFrom (wu yX3_copyFrom cX3_copyFrom 3 none) ({ frames := 1, cells := 0, slots := 0, locals := 21 }) [.ref a0, .ref p1] h M z := by
  refine enterV (cc := cX3_copyFrom) (maxL := 3) (ret := none) (by decide) (Nat.le_of_ble_eq_true rfl) ?_
  intro p e s m args below meth c A ls X hw hr hlk hl
  have hl : lv_has ls 3 [(0, .ref a0), (1, .ref p1)] := hl
  unfold f_X3_copyFrom at hf
  refine lv_aload_n X.1.1 X.1.2.1 dX3_copyFrom_0 rfl (lv_at hl 0 rfl) ?_
  refine lv_aload_n X.1.1 X.1.2.1 dX3_copyFrom_1 rfl (lv_at hl 1 rfl) ?_
  obtain ⟨g_p1, hf⟩ := ogd hf
  refine r_geti (k := 3) (j := 2) X hw rfl inX3 g_p1 rfl (by decide) (by decide) uf_X3_18 rfl dX3_copyFrom_2 ?_
  obtain ⟨g_a0, hf⟩ := ogd hf
  refine r_puti (k := 3) (j := 2) X hw rfl inX3 tyX3_ok nmX3 g_a0 rfl (by decide) (by decide) uf_X3_18 rfl rfl rfl rfl dX3_copyFrom_5 (fun H locs hw => ?_)
  obtain ⟨M1, eM1, hf⟩ := olt hf
  rw [← eM1] at hw
  refine lv_iconst (v := (0 : Int32)) X.1.1 X.1.2.1 dX3_copyFrom_8 (by decide) ?_
  refine lv_istore_n (lv' := [(2, .int (0 : Int32)), (0, .ref a0), (1, .ref p1)]) X.1.1 X.1.2.1 dX3_copyFrom_9 rfl hl (by decide) rfl (fun ls hl => ?_)
  obtain ⟨z9, ez9, hf⟩ := obd hf
  refine wlp_X3_copyFrom_10 X g_p1 g_a0 fuel _ _ _ _ _ _ ez9 hw (lv_sub hl [0, 1, 2] rfl) (fun x ex H locs ls hw hl => ?_)
  subst ex
  refine lv_iconst (v := (0 : Int32)) X.1.1 X.1.2.1 dX3_copyFrom_44 (by decide) ?_
  refine lv_istore_n (lv' := [(2, .int (0 : Int32)), (0, .ref a0), (1, .ref p1)]) X.1.1 X.1.2.1 dX3_copyFrom_45 rfl hl (by decide) rfl (fun ls hl => ?_)
  obtain ⟨z17, ez17, hf⟩ := obd hf
  refine wlp_X3_copyFrom_46 X g_p1 g_a0 fuel _ _ _ _ _ _ ez17 hw (lv_sub hl [0, 1, 2] rfl) (fun x ex H locs ls hw hl => ?_)
  subst ex
  cases hf
  exact r_retV X hw hr hlk dX3_copyFrom_80
/-! X8_isWithin -/
def f_X8_isWithin (h : Hs) (p1 : Int64) (p2 : Int32) (p3 : Int32) (M : Mm) : Option Int32 :=
  if p1 < p2.toInt64 then
    some (0 : Int32)
  else
    if p3.toInt64 < p1 then
      some (0 : Int32)
    else
      some (1 : Int32)
set_option maxHeartbeats 4000000 in
set_option maxRecDepth 100000 in
theorem c_X8_isWithin {l : Launch} {D : va_G} {cy : Nat → ClassId} {h : Hs} {p1 : Int64} {p2 : Int32} {p3 : Int32} {M : Mm} {z : Int32} (hf : f_X8_isWithin h p1 p2 p3 M = some z) : CtI l D cy yX8_isWithin (wu yX8_isWithin cX8_isWithin 4 (some .boolean)) ({ frames := 0, cells := 0, slots := 0, locals := 0 }) [.long p1, .int p2, .int p3] h M z M := by
  refine enterI (cc := cX8_isWithin) (maxL := 4) (ret := (some .boolean)) (by decide) (Nat.le_of_ble_eq_true rfl) ?_
  intro p e s m args below meth c A ls X hw hr hlk hl
  have hl : lv_has ls 4 [(0, .long p1), (2, .int p2), (3, .int p3)] := hl
  unfold f_X8_isWithin at hf
  refine lv_lload_n X.1.1 X.1.2.1 dX8_isWithin_0 rfl (lv_at hl 0 rfl) ?_
  refine lv_iload_n X.1.1 X.1.2.1 dX8_isWithin_1 rfl (lv_at hl 1 rfl) ?_
  refine lv_i2l X.1.1 X.1.2.1 dX8_isWithin_2 rfl ?_
  refine W.lcmp X.1.1 X.1.2.1 dX8_isWithin_3 ?_
  refine lv_if_lt (tgt := 18) X.1.1 X.1.2.1 dX8_isWithin_4 (by decide) (fun c_1 => ?_) (fun c_1 => ?_)
  · skip
    rw [lg_cmp_lt] at c_1
    rw [if_pos c_1] at hf
    refine lv_iconst (v := (0 : Int32)) X.1.1 X.1.2.1 dX8_isWithin_18 (by decide) ?_
    cases hf
    exact r_retI X hw hr hlk rfl dX8_isWithin_19
  · skip
    rw [lg_cmp_lt] at c_1
    rw [if_neg c_1] at hf
    refine lv_lload_n X.1.1 X.1.2.1 dX8_isWithin_7 rfl (lv_at hl 0 rfl) ?_
    refine lv_iload_n X.1.1 X.1.2.1 dX8_isWithin_8 rfl (lv_at hl 2 rfl) ?_
    refine lv_i2l X.1.1 X.1.2.1 dX8_isWithin_9 rfl ?_
    refine W.lcmp X.1.1 X.1.2.1 dX8_isWithin_10 ?_
    refine lv_if_gt (tgt := 18) X.1.1 X.1.2.1 dX8_isWithin_11 (by decide) (fun c_2 => ?_) (fun c_2 => ?_)
    · skip
      rw [lg_cmp_gt] at c_2
      rw [if_pos c_2] at hf
      refine lv_iconst (v := (0 : Int32)) X.1.1 X.1.2.1 dX8_isWithin_18 (by decide) ?_
      cases hf
      exact r_retI X hw hr hlk rfl dX8_isWithin_19
    · skip
      rw [lg_cmp_gt] at c_2
      rw [if_neg c_2] at hf
      refine lv_iconst (v := (1 : Int32)) X.1.1 X.1.2.1 dX8_isWithin_14 (by decide) ?_
      refine lv_goto (tgt := 19) X.1.1 X.1.2.1 dX8_isWithin_15 (by decide) ?_
      cases hf
      exact r_retI X hw hr hlk rfl dX8_isWithin_19
/-! X8_firstDayWith -/
def f_X8_firstDayWith (h : Hs) (p1 : Int64) (p2 : Int32) (M : Mm) : Option Int64 :=
  if (1 : Int32) ≤ p2 then
    gd (¬ p2.toInt64 = 0) <|
    some (((p1 + p2.toInt64) - (1 : Int64)) / p2.toInt64)
  else
    some (0 : Int64)
set_option maxHeartbeats 4000000 in
set_option maxRecDepth 100000 in
theorem c_X8_firstDayWith {l : Launch} {D : va_G} {cy : Nat → ClassId} {h : Hs} {p1 : Int64} {p2 : Int32} {M : Mm} {z : Int64} (hf : f_X8_firstDayWith h p1 p2 M = some z) : CtL l D cy yX8_firstDayWith (wu yX8_firstDayWith cX8_firstDayWith 3 (some .long)) ({ frames := 0, cells := 0, slots := 0, locals := 0 }) [.long p1, .int p2] h M z M := by
  refine enterL (cc := cX8_firstDayWith) (maxL := 3) (ret := (some .long)) (by decide) (Nat.le_of_ble_eq_true rfl) ?_
  intro p e s m args below meth c A ls X hw hr hlk hl
  have hl : lv_has ls 3 [(0, .long p1), (2, .int p2)] := hl
  unfold f_X8_firstDayWith at hf
  refine lv_iload_n X.1.1 X.1.2.1 dX8_firstDayWith_0 rfl (lv_at hl 1 rfl) ?_
  refine lv_iconst (v := (1 : Int32)) X.1.1 X.1.2.1 dX8_firstDayWith_1 (by decide) ?_
  refine lv_icmp_ge (tgt := 9) X.1.1 X.1.2.1 dX8_firstDayWith_2 (by decide) (fun c_1 => ?_) (fun c_1 => ?_)
  · skip
    rw [if_pos c_1] at hf
    refine lv_lload_n X.1.1 X.1.2.1 dX8_firstDayWith_9 rfl (lv_at hl 0 rfl) ?_
    refine lv_iload_n X.1.1 X.1.2.1 dX8_firstDayWith_10 rfl (lv_at hl 1 rfl) ?_
    refine lv_i2l X.1.1 X.1.2.1 dX8_firstDayWith_11 rfl ?_
    refine lv_ladd X.1.1 X.1.2.1 dX8_firstDayWith_12 ?_
    refine lv_lconst (v := (1 : Int64)) X.1.1 X.1.2.1 dX8_firstDayWith_13 (by decide) ?_
    refine lv_lsub X.1.1 X.1.2.1 dX8_firstDayWith_14 ?_
    refine lv_iload_n X.1.1 X.1.2.1 dX8_firstDayWith_15 rfl (lv_at hl 1 rfl) ?_
    refine lv_i2l X.1.1 X.1.2.1 dX8_firstDayWith_16 rfl ?_
    obtain ⟨n_2, hf⟩ := ogd hf
    refine lv_ldiv X.1.1 X.1.2.1 dX8_firstDayWith_17 n_2 ?_
    cases hf
    exact r_retL X hw hr hlk dX8_firstDayWith_18
  · skip
    rw [if_neg c_1] at hf
    refine lv_lconst (v := (0 : Int64)) X.1.1 X.1.2.1 dX8_firstDayWith_5 (by decide) ?_
    refine lv_goto (tgt := 18) X.1.1 X.1.2.1 dX8_firstDayWith_6 (by decide) ?_
    cases hf
    exact r_retL X hw hr hlk dX8_firstDayWith_18
/-! X8_isBearsAsTold -/
def f_X8_isBearsAsTold (h : Hs) (p1 : Int32) (M : Mm) : Option Int32 :=
  if p1 < (1 : Int32) then
    some (0 : Int32)
  else
    if (10000000 : Int32) < p1 then
      some (0 : Int32)
    else
      gd (¬ p1.toInt64 = 0) <|
      if ¬ ((720720000000 : Int64) - (720720000000 : Int64) / p1.toInt64 * p1.toInt64) = (0 : Int64) then
        some (0 : Int32)
      else
        some (1 : Int32)
set_option maxHeartbeats 4000000 in
set_option maxRecDepth 100000 in
theorem c_X8_isBearsAsTold {l : Launch} {D : va_G} {cy : Nat → ClassId} {h : Hs} {p1 : Int32} {M : Mm} {z : Int32} (hf : f_X8_isBearsAsTold h p1 M = some z) : CtI l D cy yX8_isBearsAsTold (wu yX8_isBearsAsTold cX8_isBearsAsTold 1 (some .boolean)) ({ frames := 0, cells := 0, slots := 0, locals := 0 }) [.int p1] h M z M := by
  refine enterI (cc := cX8_isBearsAsTold) (maxL := 1) (ret := (some .boolean)) (by decide) (Nat.le_of_ble_eq_true rfl) ?_
  intro p e s m args below meth c A ls X hw hr hlk hl
  have hl : lv_has ls 1 [(0, .int p1)] := hl
  unfold f_X8_isBearsAsTold at hf
  refine lv_iload_n X.1.1 X.1.2.1 dX8_isBearsAsTold_0 rfl (lv_at hl 0 rfl) ?_
  refine lv_iconst (v := (1 : Int32)) X.1.1 X.1.2.1 dX8_isBearsAsTold_1 (by decide) ?_
  refine lv_icmp_lt (tgt := 27) X.1.1 X.1.2.1 dX8_isBearsAsTold_2 (by decide) (fun c_1 => ?_) (fun c_1 => ?_)
  · skip
    rw [if_pos c_1] at hf
    refine lv_iconst (v := (0 : Int32)) X.1.1 X.1.2.1 dX8_isBearsAsTold_27 (by decide) ?_
    cases hf
    exact r_retI X hw hr hlk rfl dX8_isBearsAsTold_28
  · skip
    rw [if_neg c_1] at hf
    refine lv_iload_n X.1.1 X.1.2.1 dX8_isBearsAsTold_5 rfl (lv_at hl 0 rfl) ?_
    refine lv_ldcw (v := (10000000 : Int32)) X.1.1 X.1.2.1 X.1.2.2.2.1 (X.1.2.2.2.2 _ uc_X8_303) dX8_isBearsAsTold_6 ?_
    refine lv_icmp_gt (tgt := 27) X.1.1 X.1.2.1 dX8_isBearsAsTold_9 (by decide) (fun c_2 => ?_) (fun c_2 => ?_)
    · skip
      rw [if_pos c_2] at hf
      refine lv_iconst (v := (0 : Int32)) X.1.1 X.1.2.1 dX8_isBearsAsTold_27 (by decide) ?_
      cases hf
      exact r_retI X hw hr hlk rfl dX8_isBearsAsTold_28
    · skip
      rw [if_neg c_2] at hf
      refine lv_ldc2 (v := (720720000000 : Int64)) X.1.1 X.1.2.1 X.1.2.2.2.1 (X.1.2.2.2.2 _ uk_X8_304) dX8_isBearsAsTold_12 ?_
      refine lv_iload_n X.1.1 X.1.2.1 dX8_isBearsAsTold_15 rfl (lv_at hl 0 rfl) ?_
      refine lv_i2l X.1.1 X.1.2.1 dX8_isBearsAsTold_16 rfl ?_
      obtain ⟨n_3, hf⟩ := ogd hf
      refine lv_lrem X.1.1 X.1.2.1 dX8_isBearsAsTold_17 n_3 ?_
      refine lv_lconst (v := (0 : Int64)) X.1.1 X.1.2.1 dX8_isBearsAsTold_18 (by decide) ?_
      refine W.lcmp X.1.1 X.1.2.1 dX8_isBearsAsTold_19 ?_
      refine lv_if_ne (tgt := 27) X.1.1 X.1.2.1 dX8_isBearsAsTold_20 (by decide) (fun c_4 => ?_) (fun c_4 => ?_)
      · skip
        rw [lg_cmp_eq] at c_4
        rw [if_pos c_4] at hf
        refine lv_iconst (v := (0 : Int32)) X.1.1 X.1.2.1 dX8_isBearsAsTold_27 (by decide) ?_
        cases hf
        exact r_retI X hw hr hlk rfl dX8_isBearsAsTold_28
      · skip
        rw [lg_cmp_eq] at c_4
        rw [if_neg (fun z => z c_4)] at hf
        refine lv_iconst (v := (1 : Int32)) X.1.1 X.1.2.1 dX8_isBearsAsTold_23 (by decide) ?_
        refine lv_goto (tgt := 28) X.1.1 X.1.2.1 dX8_isBearsAsTold_24 (by decide) ?_
        cases hf
        exact r_retI X hw hr hlk rfl dX8_isBearsAsTold_28
/-! X8_greatestCommonDivisor -/
def lp_X8_greatestCommonDivisor_9 (h : Hs) (M : Mm) : Nat → Int64 → Int64 → Int32 → Option (Int64 × Int64 × Int32)
  | 0, _, _, _ => none
  | n + 1, v4, v6, v8 =>
    if (200 : Int32) ≤ v8 then
      some (v4, v6, v8)
    else
      if v6 = (0 : Int64) then
        some (v4, v6, v8)
      else
        gd (¬ v6 = 0) <|
        lt_ (v4 - v4 / v6 * v6) fun x4 =>
        lt_ (v8 + (1 : Int32)) fun x5 =>
        lp_X8_greatestCommonDivisor_9 h M n v6 x4 x5
set_option maxHeartbeats 4000000 in
set_option maxRecDepth 100000 in
theorem wlp_X8_greatestCommonDivisor_9 {l : Launch} {D : va_G} {cy : Nat → ClassId} {h : Hs} {M : Mm} {p : Program} {e : Env} {s : State} {m : MethodId} {args : Array Value} {below : List Frame} {meth : Method} {c : Code} {A : Nat → Prop} (X : Cx p s m args c cX8_greatestCommonDivisor 11 gtbl RX8 D cy A) {Q : State → Prop} : ∀ (n : Nat) (v4 : Int64) (v6 : Int64) (v8 : Int32) (z : (Int64 × Int64 × Int32)) (H : Heap) (locs : List Loc) (ls : Array Slot), lp_X8_greatestCommonDivisor_9 h M n v4 v6 v8 = some z → Wd D cy A s.heap h M H locs → lv_has ls 11 [(4, .long v4), (6, .long v6), (8, .int v8)] → (∀ x : (Int64 × Int64 × Int32), z = x → ∀ (H : Heap) (locs : List Loc) (ls : Array Slot), Wd D cy A s.heap h M H locs → lv_has ls 11 [(4, .long x.1), (6, .long x.2.1), (8, .int x.2.2)] → W p l e ({ frames := 0, cells := 0, slots := 0, locals := 0 } : Room) s m args below meth c H locs 0 0 Q (F0 m 45 ls [])) → W p l e ({ frames := 0, cells := 0, slots := 0, locals := 0 } : Room) s m args below meth c H locs 0 0 Q (F0 m 9 ls []) := by
  intro n
  induction n with
  | zero => intro v4 v6 v8 z H locs ls hf hw hl kx; exact absurd hf (by intro q; cases q)
  | succ n ih =>
    intro v4 v6 v8 z H locs ls hf hw hl kx
    unfold lp_X8_greatestCommonDivisor_9 at hf
    refine lv_iload X.1.1 X.1.2.1 dX8_greatestCommonDivisor_9 (lv_at hl 2 rfl) ?_
    refine lv_sipush (v := (200 : Int32)) X.1.1 X.1.2.1 dX8_greatestCommonDivisor_11 (by decide) ?_
    refine lv_icmp_ge (tgt := 45) X.1.1 X.1.2.1 dX8_greatestCommonDivisor_14 (by decide) (fun c_1 => ?_) (fun c_1 => ?_)
    · skip
      rw [if_pos c_1] at hf
      cases hf
      exact kx _ rfl _ _ _ hw (lv_sub hl [0, 1, 2] rfl)
    · skip
      rw [if_neg c_1] at hf
      refine lv_lload X.1.1 X.1.2.1 dX8_greatestCommonDivisor_17 (lv_at hl 1 rfl) ?_
      refine lv_lconst (v := (0 : Int64)) X.1.1 X.1.2.1 dX8_greatestCommonDivisor_19 (by decide) ?_
      refine W.lcmp X.1.1 X.1.2.1 dX8_greatestCommonDivisor_20 ?_
      refine lv_if_eq (tgt := 45) X.1.1 X.1.2.1 dX8_greatestCommonDivisor_21 (by decide) (fun c_2 => ?_) (fun c_2 => ?_)
      · skip
        rw [lg_cmp_eq] at c_2
        rw [if_pos c_2] at hf
        cases hf
        exact kx _ rfl _ _ _ hw (lv_sub hl [0, 1, 2] rfl)
      · skip
        rw [lg_cmp_eq] at c_2
        rw [if_neg c_2] at hf
        refine lv_lload X.1.1 X.1.2.1 dX8_greatestCommonDivisor_24 (lv_at hl 0 rfl) ?_
        refine lv_lload X.1.1 X.1.2.1 dX8_greatestCommonDivisor_26 (lv_at hl 1 rfl) ?_
        obtain ⟨n_3, hf⟩ := ogd hf
        refine lv_lrem X.1.1 X.1.2.1 dX8_greatestCommonDivisor_28 n_3 ?_
        refine lv_topl (fun x4 ex4 => ?_)
        have hf := oltE ex4 hf
        refine lv_lstore (lv' := [(9, .long x4), (4, .long v4), (6, .long v6), (8, .int v8)]) X.1.1 X.1.2.1 dX8_greatestCommonDivisor_29 hl (by decide) rfl (fun ls hl => ?_)
        refine lv_lload X.1.1 X.1.2.1 dX8_greatestCommonDivisor_31 (lv_at hl 2 rfl) ?_
        refine lv_lstore (lv' := [(4, .long v6), (9, .long x4), (6, .long v6), (8, .int v8)]) X.1.1 X.1.2.1 dX8_greatestCommonDivisor_33 hl (by decide) rfl (fun ls hl => ?_)
        refine lv_lload X.1.1 X.1.2.1 dX8_greatestCommonDivisor_35 (lv_at hl 1 rfl) ?_
        refine lv_lstore (lv' := [(6, .long x4), (4, .long v6), (9, .long x4), (8, .int v8)]) X.1.1 X.1.2.1 dX8_greatestCommonDivisor_37 hl (by decide) rfl (fun ls hl => ?_)
        obtain ⟨x5, ex5, hf⟩ := olt hf
        refine lv_iinc (v := x5) (lv' := [(8, .int x5), (6, .long x4), (4, .long v6), (9, .long x4)]) X.1.1 X.1.2.1 dX8_greatestCommonDivisor_39 hl (k := 3) rfl (by rw [ex5]; rfl) (by decide) rfl (fun ls hl => ?_)
        refine lv_goto (tgt := 9) X.1.1 X.1.2.1 dX8_greatestCommonDivisor_42 (by decide) ?_
        exact ih _ _ _ _ _ _ _ hf hw (lv_sub hl [2, 1, 0] rfl) kx
def f_X8_greatestCommonDivisor (h : Hs) (p1 : Int64) (p2 : Int64) (M : Mm) : Option Int64 :=
  (lp_X8_greatestCommonDivisor_9 h M fuel p1 p2 (0 : Int32)).bind fun z6 =>
  some z6.1
set_option maxHeartbeats 4000000 in
set_option maxRecDepth 100000 in
theorem c_X8_greatestCommonDivisor {l : Launch} {D : va_G} {cy : Nat → ClassId} {h : Hs} {p1 : Int64} {p2 : Int64} {M : Mm} {z : Int64} (hf : f_X8_greatestCommonDivisor h p1 p2 M = some z) : CtL l D cy yX8_greatestCommonDivisor (wu yX8_greatestCommonDivisor cX8_greatestCommonDivisor 11 (some .long)) ({ frames := 0, cells := 0, slots := 0, locals := 0 }) [.long p1, .long p2] h M z M := by
  refine enterL (cc := cX8_greatestCommonDivisor) (maxL := 11) (ret := (some .long)) (by decide) (Nat.le_of_ble_eq_true rfl) ?_
  intro p e s m args below meth c A ls X hw hr hlk hl
  have hl : lv_has ls 11 [(0, .long p1), (2, .long p2)] := hl
  unfold f_X8_greatestCommonDivisor at hf
  refine lv_lload_n X.1.1 X.1.2.1 dX8_greatestCommonDivisor_0 rfl (lv_at hl 0 rfl) ?_
  refine lv_lstore (lv' := [(4, .long p1), (0, .long p1), (2, .long p2)]) X.1.1 X.1.2.1 dX8_greatestCommonDivisor_1 hl (by decide) rfl (fun ls hl => ?_)
  refine lv_lload_n X.1.1 X.1.2.1 dX8_greatestCommonDivisor_3 rfl (lv_at hl 2 rfl) ?_
  refine lv_lstore (lv' := [(6, .long p2), (4, .long p1), (0, .long p1), (2, .long p2)]) X.1.1 X.1.2.1 dX8_greatestCommonDivisor_4 hl (by decide) rfl (fun ls hl => ?_)
  refine lv_iconst (v := (0 : Int32)) X.1.1 X.1.2.1 dX8_greatestCommonDivisor_6 (by decide) ?_
  refine lv_istore (lv' := [(8, .int (0 : Int32)), (6, .long p2), (4, .long p1), (0, .long p1), (2, .long p2)]) X.1.1 X.1.2.1 dX8_greatestCommonDivisor_7 hl (by decide) rfl (fun ls hl => ?_)
  obtain ⟨z6, ez6, hf⟩ := obd hf
  refine wlp_X8_greatestCommonDivisor_9 X fuel _ _ _ _ _ _ _ ez6 hw (lv_sub hl [2, 1, 0] rfl) (fun x ex H locs ls hw hl => ?_)
  subst ex
  refine lv_lload X.1.1 X.1.2.1 dX8_greatestCommonDivisor_45 (lv_at hl 0 rfl) ?_
  cases hf
  exact r_retL X hw hr hlk dX8_greatestCommonDivisor_47
/-! X8_isGaugeAsTold -/
def f_X8_isGaugeAsTold (h : Hs) (p1 : Int32) (p2 : Int32) (p3 : Int32) (M : Mm) : Option Int32 :=
  if p1 = (1 : Int32) then
    (f_X8_isWithin h p2.toInt64 (1 : Int32) (100000 : Int32) M).bind fun z2 =>
    gd (z2 = 0 ∨ z2 = 1) <|
    some z2
  else
    if p1 = (3 : Int32) then
      if p2 < 0 then
        some (0 : Int32)
      else
        if p3 < p2 then
          some (0 : Int32)
        else
          if (400 : Int32) ≤ p3 then
            some (0 : Int32)
          else
            some (1 : Int32)
    else
      if p1 = (4 : Int32) then
        (f_X8_isWithin h p2.toInt64 (0 : Int32) (11 : Int32) M).bind fun z9 =>
        if z9 = 0 then
          some (0 : Int32)
        else
          (f_X8_isWithin h p3.toInt64 (0 : Int32) (11 : Int32) M).bind fun z11 =>
          if z11 = 0 then
            some (0 : Int32)
          else
            some (1 : Int32)
      else
        if p1 < 0 then
          some (0 : Int32)
        else
          if (4 : Int32) < p1 then
            some (0 : Int32)
          else
            some (1 : Int32)
set_option maxHeartbeats 4000000 in
set_option maxRecDepth 100000 in
theorem c_X8_isGaugeAsTold {l : Launch} {D : va_G} {cy : Nat → ClassId} {h : Hs} {p1 : Int32} {p2 : Int32} {p3 : Int32} {M : Mm} {z : Int32} (hf : f_X8_isGaugeAsTold h p1 p2 p3 M = some z) : CtI l D cy yX8_isGaugeAsTold (wu yX8_isGaugeAsTold cX8_isGaugeAsTold 3 (some .boolean)) ({ frames := 1, cells := 0, slots := 0, locals := 23 }) [.int p1, .int p2, .int p3] h M z M := by
  refine enterI (cc := cX8_isGaugeAsTold) (maxL := 3) (ret := (some .boolean)) (by decide) (Nat.le_of_ble_eq_true rfl) ?_
  intro p e s m args below meth c A ls X hw hr hlk hl
  have hl : lv_has ls 3 [(0, .int p1), (1, .int p2), (2, .int p3)] := hl
  unfold f_X8_isGaugeAsTold at hf
  refine lv_iload_n X.1.1 X.1.2.1 dX8_isGaugeAsTold_0 rfl (lv_at hl 0 rfl) ?_
  by_cases c_1 : p1 = (1 : Int32)
  · rw [if_pos c_1] at hf
    refine lv_tableIn (off := 31) (tgt := 32) X.1.1 X.1.2.1 dX8_isGaugeAsTold_1 (by rw [c_1]; decide) (by rw [c_1]; decide) (by rw [c_1]; decide) (by decide) ?_
    refine lv_iload_n X.1.1 X.1.2.1 dX8_isGaugeAsTold_32 rfl (lv_at hl 1 rfl) ?_
    refine lv_i2l X.1.1 X.1.2.1 dX8_isGaugeAsTold_33 rfl ?_
    refine lv_iconst (v := (1 : Int32)) X.1.1 X.1.2.1 dX8_isGaugeAsTold_34 (by decide) ?_
    refine lv_ldcw (v := (100000 : Int32)) X.1.1 X.1.2.1 X.1.2.2.2.1 (X.1.2.2.2.2 _ uc_X8_259) dX8_isGaugeAsTold_35 ?_
    obtain ⟨z2, ez2, hf⟩ := obd hf
    refine r_callSI (As := [.long p2.toInt64, .int (1 : Int32), .int (100000 : Int32)]) (rest := []) X hw (c_X8_isWithin ez2) (va_cwS 3 X.1.2.2.2.2 (guS um_X8_110 ut_X8_isWithin un_X8 uo_X8_isWithin) rfl rfl rfl (by decide +kernel) ⟨Nat.le_of_ble_eq_true rfl, Nat.le_of_ble_eq_true rfl⟩) rfl hl.1 rfl (Nat.le_of_ble_eq_true rfl) dX8_isGaugeAsTold_38 ⟨Nat.zero_le _, Nat.zero_le _⟩ (fun H locs hw => ?_)
    obtain ⟨b_3, hf⟩ := ogd hf
    cases hf
    exact r_retI X hw hr hlk (narZ b_3) dX8_isGaugeAsTold_41
  · rw [if_neg c_1] at hf
    by_cases c_4 : p1 = (3 : Int32)
    · rw [if_pos c_4] at hf
      refine lv_tableIn (off := 41) (tgt := 42) X.1.1 X.1.2.1 dX8_isGaugeAsTold_1 (by rw [c_4]; decide) (by rw [c_4]; decide) (by rw [c_4]; decide) (by decide) ?_
      refine lv_iload_n X.1.1 X.1.2.1 dX8_isGaugeAsTold_42 rfl (lv_at hl 1 rfl) ?_
      refine lv_if_lt (tgt := 62) X.1.1 X.1.2.1 dX8_isGaugeAsTold_43 (by decide) (fun c_5 => ?_) (fun c_5 => ?_)
      · skip
        rw [if_pos c_5] at hf
        refine lv_iconst (v := (0 : Int32)) X.1.1 X.1.2.1 dX8_isGaugeAsTold_62 (by decide) ?_
        cases hf
        exact r_retI X hw hr hlk rfl dX8_isGaugeAsTold_63
      · skip
        rw [if_neg c_5] at hf
        refine lv_iload_n X.1.1 X.1.2.1 dX8_isGaugeAsTold_46 rfl (lv_at hl 1 rfl) ?_
        refine lv_iload_n X.1.1 X.1.2.1 dX8_isGaugeAsTold_47 rfl (lv_at hl 2 rfl) ?_
        refine lv_icmp_gt (tgt := 62) X.1.1 X.1.2.1 dX8_isGaugeAsTold_48 (by decide) (fun c_6 => ?_) (fun c_6 => ?_)
        · skip
          rw [if_pos c_6] at hf
          refine lv_iconst (v := (0 : Int32)) X.1.1 X.1.2.1 dX8_isGaugeAsTold_62 (by decide) ?_
          cases hf
          exact r_retI X hw hr hlk rfl dX8_isGaugeAsTold_63
        · skip
          rw [if_neg c_6] at hf
          refine lv_iload_n X.1.1 X.1.2.1 dX8_isGaugeAsTold_51 rfl (lv_at hl 2 rfl) ?_
          refine lv_sipush (v := (400 : Int32)) X.1.1 X.1.2.1 dX8_isGaugeAsTold_52 (by decide) ?_
          refine lv_icmp_ge (tgt := 62) X.1.1 X.1.2.1 dX8_isGaugeAsTold_55 (by decide) (fun c_7 => ?_) (fun c_7 => ?_)
          · skip
            rw [if_pos c_7] at hf
            refine lv_iconst (v := (0 : Int32)) X.1.1 X.1.2.1 dX8_isGaugeAsTold_62 (by decide) ?_
            cases hf
            exact r_retI X hw hr hlk rfl dX8_isGaugeAsTold_63
          · skip
            rw [if_neg c_7] at hf
            refine lv_iconst (v := (1 : Int32)) X.1.1 X.1.2.1 dX8_isGaugeAsTold_58 (by decide) ?_
            refine lv_goto (tgt := 63) X.1.1 X.1.2.1 dX8_isGaugeAsTold_59 (by decide) ?_
            cases hf
            exact r_retI X hw hr hlk rfl dX8_isGaugeAsTold_63
    · rw [if_neg c_4] at hf
      by_cases c_8 : p1 = (4 : Int32)
      · rw [if_pos c_8] at hf
        refine lv_tableIn (off := 63) (tgt := 64) X.1.1 X.1.2.1 dX8_isGaugeAsTold_1 (by rw [c_8]; decide) (by rw [c_8]; decide) (by rw [c_8]; decide) (by decide) ?_
        refine lv_iload_n X.1.1 X.1.2.1 dX8_isGaugeAsTold_64 rfl (lv_at hl 1 rfl) ?_
        refine lv_i2l X.1.1 X.1.2.1 dX8_isGaugeAsTold_65 rfl ?_
        refine lv_iconst (v := (0 : Int32)) X.1.1 X.1.2.1 dX8_isGaugeAsTold_66 (by decide) ?_
        refine lv_bipush (v := (11 : Int32)) X.1.1 X.1.2.1 dX8_isGaugeAsTold_67 (by decide) ?_
        obtain ⟨z9, ez9, hf⟩ := obd hf
        refine r_callSI (As := [.long p2.toInt64, .int (0 : Int32), .int (11 : Int32)]) (rest := []) X hw (c_X8_isWithin ez9) (va_cwS 3 X.1.2.2.2.2 (guS um_X8_110 ut_X8_isWithin un_X8 uo_X8_isWithin) rfl rfl rfl (by decide +kernel) ⟨Nat.le_of_ble_eq_true rfl, Nat.le_of_ble_eq_true rfl⟩) rfl hl.1 rfl (Nat.le_of_ble_eq_true rfl) dX8_isGaugeAsTold_69 ⟨Nat.zero_le _, Nat.zero_le _⟩ (fun H locs hw => ?_)
        refine lv_if_eq (tgt := 90) X.1.1 X.1.2.1 dX8_isGaugeAsTold_72 (by decide) (fun c_10 => ?_) (fun c_10 => ?_)
        · skip
          rw [if_pos c_10] at hf
          refine lv_iconst (v := (0 : Int32)) X.1.1 X.1.2.1 dX8_isGaugeAsTold_90 (by decide) ?_
          cases hf
          exact r_retI X hw hr hlk rfl dX8_isGaugeAsTold_91
        · skip
          rw [if_neg c_10] at hf
          refine lv_iload_n X.1.1 X.1.2.1 dX8_isGaugeAsTold_75 rfl (lv_at hl 2 rfl) ?_
          refine lv_i2l X.1.1 X.1.2.1 dX8_isGaugeAsTold_76 rfl ?_
          refine lv_iconst (v := (0 : Int32)) X.1.1 X.1.2.1 dX8_isGaugeAsTold_77 (by decide) ?_
          refine lv_bipush (v := (11 : Int32)) X.1.1 X.1.2.1 dX8_isGaugeAsTold_78 (by decide) ?_
          obtain ⟨z11, ez11, hf⟩ := obd hf
          refine r_callSI (As := [.long p3.toInt64, .int (0 : Int32), .int (11 : Int32)]) (rest := []) X hw (c_X8_isWithin ez11) (va_cwS 3 X.1.2.2.2.2 (guS um_X8_110 ut_X8_isWithin un_X8 uo_X8_isWithin) rfl rfl rfl (by decide +kernel) ⟨Nat.le_of_ble_eq_true rfl, Nat.le_of_ble_eq_true rfl⟩) rfl hl.1 rfl (Nat.le_of_ble_eq_true rfl) dX8_isGaugeAsTold_80 ⟨Nat.zero_le _, Nat.zero_le _⟩ (fun H locs hw => ?_)
          refine lv_if_eq (tgt := 90) X.1.1 X.1.2.1 dX8_isGaugeAsTold_83 (by decide) (fun c_12 => ?_) (fun c_12 => ?_)
          · skip
            rw [if_pos c_12] at hf
            refine lv_iconst (v := (0 : Int32)) X.1.1 X.1.2.1 dX8_isGaugeAsTold_90 (by decide) ?_
            cases hf
            exact r_retI X hw hr hlk rfl dX8_isGaugeAsTold_91
          · skip
            rw [if_neg c_12] at hf
            refine lv_iconst (v := (1 : Int32)) X.1.1 X.1.2.1 dX8_isGaugeAsTold_86 (by decide) ?_
            refine lv_goto (tgt := 91) X.1.1 X.1.2.1 dX8_isGaugeAsTold_87 (by decide) ?_
            cases hf
            exact r_retI X hw hr hlk rfl dX8_isGaugeAsTold_91
      · rw [if_neg c_8] at hf
        have J_1 : ∀ (H : Heap) (locs : List Loc), Wd D cy A s.heap h M H locs → W p l e ({ frames := 1, cells := 0, slots := 0, locals := 23 } : Room) s m args below meth c H locs 0 0 (QI below D cy A h args s z M) (F0 m 92 ls []) := by
          intro H locs hw
          refine lv_iload_n X.1.1 X.1.2.1 dX8_isGaugeAsTold_92 rfl (lv_at hl 0 rfl) ?_
          refine lv_if_lt (tgt := 105) X.1.1 X.1.2.1 dX8_isGaugeAsTold_93 (by decide) (fun c_13 => ?_) (fun c_13 => ?_)
          · skip
            rw [if_pos c_13] at hf
            refine lv_iconst (v := (0 : Int32)) X.1.1 X.1.2.1 dX8_isGaugeAsTold_105 (by decide) ?_
            cases hf
            exact r_retI X hw hr hlk rfl dX8_isGaugeAsTold_106
          · skip
            rw [if_neg c_13] at hf
            refine lv_iload_n X.1.1 X.1.2.1 dX8_isGaugeAsTold_96 rfl (lv_at hl 0 rfl) ?_
            refine lv_iconst (v := (4 : Int32)) X.1.1 X.1.2.1 dX8_isGaugeAsTold_97 (by decide) ?_
            refine lv_icmp_gt (tgt := 105) X.1.1 X.1.2.1 dX8_isGaugeAsTold_98 (by decide) (fun c_14 => ?_) (fun c_14 => ?_)
            · skip
              rw [if_pos c_14] at hf
              refine lv_iconst (v := (0 : Int32)) X.1.1 X.1.2.1 dX8_isGaugeAsTold_105 (by decide) ?_
              cases hf
              exact r_retI X hw hr hlk rfl dX8_isGaugeAsTold_106
            · skip
              rw [if_neg c_14] at hf
              refine lv_iconst (v := (1 : Int32)) X.1.1 X.1.2.1 dX8_isGaugeAsTold_101 (by decide) ?_
              refine lv_goto (tgt := 106) X.1.1 X.1.2.1 dX8_isGaugeAsTold_102 (by decide) ?_
              cases hf
              exact r_retI X hw hr hlk rfl dX8_isGaugeAsTold_106
        have q : p1.toInt < 1 ∨ 4 < p1.toInt ∨ p1.toInt = 1 ∨ p1.toInt = 2 ∨ p1.toInt = 3 ∨ p1.toInt = 4 := by omega
        rcases q with q | q | q | q | q | q
        · exact lv_tableOut (tgt := 92) X.1.1 X.1.2.1 dX8_isGaugeAsTold_1 (Or.inl q) (by decide) (J_1 _ _ hw)
        · exact lv_tableOut (tgt := 92) X.1.1 X.1.2.1 dX8_isGaugeAsTold_1 (Or.inr q) (by decide) (J_1 _ _ hw)
        · exact absurd ((sw_eq q).trans (by decide)) c_1
        · exact lv_tableIn (off := 91) (tgt := 92) X.1.1 X.1.2.1 dX8_isGaugeAsTold_1 (by rw [q]; decide) (by rw [q]; decide) (by rw [q]; decide) (by decide) (J_1 _ _ hw)
        · exact absurd ((sw_eq q).trans (by decide)) c_4
        · exact absurd ((sw_eq q).trans (by decide)) c_8
/-! X8_forgetUndo -/
def f_X8_forgetUndo (h : Hs) (a0 : Nat) (M : Mm) : Option Mm :=
  gd (ok h a0 8) <|
  lt_ (sI M a0 8 (-1 : Int32)) fun M1 =>
  lt_ (sI M1 a0 9 (-1 : Int32)) fun M2 =>
  some M2
set_option maxHeartbeats 4000000 in
set_option maxRecDepth 100000 in
theorem c_X8_forgetUndo {l : Launch} {D : va_G} {cy : Nat → ClassId} {h : Hs} {a0 : Nat} {M : Mm} {z : Mm} (hf : f_X8_forgetUndo h a0 M = some z) : CtV l D cy yX8_forgetUndo (wu yX8_forgetUndo cX8_forgetUndo 1 none) ({ frames := 0, cells := 0, slots := 0, locals := 0 }) [.ref a0] h M z := by
  refine enterV (cc := cX8_forgetUndo) (maxL := 1) (ret := none) (by decide) (Nat.le_of_ble_eq_true rfl) ?_
  intro p e s m args below meth c A ls X hw hr hlk hl
  have hl : lv_has ls 1 [(0, .ref a0)] := hl
  unfold f_X8_forgetUndo at hf
  refine lv_aload_n X.1.1 X.1.2.1 dX8_forgetUndo_0 rfl (lv_at hl 0 rfl) ?_
  refine lv_iconst (v := (-1 : Int32)) X.1.1 X.1.2.1 dX8_forgetUndo_1 (by decide) ?_
  obtain ⟨g_a0, hf⟩ := ogd hf
  refine r_puti (k := 8) (j := 8) X hw rfl inX8 tyX8_ok nmX8 g_a0 rfl (by decide) (by decide) uf_X8_58 rfl rfl rfl rfl dX8_forgetUndo_2 (fun H locs hw => ?_)
  obtain ⟨M1, eM1, hf⟩ := olt hf
  rw [← eM1] at hw
  refine lv_aload_n X.1.1 X.1.2.1 dX8_forgetUndo_5 rfl (lv_at hl 0 rfl) ?_
  refine lv_iconst (v := (-1 : Int32)) X.1.1 X.1.2.1 dX8_forgetUndo_6 (by decide) ?_
  refine r_puti (k := 8) (j := 9) X hw rfl inX8 tyX8_ok nmX8 g_a0 rfl (by decide) (by decide) uf_X8_62 rfl rfl rfl rfl dX8_forgetUndo_7 (fun H locs hw => ?_)
  obtain ⟨M2, eM2, hf⟩ := olt hf
  rw [← eM2] at hw
  cases hf
  exact r_retV X hw hr hlk dX8_forgetUndo_10
