/-! X0_placeAt -/
def f_X0_placeAt (h : Hs) (a0 : Nat) (p1 : Int32) (M : Mm) : Option (Option Nat) :=
  if p1 < 0 then
    some none
  else
    gd (ok h a0 0) <|
    dq (zR h a0 0) fun q2 =>
    gd (ok h q2 15) <|
    if (Int32.ofNat (zN h q2)) ≤ p1 then
      some none
    else
      gd (inb p1 (zN h q2)) <|
      dq (zR h q2 (p1).toNatClampNeg) fun q5 =>
      some (some q5)
set_option maxHeartbeats 4000000 in
set_option maxRecDepth 100000 in
theorem c_X0_placeAt {l : Launch} {D : va_G} {cy : Nat → ClassId} {h : Hs} {a0 : Nat} {p1 : Int32} {M : Mm} {z : (Option Nat)} (hf : f_X0_placeAt h a0 p1 M = some z) : CtQ l D cy yX0_placeAt (wu yX0_placeAt cX0_placeAt 2 (some (.object "LoadCounter$Place"))) ({ frames := 0, cells := 0, slots := 0, locals := 0 }) [.ref a0, .int p1] h M z M := by
  refine enterQ (cc := cX0_placeAt) (maxL := 2) (ret := (some (.object "LoadCounter$Place"))) (by decide) (Nat.le_of_ble_eq_true rfl) ?_
  intro p e s m args below meth c A ls X hw hr hlk hl
  have hl : lv_has ls 2 [(0, .ref a0), (1, .int p1)] := hl
  unfold f_X0_placeAt at hf
  refine lv_iload_n X.1.1 X.1.2.1 dX0_placeAt_0 rfl (lv_at hl 1 rfl) ?_
  refine lv_if_lt (tgt := 22) X.1.1 X.1.2.1 dX0_placeAt_1 (by decide) (fun c_1 => ?_) (fun c_1 => ?_)
  · skip
    rw [if_pos c_1] at hf
    refine lv_null X.1.1 X.1.2.1 dX0_placeAt_22 ?_
    cases hf
    exact r_retQ (r := none) X hw hr (Or.inl ⟨_, rfl⟩) hlk dX0_placeAt_23
  · skip
    rw [if_neg c_1] at hf
    refine lv_iload_n X.1.1 X.1.2.1 dX0_placeAt_4 rfl (lv_at hl 1 rfl) ?_
    refine lv_aload_n X.1.1 X.1.2.1 dX0_placeAt_5 rfl (lv_at hl 0 rfl) ?_
    obtain ⟨g_a0, hf⟩ := ogd hf
    obtain ⟨q2, eq2, hf⟩ := odq hf
    refine r_getq (k := 0) (j := 0) X hw rfl inX0 g_a0 rfl (by decide) (by decide) uf_X0_11 rfl dX0_placeAt_6 eq2 ?_
    obtain ⟨g_q2, hf⟩ := ogd hf
    refine r_alen X hw g_q2 (by decide) dX0_placeAt_9 ?_
    refine lv_icmp_ge (tgt := 22) X.1.1 X.1.2.1 dX0_placeAt_10 (by decide) (fun c_3 => ?_) (fun c_3 => ?_)
    · skip
      rw [if_pos c_3] at hf
      refine lv_null X.1.1 X.1.2.1 dX0_placeAt_22 ?_
      cases hf
      exact r_retQ (r := none) X hw hr (Or.inl ⟨_, rfl⟩) hlk dX0_placeAt_23
    · skip
      rw [if_neg c_3] at hf
      refine lv_aload_n X.1.1 X.1.2.1 dX0_placeAt_13 rfl (lv_at hl 0 rfl) ?_
      refine r_getq (k := 0) (j := 0) X hw rfl inX0 g_a0 rfl (by decide) (by decide) uf_X0_11 rfl dX0_placeAt_14 eq2 ?_
      refine lv_iload_n X.1.1 X.1.2.1 dX0_placeAt_17 rfl (lv_at hl 1 rfl) ?_
      obtain ⟨i_4, hf⟩ := ogd hf
      obtain ⟨q5, eq5, hf⟩ := odq hf
      refine r_aald15 X hw g_q2 i_4 dX0_placeAt_18 eq5 ?_
      refine lv_goto (tgt := 23) X.1.1 X.1.2.1 dX0_placeAt_19 (by decide) ?_
      cases hf
      exact r_retQ (r := some q5) X hw hr (Or.inl ⟨_, rfl⟩) hlk dX0_placeAt_23
/-! X0_detailAt -/
def f_X0_detailAt (h : Hs) (a0 : Nat) (p1 : Int32) (M : Mm) : Option (Option Nat) :=
  if p1 < 0 then
    some none
  else
    gd (ok h a0 0) <|
    dq (zR h a0 1) fun q2 =>
    gd (ok h q2 14) <|
    if (Int32.ofNat (zN h q2)) ≤ p1 then
      some none
    else
      gd (inb p1 (zN h q2)) <|
      dq (zR h q2 (p1).toNatClampNeg) fun q5 =>
      some (some q5)
set_option maxHeartbeats 4000000 in
set_option maxRecDepth 100000 in
theorem c_X0_detailAt {l : Launch} {D : va_G} {cy : Nat → ClassId} {h : Hs} {a0 : Nat} {p1 : Int32} {M : Mm} {z : (Option Nat)} (hf : f_X0_detailAt h a0 p1 M = some z) : CtQ l D cy yX0_detailAt (wu yX0_detailAt cX0_detailAt 2 (some (.object "LoadCounter$Detail"))) ({ frames := 0, cells := 0, slots := 0, locals := 0 }) [.ref a0, .int p1] h M z M := by
  refine enterQ (cc := cX0_detailAt) (maxL := 2) (ret := (some (.object "LoadCounter$Detail"))) (by decide) (Nat.le_of_ble_eq_true rfl) ?_
  intro p e s m args below meth c A ls X hw hr hlk hl
  have hl : lv_has ls 2 [(0, .ref a0), (1, .int p1)] := hl
  unfold f_X0_detailAt at hf
  refine lv_iload_n X.1.1 X.1.2.1 dX0_detailAt_0 rfl (lv_at hl 1 rfl) ?_
  refine lv_if_lt (tgt := 22) X.1.1 X.1.2.1 dX0_detailAt_1 (by decide) (fun c_1 => ?_) (fun c_1 => ?_)
  · skip
    rw [if_pos c_1] at hf
    refine lv_null X.1.1 X.1.2.1 dX0_detailAt_22 ?_
    cases hf
    exact r_retQ (r := none) X hw hr (Or.inl ⟨_, rfl⟩) hlk dX0_detailAt_23
  · skip
    rw [if_neg c_1] at hf
    refine lv_iload_n X.1.1 X.1.2.1 dX0_detailAt_4 rfl (lv_at hl 1 rfl) ?_
    refine lv_aload_n X.1.1 X.1.2.1 dX0_detailAt_5 rfl (lv_at hl 0 rfl) ?_
    obtain ⟨g_a0, hf⟩ := ogd hf
    obtain ⟨q2, eq2, hf⟩ := odq hf
    refine r_getq (k := 0) (j := 1) X hw rfl inX0 g_a0 rfl (by decide) (by decide) uf_X0_19 rfl dX0_detailAt_6 eq2 ?_
    obtain ⟨g_q2, hf⟩ := ogd hf
    refine r_alen X hw g_q2 (by decide) dX0_detailAt_9 ?_
    refine lv_icmp_ge (tgt := 22) X.1.1 X.1.2.1 dX0_detailAt_10 (by decide) (fun c_3 => ?_) (fun c_3 => ?_)
    · skip
      rw [if_pos c_3] at hf
      refine lv_null X.1.1 X.1.2.1 dX0_detailAt_22 ?_
      cases hf
      exact r_retQ (r := none) X hw hr (Or.inl ⟨_, rfl⟩) hlk dX0_detailAt_23
    · skip
      rw [if_neg c_3] at hf
      refine lv_aload_n X.1.1 X.1.2.1 dX0_detailAt_13 rfl (lv_at hl 0 rfl) ?_
      refine r_getq (k := 0) (j := 1) X hw rfl inX0 g_a0 rfl (by decide) (by decide) uf_X0_19 rfl dX0_detailAt_14 eq2 ?_
      refine lv_iload_n X.1.1 X.1.2.1 dX0_detailAt_17 rfl (lv_at hl 1 rfl) ?_
      obtain ⟨i_4, hf⟩ := ogd hf
      obtain ⟨q5, eq5, hf⟩ := odq hf
      refine r_aald14 X hw g_q2 i_4 dX0_detailAt_18 eq5 ?_
      refine lv_goto (tgt := 23) X.1.1 X.1.2.1 dX0_detailAt_19 (by decide) ?_
      cases hf
      exact r_retQ (r := some q5) X hw hr (Or.inl ⟨_, rfl⟩) hlk dX0_detailAt_23
/-! X0_gaugeAt -/
def f_X0_gaugeAt (h : Hs) (a0 : Nat) (p1 : Int32) (M : Mm) : Option (Option Nat) :=
  gd (ok h a0 0) <|
  (f_X0_placeAt h a0 p1 M).bind fun z1 =>
  mq z1
    (
     some none
    )
    (fun q2 =>
     gd (ok h q2 4) <|
     (f_X4_isGauge h q2 M).bind fun z3 =>
     if z3 = 0 then
       some none
     else
       some (some q2)
    )
set_option maxHeartbeats 4000000 in
set_option maxRecDepth 100000 in
theorem c_X0_gaugeAt {l : Launch} {D : va_G} {cy : Nat → ClassId} {h : Hs} {a0 : Nat} {p1 : Int32} {M : Mm} {z : (Option Nat)} (hf : f_X0_gaugeAt h a0 p1 M = some z) : CtQ l D cy yX0_gaugeAt (wu yX0_gaugeAt cX0_gaugeAt 3 (some (.object "LoadCounter$Place"))) ({ frames := 1, cells := 0, slots := 0, locals := 21 }) [.ref a0, .int p1] h M z M := by
  refine enterQ (cc := cX0_gaugeAt) (maxL := 3) (ret := (some (.object "LoadCounter$Place"))) (by decide) (Nat.le_of_ble_eq_true rfl) ?_
  intro p e s m args below meth c A ls X hw hr hlk hl
  have hl : lv_has ls 3 [(0, .ref a0), (1, .int p1)] := hl
  unfold f_X0_gaugeAt at hf
  refine lv_aload_n X.1.1 X.1.2.1 dX0_gaugeAt_0 rfl (lv_at hl 0 rfl) ?_
  refine lv_iload_n X.1.1 X.1.2.1 dX0_gaugeAt_1 rfl (lv_at hl 1 rfl) ?_
  obtain ⟨g_a0, hf⟩ := ogd hf
  obtain ⟨z1, ez1, hf⟩ := obd hf
  refine r_callVQ (As := [.int p1]) (rest := []) X hw (c_X0_placeAt ez1) (cwV 1 X.1.2.2.2.2 (guV um_X0_25 ui_X0_placeAt us_X0_placeAt un_X0 uo_X0_placeAt) rfl rfl rfl (by decide +kernel) ⟨Nat.le_of_ble_eq_true rfl, Nat.le_of_ble_eq_true rfl⟩) g_a0 (by decide) rfl rfl hl.1 rfl (Nat.le_of_ble_eq_true rfl) dX0_gaugeAt_2 ⟨Nat.zero_le _, Nat.zero_le _⟩ (fun H locs hw => ?_)
  obtain ⟨nq2, hf⟩ | ⟨q2, nq2, hf⟩ := omq hf
  · rw [nq2]
    refine lv_astore_nN (lv' := [(2, .null), (0, .ref a0), (1, .int p1)]) X.1.1 X.1.2.1 dX0_gaugeAt_5 rfl hl (by decide) rfl (fun ls hl => ?_)
    refine lv_aload_nN X.1.1 X.1.2.1 dX0_gaugeAt_6 rfl (lv_at hl 0 rfl) ?_
    refine lv_ifnullN (tgt := 21) X.1.1 X.1.2.1 dX0_gaugeAt_7 (by decide) ?_
    refine lv_null X.1.1 X.1.2.1 dX0_gaugeAt_21 ?_
    cases hf
    exact r_retQ (r := none) X hw hr (Or.inl ⟨_, rfl⟩) hlk dX0_gaugeAt_22
  · rw [nq2]
    refine lv_astore_n (lv' := [(2, .ref q2), (0, .ref a0), (1, .int p1)]) X.1.1 X.1.2.1 dX0_gaugeAt_5 rfl hl (by decide) rfl (fun ls hl => ?_)
    refine lv_aload_n X.1.1 X.1.2.1 dX0_gaugeAt_6 rfl (lv_at hl 0 rfl) ?_
    refine lv_ifnull X.1.1 X.1.2.1 dX0_gaugeAt_7 ?_
    refine lv_aload_n X.1.1 X.1.2.1 dX0_gaugeAt_10 rfl (lv_at hl 0 rfl) ?_
    obtain ⟨g_q2, hf⟩ := ogd hf
    obtain ⟨z3, ez3, hf⟩ := obd hf
    refine r_callVI (As := []) (rest := []) X hw (c_X4_isGauge ez3) (cwV 0 X.1.2.2.2.2 (guV um_X0_29 ui_X4_isGauge us_X4_isGauge un_X4 uo_X4_isGauge) rfl rfl rfl (by decide +kernel) ⟨Nat.le_of_ble_eq_true rfl, Nat.le_of_ble_eq_true rfl⟩) g_q2 (by decide) rfl rfl hl.1 rfl (Nat.le_of_ble_eq_true rfl) dX0_gaugeAt_11 ⟨Nat.zero_le _, Nat.zero_le _⟩ (fun H locs hw => ?_)
    refine lv_if_eq (tgt := 21) X.1.1 X.1.2.1 dX0_gaugeAt_14 (by decide) (fun c_4 => ?_) (fun c_4 => ?_)
    · skip
      rw [if_pos c_4] at hf
      refine lv_null X.1.1 X.1.2.1 dX0_gaugeAt_21 ?_
      cases hf
      exact r_retQ (r := none) X hw hr (Or.inl ⟨_, rfl⟩) hlk dX0_gaugeAt_22
    · skip
      rw [if_neg c_4] at hf
      refine lv_aload_n X.1.1 X.1.2.1 dX0_gaugeAt_17 rfl (lv_at hl 0 rfl) ?_
      refine lv_goto (tgt := 22) X.1.1 X.1.2.1 dX0_gaugeAt_18 (by decide) ?_
      cases hf
      exact r_retQ (r := some q2) X hw hr (Or.inl ⟨_, rfl⟩) hlk dX0_gaugeAt_22
/-! X0_fedGaugeAt -/
def f_X0_fedGaugeAt (h : Hs) (a0 : Nat) (p1 : Int32) (M : Mm) : Option (Option Nat) :=
  gd (ok h a0 0) <|
  (f_X0_gaugeAt h a0 p1 M).bind fun z1 =>
  mq z1
    (
     some none
    )
    (fun q2 =>
     gd (ok h q2 4) <|
     if (zI M q2 1) = (4 : Int32) then
       some none
     else
       some (some q2)
    )
set_option maxHeartbeats 4000000 in
set_option maxRecDepth 100000 in
theorem c_X0_fedGaugeAt {l : Launch} {D : va_G} {cy : Nat → ClassId} {h : Hs} {a0 : Nat} {p1 : Int32} {M : Mm} {z : (Option Nat)} (hf : f_X0_fedGaugeAt h a0 p1 M = some z) : CtQ l D cy yX0_fedGaugeAt (wu yX0_fedGaugeAt cX0_fedGaugeAt 3 (some (.object "LoadCounter$Place"))) ({ frames := 2, cells := 0, slots := 0, locals := 43 }) [.ref a0, .int p1] h M z M := by
  refine enterQ (cc := cX0_fedGaugeAt) (maxL := 3) (ret := (some (.object "LoadCounter$Place"))) (by decide) (Nat.le_of_ble_eq_true rfl) ?_
  intro p e s m args below meth c A ls X hw hr hlk hl
  have hl : lv_has ls 3 [(0, .ref a0), (1, .int p1)] := hl
  unfold f_X0_fedGaugeAt at hf
  refine lv_aload_n X.1.1 X.1.2.1 dX0_fedGaugeAt_0 rfl (lv_at hl 0 rfl) ?_
  refine lv_iload_n X.1.1 X.1.2.1 dX0_fedGaugeAt_1 rfl (lv_at hl 1 rfl) ?_
  obtain ⟨g_a0, hf⟩ := ogd hf
  obtain ⟨z1, ez1, hf⟩ := obd hf
  refine r_callVQ (As := [.int p1]) (rest := []) X hw (c_X0_gaugeAt ez1) (cwV 1 X.1.2.2.2.2 (guV um_X0_33 ui_X0_gaugeAt us_X0_gaugeAt un_X0 uo_X0_gaugeAt) rfl rfl rfl (by decide +kernel) ⟨Nat.le_of_ble_eq_true rfl, Nat.le_of_ble_eq_true rfl⟩) g_a0 (by decide) rfl rfl hl.1 rfl (Nat.le_of_ble_eq_true rfl) dX0_fedGaugeAt_2 ⟨Nat.zero_le _, Nat.zero_le _⟩ (fun H locs hw => ?_)
  obtain ⟨nq2, hf⟩ | ⟨q2, nq2, hf⟩ := omq hf
  · rw [nq2]
    refine lv_astore_nN (lv' := [(2, .null), (0, .ref a0), (1, .int p1)]) X.1.1 X.1.2.1 dX0_fedGaugeAt_5 rfl hl (by decide) rfl (fun ls hl => ?_)
    refine lv_aload_nN X.1.1 X.1.2.1 dX0_fedGaugeAt_6 rfl (lv_at hl 0 rfl) ?_
    refine lv_ifnullN (tgt := 22) X.1.1 X.1.2.1 dX0_fedGaugeAt_7 (by decide) ?_
    refine lv_null X.1.1 X.1.2.1 dX0_fedGaugeAt_22 ?_
    cases hf
    exact r_retQ (r := none) X hw hr (Or.inl ⟨_, rfl⟩) hlk dX0_fedGaugeAt_23
  · rw [nq2]
    refine lv_astore_n (lv' := [(2, .ref q2), (0, .ref a0), (1, .int p1)]) X.1.1 X.1.2.1 dX0_fedGaugeAt_5 rfl hl (by decide) rfl (fun ls hl => ?_)
    refine lv_aload_n X.1.1 X.1.2.1 dX0_fedGaugeAt_6 rfl (lv_at hl 0 rfl) ?_
    refine lv_ifnull X.1.1 X.1.2.1 dX0_fedGaugeAt_7 ?_
    refine lv_aload_n X.1.1 X.1.2.1 dX0_fedGaugeAt_10 rfl (lv_at hl 0 rfl) ?_
    obtain ⟨g_q2, hf⟩ := ogd hf
    refine r_geti (k := 4) (j := 1) X hw rfl inX4 g_q2 rfl (by decide) (by decide) uf_X0_36 rfl dX0_fedGaugeAt_11 ?_
    refine lv_iconst (v := (4 : Int32)) X.1.1 X.1.2.1 dX0_fedGaugeAt_14 (by decide) ?_
    refine lv_icmp_eq (tgt := 22) X.1.1 X.1.2.1 dX0_fedGaugeAt_15 (by decide) (fun c_3 => ?_) (fun c_3 => ?_)
    · skip
      rw [if_pos c_3] at hf
      refine lv_null X.1.1 X.1.2.1 dX0_fedGaugeAt_22 ?_
      cases hf
      exact r_retQ (r := none) X hw hr (Or.inl ⟨_, rfl⟩) hlk dX0_fedGaugeAt_23
    · skip
      rw [if_neg c_3] at hf
      refine lv_aload_n X.1.1 X.1.2.1 dX0_fedGaugeAt_18 rfl (lv_at hl 0 rfl) ?_
      refine lv_goto (tgt := 23) X.1.1 X.1.2.1 dX0_fedGaugeAt_19 (by decide) ?_
      cases hf
      exact r_retQ (r := some q2) X hw hr (Or.inl ⟨_, rfl⟩) hlk dX0_fedGaugeAt_23
/-! X0_gauges -/
def lp_X0_gauges_4 (h : Hs) (a0 : Nat) (M : Mm) : Nat → Int32 → Int32 → Option (Int32 × Int32)
  | 0, _, _ => none
  | n + 1, v1, v2 =>
    if (12 : Int32) ≤ v2 then
      some (v1, v2)
    else
      gd (ok h a0 0) <|
      (f_X0_gaugeAt h a0 v2 M).bind fun z2 =>
      mq z2
        (
         lt_ (v1 + (0 : Int32)) fun x4 =>
         lt_ (v2 + (1 : Int32)) fun x5 =>
         lp_X0_gauges_4 h a0 M n x4 x5
        )
        (fun q3 =>
         lt_ (v1 + (1 : Int32)) fun x6 =>
         lt_ (v2 + (1 : Int32)) fun x7 =>
         lp_X0_gauges_4 h a0 M n x6 x7
        )
set_option maxHeartbeats 4000000 in
set_option maxRecDepth 100000 in
theorem wlp_X0_gauges_4 {l : Launch} {D : va_G} {cy : Nat → ClassId} {h : Hs} {a0 : Nat} {M : Mm} {p : Program} {e : Env} {s : State} {m : MethodId} {args : Array Value} {below : List Frame} {meth : Method} {c : Code} {A : Nat → Prop} (X : Cx p s m args c cX0_gauges 3 gtbl RX0 D cy A) {Q : State → Prop} : ∀ (n : Nat) (v1 : Int32) (v2 : Int32) (z : (Int32 × Int32)) (H : Heap) (locs : List Loc) (ls : Array Slot), lp_X0_gauges_4 h a0 M n v1 v2 = some z → Wd D cy A s.heap h M H locs → lv_has ls 3 [(1, .int v1), (2, .int v2), (0, .ref a0)] → (∀ x : (Int32 × Int32), z = x → ∀ (H : Heap) (locs : List Loc) (ls : Array Slot), Wd D cy A s.heap h M H locs → lv_has ls 3 [(1, .int x.1), (2, .int x.2), (0, .ref a0)] → W p l e ({ frames := 2, cells := 0, slots := 0, locals := 43 } : Room) s m args below meth c H locs 0 0 Q (F0 m 32 ls [])) → W p l e ({ frames := 2, cells := 0, slots := 0, locals := 43 } : Room) s m args below meth c H locs 0 0 Q (F0 m 4 ls []) := by
  intro n
  induction n with
  | zero => intro v1 v2 z H locs ls hf hw hl kx; exact absurd hf (by intro q; cases q)
  | succ n ih =>
    intro v1 v2 z H locs ls hf hw hl kx
    unfold lp_X0_gauges_4 at hf
    refine lv_iload_n X.1.1 X.1.2.1 dX0_gauges_4 rfl (lv_at hl 1 rfl) ?_
    refine lv_bipush (v := (12 : Int32)) X.1.1 X.1.2.1 dX0_gauges_5 (by decide) ?_
    refine lv_icmp_ge (tgt := 32) X.1.1 X.1.2.1 dX0_gauges_7 (by decide) (fun c_1 => ?_) (fun c_1 => ?_)
    · skip
      rw [if_pos c_1] at hf
      cases hf
      exact kx _ rfl _ _ _ hw (lv_sub hl [0, 1, 2] rfl)
    · skip
      rw [if_neg c_1] at hf
      refine lv_iload_n X.1.1 X.1.2.1 dX0_gauges_10 rfl (lv_at hl 0 rfl) ?_
      refine lv_aload_n X.1.1 X.1.2.1 dX0_gauges_11 rfl (lv_at hl 2 rfl) ?_
      refine lv_iload_n X.1.1 X.1.2.1 dX0_gauges_12 rfl (lv_at hl 1 rfl) ?_
      obtain ⟨g_a0, hf⟩ := ogd hf
      obtain ⟨z2, ez2, hf⟩ := obd hf
      refine r_callVQ (As := [.int v2]) (rest := [.int v1]) X hw (c_X0_gaugeAt ez2) (cwV 1 X.1.2.2.2.2 (guV um_X0_33 ui_X0_gaugeAt us_X0_gaugeAt un_X0 uo_X0_gaugeAt) rfl rfl rfl (by decide +kernel) ⟨Nat.le_of_ble_eq_true rfl, Nat.le_of_ble_eq_true rfl⟩) g_a0 (by decide) rfl rfl hl.1 rfl (Nat.le_of_ble_eq_true rfl) dX0_gauges_13 ⟨Nat.zero_le _, Nat.zero_le _⟩ (fun H locs hw => ?_)
      obtain ⟨nq3, hf⟩ | ⟨q3, nq3, hf⟩ := omq hf
      · rw [nq3]
        refine lv_ifnullN (tgt := 23) X.1.1 X.1.2.1 dX0_gauges_16 (by decide) ?_
        refine lv_iconst (v := (0 : Int32)) X.1.1 X.1.2.1 dX0_gauges_23 (by decide) ?_
        refine lv_iadd X.1.1 X.1.2.1 dX0_gauges_24 ?_
        refine lv_topi (fun x4 ex4 => ?_)
        have hf := oltE ex4 hf
        refine lv_istore_n (lv' := [(1, .int x4), (2, .int v2), (0, .ref a0)]) X.1.1 X.1.2.1 dX0_gauges_25 rfl hl (by decide) rfl (fun ls hl => ?_)
        obtain ⟨x5, ex5, hf⟩ := olt hf
        refine lv_iinc (v := x5) (lv' := [(2, .int x5), (1, .int x4), (0, .ref a0)]) X.1.1 X.1.2.1 dX0_gauges_26 hl (k := 1) rfl (by rw [ex5]; rfl) (by decide) rfl (fun ls hl => ?_)
        refine lv_goto (tgt := 4) X.1.1 X.1.2.1 dX0_gauges_29 (by decide) ?_
        exact ih _ _ _ _ _ _ hf hw (lv_sub hl [1, 0, 2] rfl) kx
      · rw [nq3]
        refine lv_ifnull X.1.1 X.1.2.1 dX0_gauges_16 ?_
        refine lv_iconst (v := (1 : Int32)) X.1.1 X.1.2.1 dX0_gauges_19 (by decide) ?_
        refine lv_goto (tgt := 24) X.1.1 X.1.2.1 dX0_gauges_20 (by decide) ?_
        refine lv_iadd X.1.1 X.1.2.1 dX0_gauges_24 ?_
        refine lv_topi (fun x6 ex6 => ?_)
        have hf := oltE ex6 hf
        refine lv_istore_n (lv' := [(1, .int x6), (2, .int v2), (0, .ref a0)]) X.1.1 X.1.2.1 dX0_gauges_25 rfl hl (by decide) rfl (fun ls hl => ?_)
        obtain ⟨x7, ex7, hf⟩ := olt hf
        refine lv_iinc (v := x7) (lv' := [(2, .int x7), (1, .int x6), (0, .ref a0)]) X.1.1 X.1.2.1 dX0_gauges_26 hl (k := 1) rfl (by rw [ex7]; rfl) (by decide) rfl (fun ls hl => ?_)
        refine lv_goto (tgt := 4) X.1.1 X.1.2.1 dX0_gauges_29 (by decide) ?_
        exact ih _ _ _ _ _ _ hf hw (lv_sub hl [1, 0, 2] rfl) kx
def f_X0_gauges (h : Hs) (a0 : Nat) (M : Mm) : Option Int32 :=
  (lp_X0_gauges_4 h a0 M fuel (0 : Int32) (0 : Int32)).bind fun z8 =>
  some z8.1
set_option maxHeartbeats 4000000 in
set_option maxRecDepth 100000 in
theorem c_X0_gauges {l : Launch} {D : va_G} {cy : Nat → ClassId} {h : Hs} {a0 : Nat} {M : Mm} {z : Int32} (hf : f_X0_gauges h a0 M = some z) : CtI l D cy yX0_gauges (wu yX0_gauges cX0_gauges 3 (some .int)) ({ frames := 2, cells := 0, slots := 0, locals := 43 }) [.ref a0] h M z M := by
  refine enterI (cc := cX0_gauges) (maxL := 3) (ret := (some .int)) (by decide) (Nat.le_of_ble_eq_true rfl) ?_
  intro p e s m args below meth c A ls X hw hr hlk hl
  have hl : lv_has ls 3 [(0, .ref a0)] := hl
  unfold f_X0_gauges at hf
  refine lv_iconst (v := (0 : Int32)) X.1.1 X.1.2.1 dX0_gauges_0 (by decide) ?_
  refine lv_istore_n (lv' := [(1, .int (0 : Int32)), (0, .ref a0)]) X.1.1 X.1.2.1 dX0_gauges_1 rfl hl (by decide) rfl (fun ls hl => ?_)
  refine lv_iconst (v := (0 : Int32)) X.1.1 X.1.2.1 dX0_gauges_2 (by decide) ?_
  refine lv_istore_n (lv' := [(2, .int (0 : Int32)), (1, .int (0 : Int32)), (0, .ref a0)]) X.1.1 X.1.2.1 dX0_gauges_3 rfl hl (by decide) rfl (fun ls hl => ?_)
  obtain ⟨z8, ez8, hf⟩ := obd hf
  refine wlp_X0_gauges_4 X fuel _ _ _ _ _ _ ez8 hw (lv_sub hl [1, 0, 2] rfl) (fun x ex H locs ls hw hl => ?_)
  subst ex
  refine lv_iload_n X.1.1 X.1.2.1 dX0_gauges_32 rfl (lv_at hl 0 rfl) ?_
  cases hf
  exact r_retI X hw hr hlk rfl dX0_gauges_33
/-! X0_plugs -/
def lp_X0_plugs_4 (h : Hs) (a0 : Nat) (M : Mm) : Nat → Int32 → Int32 → Option (Int32 × Int32)
  | 0, _, _ => none
  | n + 1, v1, v2 =>
    if (12 : Int32) ≤ v2 then
      some (v1, v2)
    else
      gd (ok h a0 0) <|
      (f_X0_placeAt h a0 v2 M).bind fun z2 =>
      mq z2
        (
         lt_ (v1 + (0 : Int32)) fun x4 =>
         lt_ (v2 + (1 : Int32)) fun x5 =>
         lp_X0_plugs_4 h a0 M n x4 x5
        )
        (fun q3 =>
         gd (ok h q3 4) <|
         Option.bind (
           if ¬ (zI M q3 1) = (5 : Int32) then
             some (0 : Int32)
           else
             some (1 : Int32)
           ) fun y7 =>
         lt_ (v1 + y7) fun x8 =>
         lt_ (v2 + (1 : Int32)) fun x9 =>
         lp_X0_plugs_4 h a0 M n x8 x9
        )
set_option maxHeartbeats 4000000 in
set_option maxRecDepth 100000 in
theorem wlp_X0_plugs_4 {l : Launch} {D : va_G} {cy : Nat → ClassId} {h : Hs} {a0 : Nat} {M : Mm} {p : Program} {e : Env} {s : State} {m : MethodId} {args : Array Value} {below : List Frame} {meth : Method} {c : Code} {A : Nat → Prop} (X : Cx p s m args c cX0_plugs 4 gtbl RX0 D cy A) {Q : State → Prop} : ∀ (n : Nat) (v1 : Int32) (v2 : Int32) (z : (Int32 × Int32)) (H : Heap) (locs : List Loc) (ls : Array Slot), lp_X0_plugs_4 h a0 M n v1 v2 = some z → Wd D cy A s.heap h M H locs → lv_has ls 4 [(1, .int v1), (2, .int v2), (0, .ref a0)] → (∀ x : (Int32 × Int32), z = x → ∀ (H : Heap) (locs : List Loc) (ls : Array Slot), Wd D cy A s.heap h M H locs → lv_has ls 4 [(1, .int x.1), (2, .int x.2), (0, .ref a0)] → W p l e ({ frames := 1, cells := 0, slots := 0, locals := 21 } : Room) s m args below meth c H locs 0 0 Q (F0 m 42 ls [])) → W p l e ({ frames := 1, cells := 0, slots := 0, locals := 21 } : Room) s m args below meth c H locs 0 0 Q (F0 m 4 ls []) := by
  intro n
  induction n with
  | zero => intro v1 v2 z H locs ls hf hw hl kx; exact absurd hf (by intro q; cases q)
  | succ n ih =>
    intro v1 v2 z H locs ls hf hw hl kx
    unfold lp_X0_plugs_4 at hf
    refine lv_iload_n X.1.1 X.1.2.1 dX0_plugs_4 rfl (lv_at hl 1 rfl) ?_
    refine lv_bipush (v := (12 : Int32)) X.1.1 X.1.2.1 dX0_plugs_5 (by decide) ?_
    refine lv_icmp_ge (tgt := 42) X.1.1 X.1.2.1 dX0_plugs_7 (by decide) (fun c_1 => ?_) (fun c_1 => ?_)
    · skip
      rw [if_pos c_1] at hf
      cases hf
      exact kx _ rfl _ _ _ hw (lv_sub hl [0, 1, 2] rfl)
    · skip
      rw [if_neg c_1] at hf
      refine lv_aload_n X.1.1 X.1.2.1 dX0_plugs_10 rfl (lv_at hl 2 rfl) ?_
      refine lv_iload_n X.1.1 X.1.2.1 dX0_plugs_11 rfl (lv_at hl 1 rfl) ?_
      obtain ⟨g_a0, hf⟩ := ogd hf
      obtain ⟨z2, ez2, hf⟩ := obd hf
      refine r_callVQ (As := [.int v2]) (rest := []) X hw (c_X0_placeAt ez2) (cwV 1 X.1.2.2.2.2 (guV um_X0_25 ui_X0_placeAt us_X0_placeAt un_X0 uo_X0_placeAt) rfl rfl rfl (by decide +kernel) ⟨Nat.le_of_ble_eq_true rfl, Nat.le_of_ble_eq_true rfl⟩) g_a0 (by decide) rfl rfl hl.1 rfl (Nat.le_of_ble_eq_true rfl) dX0_plugs_12 ⟨Nat.zero_le _, Nat.zero_le _⟩ (fun H locs hw => ?_)
      obtain ⟨nq3, hf⟩ | ⟨q3, nq3, hf⟩ := omq hf
      · rw [nq3]
        refine lv_astore_nN (lv' := [(3, .null), (1, .int v1), (2, .int v2), (0, .ref a0)]) X.1.1 X.1.2.1 dX0_plugs_15 rfl hl (by decide) rfl (fun ls hl => ?_)
        refine lv_iload_n X.1.1 X.1.2.1 dX0_plugs_16 rfl (lv_at hl 1 rfl) ?_
        refine lv_aload_nN X.1.1 X.1.2.1 dX0_plugs_17 rfl (lv_at hl 0 rfl) ?_
        refine lv_ifnullN (tgt := 33) X.1.1 X.1.2.1 dX0_plugs_18 (by decide) ?_
        refine lv_iconst (v := (0 : Int32)) X.1.1 X.1.2.1 dX0_plugs_33 (by decide) ?_
        refine lv_iadd X.1.1 X.1.2.1 dX0_plugs_34 ?_
        refine lv_topi (fun x4 ex4 => ?_)
        have hf := oltE ex4 hf
        refine lv_istore_n (lv' := [(1, .int x4), (3, .null), (2, .int v2), (0, .ref a0)]) X.1.1 X.1.2.1 dX0_plugs_35 rfl hl (by decide) rfl (fun ls hl => ?_)
        obtain ⟨x5, ex5, hf⟩ := olt hf
        refine lv_iinc (v := x5) (lv' := [(2, .int x5), (1, .int x4), (3, .null), (0, .ref a0)]) X.1.1 X.1.2.1 dX0_plugs_36 hl (k := 2) rfl (by rw [ex5]; rfl) (by decide) rfl (fun ls hl => ?_)
        refine lv_goto (tgt := 4) X.1.1 X.1.2.1 dX0_plugs_39 (by decide) ?_
        exact ih _ _ _ _ _ _ hf hw (lv_sub hl [1, 0, 3] rfl) kx
      · rw [nq3]
        refine lv_astore_n (lv' := [(3, .ref q3), (1, .int v1), (2, .int v2), (0, .ref a0)]) X.1.1 X.1.2.1 dX0_plugs_15 rfl hl (by decide) rfl (fun ls hl => ?_)
        refine lv_iload_n X.1.1 X.1.2.1 dX0_plugs_16 rfl (lv_at hl 1 rfl) ?_
        refine lv_aload_n X.1.1 X.1.2.1 dX0_plugs_17 rfl (lv_at hl 0 rfl) ?_
        refine lv_ifnull X.1.1 X.1.2.1 dX0_plugs_18 ?_
        refine lv_aload_n X.1.1 X.1.2.1 dX0_plugs_21 rfl (lv_at hl 0 rfl) ?_
        obtain ⟨g_q3, hf⟩ := ogd hf
        refine r_geti (k := 4) (j := 1) X hw rfl inX4 g_q3 rfl (by decide) (by decide) uf_X0_36 rfl dX0_plugs_22 ?_
        refine lv_iconst (v := (5 : Int32)) X.1.1 X.1.2.1 dX0_plugs_25 (by decide) ?_
        obtain ⟨y7, ey7, hf⟩ := obd hf
        have Jy7 : ∀ (H : Heap) (locs : List Loc) (ls : Array Slot), Wd D cy A s.heap h M H locs → lv_has ls 4 [(2, .int v2), (0, .ref a0)] → W p l e ({ frames := 1, cells := 0, slots := 0, locals := 21 } : Room) s m args below meth c H locs 0 0 Q (F0 m 34 ls [.int y7, .int v1]) := by
          intro H locs ls hw hl
          refine lv_iadd X.1.1 X.1.2.1 dX0_plugs_34 ?_
          refine lv_topi (fun x8 ex8 => ?_)
          have hf := oltE ex8 hf
          refine lv_istore_n (lv' := [(1, .int x8), (2, .int v2), (0, .ref a0)]) X.1.1 X.1.2.1 dX0_plugs_35 rfl hl (by decide) rfl (fun ls hl => ?_)
          obtain ⟨x9, ex9, hf⟩ := olt hf
          refine lv_iinc (v := x9) (lv' := [(2, .int x9), (1, .int x8), (0, .ref a0)]) X.1.1 X.1.2.1 dX0_plugs_36 hl (k := 1) rfl (by rw [ex9]; rfl) (by decide) rfl (fun ls hl => ?_)
          refine lv_goto (tgt := 4) X.1.1 X.1.2.1 dX0_plugs_39 (by decide) ?_
          exact ih _ _ _ _ _ _ hf hw (lv_sub hl [1, 0, 2] rfl) kx
        clear hf
        have hf := ey7
        clear ey7
        refine lv_icmp_ne (tgt := 33) X.1.1 X.1.2.1 dX0_plugs_26 (by decide) (fun c_6 => ?_) (fun c_6 => ?_)
        · skip
          rw [if_pos c_6] at hf
          refine lv_iconst (v := (0 : Int32)) X.1.1 X.1.2.1 dX0_plugs_33 (by decide) ?_
          cases hf
          exact Jy7 _ _ _ hw (lv_sub hl [2, 3] rfl)
        · skip
          rw [if_neg (fun z => z c_6)] at hf
          refine lv_iconst (v := (1 : Int32)) X.1.1 X.1.2.1 dX0_plugs_29 (by decide) ?_
          refine lv_goto (tgt := 34) X.1.1 X.1.2.1 dX0_plugs_30 (by decide) ?_
          cases hf
          exact Jy7 _ _ _ hw (lv_sub hl [2, 3] rfl)
def f_X0_plugs (h : Hs) (a0 : Nat) (M : Mm) : Option Int32 :=
  (lp_X0_plugs_4 h a0 M fuel (0 : Int32) (0 : Int32)).bind fun z10 =>
  some z10.1
set_option maxHeartbeats 4000000 in
set_option maxRecDepth 100000 in
theorem c_X0_plugs {l : Launch} {D : va_G} {cy : Nat → ClassId} {h : Hs} {a0 : Nat} {M : Mm} {z : Int32} (hf : f_X0_plugs h a0 M = some z) : CtI l D cy yX0_plugs (wu yX0_plugs cX0_plugs 4 (some .int)) ({ frames := 1, cells := 0, slots := 0, locals := 21 }) [.ref a0] h M z M := by
  refine enterI (cc := cX0_plugs) (maxL := 4) (ret := (some .int)) (by decide) (Nat.le_of_ble_eq_true rfl) ?_
  intro p e s m args below meth c A ls X hw hr hlk hl
  have hl : lv_has ls 4 [(0, .ref a0)] := hl
  unfold f_X0_plugs at hf
  refine lv_iconst (v := (0 : Int32)) X.1.1 X.1.2.1 dX0_plugs_0 (by decide) ?_
  refine lv_istore_n (lv' := [(1, .int (0 : Int32)), (0, .ref a0)]) X.1.1 X.1.2.1 dX0_plugs_1 rfl hl (by decide) rfl (fun ls hl => ?_)
  refine lv_iconst (v := (0 : Int32)) X.1.1 X.1.2.1 dX0_plugs_2 (by decide) ?_
  refine lv_istore_n (lv' := [(2, .int (0 : Int32)), (1, .int (0 : Int32)), (0, .ref a0)]) X.1.1 X.1.2.1 dX0_plugs_3 rfl hl (by decide) rfl (fun ls hl => ?_)
  obtain ⟨z10, ez10, hf⟩ := obd hf
  refine wlp_X0_plugs_4 X fuel _ _ _ _ _ _ ez10 hw (lv_sub hl [1, 0, 2] rfl) (fun x ex H locs ls hw hl => ?_)
  subst ex
  refine lv_iload_n X.1.1 X.1.2.1 dX0_plugs_42 rfl (lv_at hl 0 rfl) ?_
  cases hf
  exact r_retI X hw hr hlk rfl dX0_plugs_43
/-! X0_spansOf -/
def f_X0_spansOf (h : Hs) (a0 : Nat) (p1 : Nat) (M : Mm) : Option Int32 :=
  gd (ok h p1 4) <|
  if (zI M p1 1) = (4 : Int32) then
    gd (ok h a0 0) <|
    (f_X0_fedGaugeAt h a0 (zI M p1 2) M).bind fun z2 =>
    mq z2
      (
       (f_X0_fedGaugeAt h a0 (zI M p1 3) M).bind fun z4 =>
       mq z4
         (
          some (0 : Int32)
         )
         (fun q5 =>
          some (0 : Int32)
         )
      )
      (fun q3 =>
       (f_X0_fedGaugeAt h a0 (zI M p1 3) M).bind fun z6 =>
       mq z6
         (
          some (0 : Int32)
         )
         (fun q7 =>
          gd (ok h q3 4) <|
          gd (ok h q7 4) <|
          some (if (zI M q7 4) < (zI M q3 4) then zI M q7 4 else zI M q3 4)
         )
      )
  else
    some (zI M p1 4)
set_option maxHeartbeats 4000000 in
set_option maxRecDepth 100000 in
theorem c_X0_spansOf {l : Launch} {D : va_G} {cy : Nat → ClassId} {h : Hs} {a0 : Nat} {p1 : Nat} {M : Mm} {z : Int32} (hf : f_X0_spansOf h a0 p1 M = some z) : CtI l D cy yX0_spansOf (wu yX0_spansOf cX0_spansOf 4 (some .int)) ({ frames := 3, cells := 0, slots := 0, locals := 65 }) [.ref a0, .ref p1] h M z M := by
  refine enterI (cc := cX0_spansOf) (maxL := 4) (ret := (some .int)) (by decide) (Nat.le_of_ble_eq_true rfl) ?_
  intro p e s m args below meth c A ls X hw hr hlk hl
  have hl : lv_has ls 4 [(0, .ref a0), (1, .ref p1)] := hl
  unfold f_X0_spansOf at hf
  refine lv_aload_n X.1.1 X.1.2.1 dX0_spansOf_0 rfl (lv_at hl 1 rfl) ?_
  obtain ⟨g_p1, hf⟩ := ogd hf
  refine r_geti (k := 4) (j := 1) X hw rfl inX4 g_p1 rfl (by decide) (by decide) uf_X0_36 rfl dX0_spansOf_1 ?_
  refine lv_iconst (v := (4 : Int32)) X.1.1 X.1.2.1 dX0_spansOf_4 (by decide) ?_
  refine lv_icmp_eq (tgt := 13) X.1.1 X.1.2.1 dX0_spansOf_5 (by decide) (fun c_1 => ?_) (fun c_1 => ?_)
  · skip
    rw [if_pos c_1] at hf
    refine lv_aload_n X.1.1 X.1.2.1 dX0_spansOf_13 rfl (lv_at hl 0 rfl) ?_
    refine lv_aload_n X.1.1 X.1.2.1 dX0_spansOf_14 rfl (lv_at hl 1 rfl) ?_
    refine r_geti (k := 4) (j := 2) X hw rfl inX4 g_p1 rfl (by decide) (by decide) uf_X0_43 rfl dX0_spansOf_15 ?_
    obtain ⟨g_a0, hf⟩ := ogd hf
    obtain ⟨z2, ez2, hf⟩ := obd hf
    refine r_callVQ (As := [.int (zI M p1 2)]) (rest := []) X hw (c_X0_fedGaugeAt ez2) (cwV 1 X.1.2.2.2.2 (guV um_X0_46 ui_X0_fedGaugeAt us_X0_fedGaugeAt un_X0 uo_X0_fedGaugeAt) rfl rfl rfl (by decide +kernel) ⟨Nat.le_of_ble_eq_true rfl, Nat.le_of_ble_eq_true rfl⟩) g_a0 (by decide) rfl rfl hl.1 rfl (Nat.le_of_ble_eq_true rfl) dX0_spansOf_18 ⟨Nat.zero_le _, Nat.zero_le _⟩ (fun H locs hw => ?_)
    obtain ⟨nq3, hf⟩ | ⟨q3, nq3, hf⟩ := omq hf
    · rw [nq3]
      refine lv_astore_nN (lv' := [(2, .null), (0, .ref a0), (1, .ref p1)]) X.1.1 X.1.2.1 dX0_spansOf_21 rfl hl (by decide) rfl (fun ls hl => ?_)
      refine lv_aload_n X.1.1 X.1.2.1 dX0_spansOf_22 rfl (lv_at hl 1 rfl) ?_
      refine lv_aload_n X.1.1 X.1.2.1 dX0_spansOf_23 rfl (lv_at hl 2 rfl) ?_
      refine r_geti (k := 4) (j := 3) X hw rfl inX4 g_p1 rfl (by decide) (by decide) uf_X0_49 rfl dX0_spansOf_24 ?_
      obtain ⟨z4, ez4, hf⟩ := obd hf
      refine r_callVQ (As := [.int (zI M p1 3)]) (rest := []) X hw (c_X0_fedGaugeAt ez4) (cwV 1 X.1.2.2.2.2 (guV um_X0_46 ui_X0_fedGaugeAt us_X0_fedGaugeAt un_X0 uo_X0_fedGaugeAt) rfl rfl rfl (by decide +kernel) ⟨Nat.le_of_ble_eq_true rfl, Nat.le_of_ble_eq_true rfl⟩) g_a0 (by decide) rfl rfl hl.1 rfl (Nat.le_of_ble_eq_true rfl) dX0_spansOf_27 ⟨Nat.zero_le _, Nat.zero_le _⟩ (fun H locs hw => ?_)
      obtain ⟨nq5, hf⟩ | ⟨q5, nq5, hf⟩ := omq hf
      · rw [nq5]
        refine lv_astore_nN (lv' := [(3, .null), (2, .null), (0, .ref a0), (1, .ref p1)]) X.1.1 X.1.2.1 dX0_spansOf_30 rfl hl (by decide) rfl (fun ls hl => ?_)
        refine lv_aload_nN X.1.1 X.1.2.1 dX0_spansOf_31 rfl (lv_at hl 1 rfl) ?_
        refine lv_ifnullN (tgt := 39) X.1.1 X.1.2.1 dX0_spansOf_32 (by decide) ?_
        refine lv_iconst (v := (0 : Int32)) X.1.1 X.1.2.1 dX0_spansOf_39 (by decide) ?_
        refine lv_goto (tgt := 54) X.1.1 X.1.2.1 dX0_spansOf_40 (by decide) ?_
        cases hf
        exact r_retI X hw hr hlk rfl dX0_spansOf_54
      · rw [nq5]
        refine lv_astore_n (lv' := [(3, .ref q5), (2, .null), (0, .ref a0), (1, .ref p1)]) X.1.1 X.1.2.1 dX0_spansOf_30 rfl hl (by decide) rfl (fun ls hl => ?_)
        refine lv_aload_nN X.1.1 X.1.2.1 dX0_spansOf_31 rfl (lv_at hl 1 rfl) ?_
        refine lv_ifnullN (tgt := 39) X.1.1 X.1.2.1 dX0_spansOf_32 (by decide) ?_
        refine lv_iconst (v := (0 : Int32)) X.1.1 X.1.2.1 dX0_spansOf_39 (by decide) ?_
        refine lv_goto (tgt := 54) X.1.1 X.1.2.1 dX0_spansOf_40 (by decide) ?_
        cases hf
        exact r_retI X hw hr hlk rfl dX0_spansOf_54
    · rw [nq3]
      refine lv_astore_n (lv' := [(2, .ref q3), (0, .ref a0), (1, .ref p1)]) X.1.1 X.1.2.1 dX0_spansOf_21 rfl hl (by decide) rfl (fun ls hl => ?_)
      refine lv_aload_n X.1.1 X.1.2.1 dX0_spansOf_22 rfl (lv_at hl 1 rfl) ?_
      refine lv_aload_n X.1.1 X.1.2.1 dX0_spansOf_23 rfl (lv_at hl 2 rfl) ?_
      refine r_geti (k := 4) (j := 3) X hw rfl inX4 g_p1 rfl (by decide) (by decide) uf_X0_49 rfl dX0_spansOf_24 ?_
      obtain ⟨z6, ez6, hf⟩ := obd hf
      refine r_callVQ (As := [.int (zI M p1 3)]) (rest := []) X hw (c_X0_fedGaugeAt ez6) (cwV 1 X.1.2.2.2.2 (guV um_X0_46 ui_X0_fedGaugeAt us_X0_fedGaugeAt un_X0 uo_X0_fedGaugeAt) rfl rfl rfl (by decide +kernel) ⟨Nat.le_of_ble_eq_true rfl, Nat.le_of_ble_eq_true rfl⟩) g_a0 (by decide) rfl rfl hl.1 rfl (Nat.le_of_ble_eq_true rfl) dX0_spansOf_27 ⟨Nat.zero_le _, Nat.zero_le _⟩ (fun H locs hw => ?_)
      obtain ⟨nq7, hf⟩ | ⟨q7, nq7, hf⟩ := omq hf
      · rw [nq7]
        refine lv_astore_nN (lv' := [(3, .null), (2, .ref q3), (0, .ref a0), (1, .ref p1)]) X.1.1 X.1.2.1 dX0_spansOf_30 rfl hl (by decide) rfl (fun ls hl => ?_)
        refine lv_aload_n X.1.1 X.1.2.1 dX0_spansOf_31 rfl (lv_at hl 1 rfl) ?_
        refine lv_ifnull X.1.1 X.1.2.1 dX0_spansOf_32 ?_
        refine lv_aload_nN X.1.1 X.1.2.1 dX0_spansOf_35 rfl (lv_at hl 0 rfl) ?_
        refine lv_ifnonnullN X.1.1 X.1.2.1 dX0_spansOf_36 ?_
        refine lv_iconst (v := (0 : Int32)) X.1.1 X.1.2.1 dX0_spansOf_39 (by decide) ?_
        refine lv_goto (tgt := 54) X.1.1 X.1.2.1 dX0_spansOf_40 (by decide) ?_
        cases hf
        exact r_retI X hw hr hlk rfl dX0_spansOf_54
      · rw [nq7]
        refine lv_astore_n (lv' := [(3, .ref q7), (2, .ref q3), (0, .ref a0), (1, .ref p1)]) X.1.1 X.1.2.1 dX0_spansOf_30 rfl hl (by decide) rfl (fun ls hl => ?_)
        refine lv_aload_n X.1.1 X.1.2.1 dX0_spansOf_31 rfl (lv_at hl 1 rfl) ?_
        refine lv_ifnull X.1.1 X.1.2.1 dX0_spansOf_32 ?_
        refine lv_aload_n X.1.1 X.1.2.1 dX0_spansOf_35 rfl (lv_at hl 0 rfl) ?_
        refine lv_ifnonnull (tgt := 43) X.1.1 X.1.2.1 dX0_spansOf_36 (by decide) ?_
        refine lv_aload_n X.1.1 X.1.2.1 dX0_spansOf_43 rfl (lv_at hl 1 rfl) ?_
        obtain ⟨g_q3, hf⟩ := ogd hf
        refine r_geti (k := 4) (j := 4) X hw rfl inX4 g_q3 rfl (by decide) (by decide) uf_X0_40 rfl dX0_spansOf_44 ?_
        refine lv_aload_n X.1.1 X.1.2.1 dX0_spansOf_47 rfl (lv_at hl 0 rfl) ?_
        obtain ⟨g_q7, hf⟩ := ogd hf
        refine r_geti (k := 4) (j := 4) X hw rfl inX4 g_q7 rfl (by decide) (by decide) uf_X0_40 rfl dX0_spansOf_48 ?_
        refine va_mmin X.1.1 X.1.2.1 (X.1.2.2.1.trans hl.1.symm) X.1.2.2.2.1 (X.1.2.2.2.2 _ um_X0_52) (X.1.2.2.2.2 _ ut_Lib_Math_min_name) (X.1.2.2.2.2 _ un_java_lang_Math) (X.1.2.2.2.2 _ uo_Lib_Math_min_name) (Nat.le_of_ble_eq_true rfl) (Nat.le_of_ble_eq_true rfl) (Nat.zero_le _) (Nat.zero_le _) dX0_spansOf_51 ?_
        cases hf
        exact r_retI X hw hr hlk rfl dX0_spansOf_54
  · skip
    rw [if_neg c_1] at hf
    refine lv_aload_n X.1.1 X.1.2.1 dX0_spansOf_8 rfl (lv_at hl 1 rfl) ?_
    refine r_geti (k := 4) (j := 4) X hw rfl inX4 g_p1 rfl (by decide) (by decide) uf_X0_40 rfl dX0_spansOf_9 ?_
    cases hf
    exact r_retI X hw hr hlk rfl dX0_spansOf_12
/-! X6_readingOrGap -/
def f_X6_readingOrGap (h : Hs) (p1 : Int64) (M : Mm) : Option Int32 :=
  (f_X8_isWithin h p1 (-1000000 : Int32) (1000000 : Int32) M).bind fun z1 =>
  if z1 = 0 then
    some (2000000 : Int32)
  else
    some p1.toInt32
set_option maxHeartbeats 4000000 in
set_option maxRecDepth 100000 in
theorem c_X6_readingOrGap {l : Launch} {D : va_G} {cy : Nat → ClassId} {h : Hs} {p1 : Int64} {M : Mm} {z : Int32} (hf : f_X6_readingOrGap h p1 M = some z) : CtI l D cy yX6_readingOrGap (wu yX6_readingOrGap cX6_readingOrGap 2 (some .int)) ({ frames := 1, cells := 0, slots := 0, locals := 23 }) [.long p1] h M z M := by
  refine enterI (cc := cX6_readingOrGap) (maxL := 2) (ret := (some .int)) (by decide) (Nat.le_of_ble_eq_true rfl) ?_
  intro p e s m args below meth c A ls X hw hr hlk hl
  have hl : lv_has ls 2 [(0, .long p1)] := hl
  unfold f_X6_readingOrGap at hf
  refine lv_lload_n X.1.1 X.1.2.1 dX6_readingOrGap_0 rfl (lv_at hl 0 rfl) ?_
  refine lv_ldc (v := (-1000000 : Int32)) X.1.1 X.1.2.1 X.1.2.2.2.1 (X.1.2.2.2.2 _ uc_X6_36) dX6_readingOrGap_1 ?_
  refine lv_ldc (v := (1000000 : Int32)) X.1.1 X.1.2.1 X.1.2.2.2.1 (X.1.2.2.2.2 _ uc_X6_37) dX6_readingOrGap_3 ?_
  obtain ⟨z1, ez1, hf⟩ := obd hf
  refine r_callSNI (host := RX8) (As := [.long p1, .int (-1000000 : Int32), .int (1000000 : Int32)]) (rest := []) X hw (c_X8_isWithin ez1) ⟨va_cnB 3 X.1.2.2.2.2 (guN uo_X8_isWithin) rfl rfl rfl (X.2.2.1.1 _ (List.mem_of_getElem? (i := 8) rfl)) (X.1.2.2.2.2 _ un_X8) (by decide +kernel) ⟨Nat.le_of_ble_eq_true rfl, Nat.le_of_ble_eq_true rfl⟩, X.1.2.2.2.2 _ ut_X8_isWithin, trivial⟩ rfl hl.1 rfl (Nat.le_of_ble_eq_true rfl) dX6_readingOrGap_5 ⟨Nat.zero_le _, Nat.zero_le _⟩ (fun H locs hw => ?_)
  refine lv_if_eq (tgt := 16) X.1.1 X.1.2.1 dX6_readingOrGap_8 (by decide) (fun c_2 => ?_) (fun c_2 => ?_)
  · skip
    rw [if_pos c_2] at hf
    refine lv_ldc (v := (2000000 : Int32)) X.1.1 X.1.2.1 X.1.2.2.2.1 (X.1.2.2.2.2 _ uc_X6_19) dX6_readingOrGap_16 ?_
    cases hf
    exact r_retI X hw hr hlk rfl dX6_readingOrGap_18
  · skip
    rw [if_neg c_2] at hf
    refine lv_lload_n X.1.1 X.1.2.1 dX6_readingOrGap_11 rfl (lv_at hl 0 rfl) ?_
    refine lv_l2i X.1.1 X.1.2.1 dX6_readingOrGap_12 rfl ?_
    refine lv_goto (tgt := 18) X.1.1 X.1.2.1 dX6_readingOrGap_13 (by decide) ?_
    cases hf
    exact r_retI X hw hr hlk rfl dX6_readingOrGap_18
/-! X0_sumOf -/
def f_X0_sumOf (h : Hs) (p1 : Int32) (p2 : Int32) (M : Mm) : Option Int32 :=
  if p1 = (2000000 : Int32) then
    some (2000000 : Int32)
  else
    if ¬ p2 = (2000000 : Int32) then
      if p1 = (3000000 : Int32) then
        some (3000000 : Int32)
      else
        if ¬ p2 = (3000000 : Int32) then
          (f_X6_readingOrGap h (p1.toInt64 + p2.toInt64) M).bind fun z5 =>
          some z5
        else
          some (3000000 : Int32)
    else
      some (2000000 : Int32)
set_option maxHeartbeats 4000000 in
set_option maxRecDepth 100000 in
theorem c_X0_sumOf {l : Launch} {D : va_G} {cy : Nat → ClassId} {h : Hs} {p1 : Int32} {p2 : Int32} {M : Mm} {z : Int32} (hf : f_X0_sumOf h p1 p2 M = some z) : CtI l D cy yX0_sumOf (wu yX0_sumOf cX0_sumOf 2 (some .int)) ({ frames := 2, cells := 0, slots := 0, locals := 44 }) [.int p1, .int p2] h M z M := by
  refine enterI (cc := cX0_sumOf) (maxL := 2) (ret := (some .int)) (by decide) (Nat.le_of_ble_eq_true rfl) ?_
  intro p e s m args below meth c A ls X hw hr hlk hl
  have hl : lv_has ls 2 [(0, .int p1), (1, .int p2)] := hl
  unfold f_X0_sumOf at hf
  refine lv_iload_n X.1.1 X.1.2.1 dX0_sumOf_0 rfl (lv_at hl 0 rfl) ?_
  refine lv_ldc (v := (2000000 : Int32)) X.1.1 X.1.2.1 X.1.2.2.2.1 (X.1.2.2.2.2 _ uc_X0_66) dX0_sumOf_1 ?_
  refine lv_icmp_eq (tgt := 12) X.1.1 X.1.2.1 dX0_sumOf_3 (by decide) (fun c_1 => ?_) (fun c_1 => ?_)
  · skip
    rw [if_pos c_1] at hf
    refine lv_ldc (v := (2000000 : Int32)) X.1.1 X.1.2.1 X.1.2.2.2.1 (X.1.2.2.2.2 _ uc_X0_66) dX0_sumOf_12 ?_
    cases hf
    exact r_retI X hw hr hlk rfl dX0_sumOf_14
  · skip
    rw [if_neg c_1] at hf
    refine lv_iload_n X.1.1 X.1.2.1 dX0_sumOf_6 rfl (lv_at hl 1 rfl) ?_
    refine lv_ldc (v := (2000000 : Int32)) X.1.1 X.1.2.1 X.1.2.2.2.1 (X.1.2.2.2.2 _ uc_X0_66) dX0_sumOf_7 ?_
    refine lv_icmp_ne (tgt := 15) X.1.1 X.1.2.1 dX0_sumOf_9 (by decide) (fun c_2 => ?_) (fun c_2 => ?_)
    · skip
      rw [if_pos c_2] at hf
      refine lv_iload_n X.1.1 X.1.2.1 dX0_sumOf_15 rfl (lv_at hl 0 rfl) ?_
      refine lv_ldc (v := (3000000 : Int32)) X.1.1 X.1.2.1 X.1.2.2.2.1 (X.1.2.2.2.2 _ uc_X0_62) dX0_sumOf_16 ?_
      refine lv_icmp_eq (tgt := 27) X.1.1 X.1.2.1 dX0_sumOf_18 (by decide) (fun c_3 => ?_) (fun c_3 => ?_)
      · skip
        rw [if_pos c_3] at hf
        refine lv_ldc (v := (3000000 : Int32)) X.1.1 X.1.2.1 X.1.2.2.2.1 (X.1.2.2.2.2 _ uc_X0_62) dX0_sumOf_27 ?_
        cases hf
        exact r_retI X hw hr hlk rfl dX0_sumOf_29
      · skip
        rw [if_neg c_3] at hf
        refine lv_iload_n X.1.1 X.1.2.1 dX0_sumOf_21 rfl (lv_at hl 1 rfl) ?_
        refine lv_ldc (v := (3000000 : Int32)) X.1.1 X.1.2.1 X.1.2.2.2.1 (X.1.2.2.2.2 _ uc_X0_62) dX0_sumOf_22 ?_
        refine lv_icmp_ne (tgt := 30) X.1.1 X.1.2.1 dX0_sumOf_24 (by decide) (fun c_4 => ?_) (fun c_4 => ?_)
        · skip
          rw [if_pos c_4] at hf
          refine lv_iload_n X.1.1 X.1.2.1 dX0_sumOf_30 rfl (lv_at hl 0 rfl) ?_
          refine lv_i2l X.1.1 X.1.2.1 dX0_sumOf_31 rfl ?_
          refine lv_iload_n X.1.1 X.1.2.1 dX0_sumOf_32 rfl (lv_at hl 1 rfl) ?_
          refine lv_i2l X.1.1 X.1.2.1 dX0_sumOf_33 rfl ?_
          refine lv_ladd X.1.1 X.1.2.1 dX0_sumOf_34 ?_
          obtain ⟨z5, ez5, hf⟩ := obd hf
          refine r_callSI (As := [.long (p1.toInt64 + p2.toInt64)]) (rest := []) X hw (c_X6_readingOrGap ez5) (va_cwS 1 X.1.2.2.2.2 (guS um_X0_67 ut_X6_readingOrGap un_X6 uo_X6_readingOrGap) rfl rfl rfl (by decide +kernel) ⟨Nat.le_of_ble_eq_true rfl, Nat.le_of_ble_eq_true rfl⟩) rfl hl.1 rfl (Nat.le_of_ble_eq_true rfl) dX0_sumOf_35 ⟨Nat.zero_le _, Nat.zero_le _⟩ (fun H locs hw => ?_)
          cases hf
          exact r_retI X hw hr hlk rfl dX0_sumOf_38
        · skip
          rw [if_neg (fun z => z c_4)] at hf
          refine lv_ldc (v := (3000000 : Int32)) X.1.1 X.1.2.1 X.1.2.2.2.1 (X.1.2.2.2.2 _ uc_X0_62) dX0_sumOf_27 ?_
          cases hf
          exact r_retI X hw hr hlk rfl dX0_sumOf_29
    · skip
      rw [if_neg (fun z => z c_2)] at hf
      refine lv_ldc (v := (2000000 : Int32)) X.1.1 X.1.2.1 X.1.2.2.2.1 (X.1.2.2.2.2 _ uc_X0_66) dX0_sumOf_12 ?_
      cases hf
      exact r_retI X hw hr hlk rfl dX0_sumOf_14
/-! X0_cellOf -/
def f_X0_cellOf (h : Hs) (a0 : Nat) (p1 : Nat) (p2 : Int32) (M : Mm) : Option Int32 :=
  gd (ok h p1 4) <|
  if (zI M p1 1) = (4 : Int32) then
    gd (ok h a0 0) <|
    (f_X0_fedGaugeAt h a0 (zI M p1 2) M).bind fun z2 =>
    mq z2
      (
       (f_X0_fedGaugeAt h a0 (zI M p1 3) M).bind fun z4 =>
       mq z4
         (
          some (3000000 : Int32)
         )
         (fun q5 =>
          some (3000000 : Int32)
         )
      )
      (fun q3 =>
       (f_X0_fedGaugeAt h a0 (zI M p1 3) M).bind fun z6 =>
       mq z6
         (
          some (3000000 : Int32)
         )
         (fun q7 =>
          gd (ok h q3 4) <|
          (f_X4_cellAt h q3 p2 M).bind fun z8 =>
          gd (ok h q7 4) <|
          (f_X4_cellAt h q7 p2 M).bind fun z9 =>
          (f_X0_sumOf h z8 z9 M).bind fun z10 =>
          some z10
         )
      )
  else
    (f_X4_cellAt h p1 p2 M).bind fun z11 =>
    some z11
set_option maxHeartbeats 4000000 in
set_option maxRecDepth 100000 in
theorem c_X0_cellOf {l : Launch} {D : va_G} {cy : Nat → ClassId} {h : Hs} {a0 : Nat} {p1 : Nat} {p2 : Int32} {M : Mm} {z : Int32} (hf : f_X0_cellOf h a0 p1 p2 M = some z) : CtI l D cy yX0_cellOf (wu yX0_cellOf cX0_cellOf 5 (some .int)) ({ frames := 3, cells := 0, slots := 0, locals := 65 }) [.ref a0, .ref p1, .int p2] h M z M := by
  refine enterI (cc := cX0_cellOf) (maxL := 5) (ret := (some .int)) (by decide) (Nat.le_of_ble_eq_true rfl) ?_
  intro p e s m args below meth c A ls X hw hr hlk hl
  have hl : lv_has ls 5 [(0, .ref a0), (1, .ref p1), (2, .int p2)] := hl
  unfold f_X0_cellOf at hf
  refine lv_aload_n X.1.1 X.1.2.1 dX0_cellOf_0 rfl (lv_at hl 1 rfl) ?_
  obtain ⟨g_p1, hf⟩ := ogd hf
  refine r_geti (k := 4) (j := 1) X hw rfl inX4 g_p1 rfl (by decide) (by decide) uf_X0_36 rfl dX0_cellOf_1 ?_
  refine lv_iconst (v := (4 : Int32)) X.1.1 X.1.2.1 dX0_cellOf_4 (by decide) ?_
  refine lv_icmp_eq (tgt := 14) X.1.1 X.1.2.1 dX0_cellOf_5 (by decide) (fun c_1 => ?_) (fun c_1 => ?_)
  · skip
    rw [if_pos c_1] at hf
    refine lv_aload_n X.1.1 X.1.2.1 dX0_cellOf_14 rfl (lv_at hl 0 rfl) ?_
    refine lv_aload_n X.1.1 X.1.2.1 dX0_cellOf_15 rfl (lv_at hl 1 rfl) ?_
    refine r_geti (k := 4) (j := 2) X hw rfl inX4 g_p1 rfl (by decide) (by decide) uf_X0_43 rfl dX0_cellOf_16 ?_
    obtain ⟨g_a0, hf⟩ := ogd hf
    obtain ⟨z2, ez2, hf⟩ := obd hf
    refine r_callVQ (As := [.int (zI M p1 2)]) (rest := []) X hw (c_X0_fedGaugeAt ez2) (cwV 1 X.1.2.2.2.2 (guV um_X0_46 ui_X0_fedGaugeAt us_X0_fedGaugeAt un_X0 uo_X0_fedGaugeAt) rfl rfl rfl (by decide +kernel) ⟨Nat.le_of_ble_eq_true rfl, Nat.le_of_ble_eq_true rfl⟩) g_a0 (by decide) rfl rfl hl.1 rfl (Nat.le_of_ble_eq_true rfl) dX0_cellOf_19 ⟨Nat.zero_le _, Nat.zero_le _⟩ (fun H locs hw => ?_)
    obtain ⟨nq3, hf⟩ | ⟨q3, nq3, hf⟩ := omq hf
    · rw [nq3]
      refine lv_astore_nN (lv' := [(3, .null), (0, .ref a0), (1, .ref p1), (2, .int p2)]) X.1.1 X.1.2.1 dX0_cellOf_22 rfl hl (by decide) rfl (fun ls hl => ?_)
      refine lv_aload_n X.1.1 X.1.2.1 dX0_cellOf_23 rfl (lv_at hl 1 rfl) ?_
      refine lv_aload_n X.1.1 X.1.2.1 dX0_cellOf_24 rfl (lv_at hl 2 rfl) ?_
      refine r_geti (k := 4) (j := 3) X hw rfl inX4 g_p1 rfl (by decide) (by decide) uf_X0_49 rfl dX0_cellOf_25 ?_
      obtain ⟨z4, ez4, hf⟩ := obd hf
      refine r_callVQ (As := [.int (zI M p1 3)]) (rest := []) X hw (c_X0_fedGaugeAt ez4) (cwV 1 X.1.2.2.2.2 (guV um_X0_46 ui_X0_fedGaugeAt us_X0_fedGaugeAt un_X0 uo_X0_fedGaugeAt) rfl rfl rfl (by decide +kernel) ⟨Nat.le_of_ble_eq_true rfl, Nat.le_of_ble_eq_true rfl⟩) g_a0 (by decide) rfl rfl hl.1 rfl (Nat.le_of_ble_eq_true rfl) dX0_cellOf_28 ⟨Nat.zero_le _, Nat.zero_le _⟩ (fun H locs hw => ?_)
      obtain ⟨nq5, hf⟩ | ⟨q5, nq5, hf⟩ := omq hf
      · rw [nq5]
        refine lv_astoreN (lv' := [(4, .null), (3, .null), (0, .ref a0), (1, .ref p1), (2, .int p2)]) X.1.1 X.1.2.1 dX0_cellOf_31 hl (by decide) rfl (fun ls hl => ?_)
        refine lv_aload_nN X.1.1 X.1.2.1 dX0_cellOf_33 rfl (lv_at hl 1 rfl) ?_
        refine lv_ifnullN (tgt := 42) X.1.1 X.1.2.1 dX0_cellOf_34 (by decide) ?_
        refine lv_ldc (v := (3000000 : Int32)) X.1.1 X.1.2.1 X.1.2.2.2.1 (X.1.2.2.2.2 _ uc_X0_62) dX0_cellOf_42 ?_
        cases hf
        exact r_retI X hw hr hlk rfl dX0_cellOf_44
      · rw [nq5]
        refine lv_astore (lv' := [(4, .ref q5), (3, .null), (0, .ref a0), (1, .ref p1), (2, .int p2)]) X.1.1 X.1.2.1 dX0_cellOf_31 hl (by decide) rfl (fun ls hl => ?_)
        refine lv_aload_nN X.1.1 X.1.2.1 dX0_cellOf_33 rfl (lv_at hl 1 rfl) ?_
        refine lv_ifnullN (tgt := 42) X.1.1 X.1.2.1 dX0_cellOf_34 (by decide) ?_
        refine lv_ldc (v := (3000000 : Int32)) X.1.1 X.1.2.1 X.1.2.2.2.1 (X.1.2.2.2.2 _ uc_X0_62) dX0_cellOf_42 ?_
        cases hf
        exact r_retI X hw hr hlk rfl dX0_cellOf_44
    · rw [nq3]
      refine lv_astore_n (lv' := [(3, .ref q3), (0, .ref a0), (1, .ref p1), (2, .int p2)]) X.1.1 X.1.2.1 dX0_cellOf_22 rfl hl (by decide) rfl (fun ls hl => ?_)
      refine lv_aload_n X.1.1 X.1.2.1 dX0_cellOf_23 rfl (lv_at hl 1 rfl) ?_
      refine lv_aload_n X.1.1 X.1.2.1 dX0_cellOf_24 rfl (lv_at hl 2 rfl) ?_
      refine r_geti (k := 4) (j := 3) X hw rfl inX4 g_p1 rfl (by decide) (by decide) uf_X0_49 rfl dX0_cellOf_25 ?_
      obtain ⟨z6, ez6, hf⟩ := obd hf
      refine r_callVQ (As := [.int (zI M p1 3)]) (rest := []) X hw (c_X0_fedGaugeAt ez6) (cwV 1 X.1.2.2.2.2 (guV um_X0_46 ui_X0_fedGaugeAt us_X0_fedGaugeAt un_X0 uo_X0_fedGaugeAt) rfl rfl rfl (by decide +kernel) ⟨Nat.le_of_ble_eq_true rfl, Nat.le_of_ble_eq_true rfl⟩) g_a0 (by decide) rfl rfl hl.1 rfl (Nat.le_of_ble_eq_true rfl) dX0_cellOf_28 ⟨Nat.zero_le _, Nat.zero_le _⟩ (fun H locs hw => ?_)
      obtain ⟨nq7, hf⟩ | ⟨q7, nq7, hf⟩ := omq hf
      · rw [nq7]
        refine lv_astoreN (lv' := [(4, .null), (3, .ref q3), (0, .ref a0), (1, .ref p1), (2, .int p2)]) X.1.1 X.1.2.1 dX0_cellOf_31 hl (by decide) rfl (fun ls hl => ?_)
        refine lv_aload_n X.1.1 X.1.2.1 dX0_cellOf_33 rfl (lv_at hl 1 rfl) ?_
        refine lv_ifnull X.1.1 X.1.2.1 dX0_cellOf_34 ?_
        refine lv_aloadN X.1.1 X.1.2.1 dX0_cellOf_37 (lv_at hl 0 rfl) ?_
        refine lv_ifnonnullN X.1.1 X.1.2.1 dX0_cellOf_39 ?_
        refine lv_ldc (v := (3000000 : Int32)) X.1.1 X.1.2.1 X.1.2.2.2.1 (X.1.2.2.2.2 _ uc_X0_62) dX0_cellOf_42 ?_
        cases hf
        exact r_retI X hw hr hlk rfl dX0_cellOf_44
      · rw [nq7]
        refine lv_astore (lv' := [(4, .ref q7), (3, .ref q3), (0, .ref a0), (1, .ref p1), (2, .int p2)]) X.1.1 X.1.2.1 dX0_cellOf_31 hl (by decide) rfl (fun ls hl => ?_)
        refine lv_aload_n X.1.1 X.1.2.1 dX0_cellOf_33 rfl (lv_at hl 1 rfl) ?_
        refine lv_ifnull X.1.1 X.1.2.1 dX0_cellOf_34 ?_
        refine lv_aload X.1.1 X.1.2.1 dX0_cellOf_37 (lv_at hl 0 rfl) ?_
        refine lv_ifnonnull (tgt := 45) X.1.1 X.1.2.1 dX0_cellOf_39 (by decide) ?_
        refine lv_aload_n X.1.1 X.1.2.1 dX0_cellOf_45 rfl (lv_at hl 1 rfl) ?_
        refine lv_iload_n X.1.1 X.1.2.1 dX0_cellOf_46 rfl (lv_at hl 4 rfl) ?_
        obtain ⟨g_q3, hf⟩ := ogd hf
        obtain ⟨z8, ez8, hf⟩ := obd hf
        refine r_callVI (As := [.int p2]) (rest := []) X hw (c_X4_cellAt ez8) (cwV 1 X.1.2.2.2.2 (guV um_X0_58 ui_X4_cellAt us_X4_cellAt un_X4 uo_X4_cellAt) rfl rfl rfl (by decide +kernel) ⟨Nat.le_of_ble_eq_true rfl, Nat.le_of_ble_eq_true rfl⟩) g_q3 (by decide) rfl rfl hl.1 rfl (Nat.le_of_ble_eq_true rfl) dX0_cellOf_47 ⟨Nat.zero_le _, Nat.zero_le _⟩ (fun H locs hw => ?_)
        refine lv_aload X.1.1 X.1.2.1 dX0_cellOf_50 (lv_at hl 0 rfl) ?_
        refine lv_iload_n X.1.1 X.1.2.1 dX0_cellOf_52 rfl (lv_at hl 4 rfl) ?_
        obtain ⟨g_q7, hf⟩ := ogd hf
        obtain ⟨z9, ez9, hf⟩ := obd hf
        refine r_callVI (As := [.int p2]) (rest := [.int z8]) X hw (c_X4_cellAt ez9) (cwV 1 X.1.2.2.2.2 (guV um_X0_58 ui_X4_cellAt us_X4_cellAt un_X4 uo_X4_cellAt) rfl rfl rfl (by decide +kernel) ⟨Nat.le_of_ble_eq_true rfl, Nat.le_of_ble_eq_true rfl⟩) g_q7 (by decide) rfl rfl hl.1 rfl (Nat.le_of_ble_eq_true rfl) dX0_cellOf_53 ⟨Nat.zero_le _, Nat.zero_le _⟩ (fun H locs hw => ?_)
        obtain ⟨z10, ez10, hf⟩ := obd hf
        refine r_callSI (As := [.int z8, .int z9]) (rest := []) X hw (c_X0_sumOf ez10) (va_cwS 2 X.1.2.2.2.2 (guS um_X0_63 ut_X0_sumOf un_X0 uo_X0_sumOf) rfl rfl rfl (by decide +kernel) ⟨Nat.le_of_ble_eq_true rfl, Nat.le_of_ble_eq_true rfl⟩) rfl hl.1 rfl (Nat.le_of_ble_eq_true rfl) dX0_cellOf_56 ⟨Nat.zero_le _, Nat.zero_le _⟩ (fun H locs hw => ?_)
        cases hf
        exact r_retI X hw hr hlk rfl dX0_cellOf_59
  · skip
    rw [if_neg c_1] at hf
    refine lv_aload_n X.1.1 X.1.2.1 dX0_cellOf_8 rfl (lv_at hl 1 rfl) ?_
    refine lv_iload_n X.1.1 X.1.2.1 dX0_cellOf_9 rfl (lv_at hl 2 rfl) ?_
    obtain ⟨z11, ez11, hf⟩ := obd hf
    refine r_callVI (As := [.int p2]) (rest := []) X hw (c_X4_cellAt ez11) (cwV 1 X.1.2.2.2.2 (guV um_X0_58 ui_X4_cellAt us_X4_cellAt un_X4 uo_X4_cellAt) rfl rfl rfl (by decide +kernel) ⟨Nat.le_of_ble_eq_true rfl, Nat.le_of_ble_eq_true rfl⟩) g_p1 (by decide) rfl rfl hl.1 rfl (Nat.le_of_ble_eq_true rfl) dX0_cellOf_10 ⟨Nat.zero_le _, Nat.zero_le _⟩ (fun H locs hw => ?_)
    cases hf
    exact r_retI X hw hr hlk rfl dX0_cellOf_13
/-! X2_copyFrom -/
def f_X2_copyFrom (h : Hs) (a0 : Nat) (p1 : Nat) (M : Mm) : Option Mm :=
  gd (ok h a0 2) <|
  dq (zR h a0 0) fun q1 =>
  gd (ok h p1 2) <|
  dq (zR h p1 0) fun q2 =>
  gd (ok h q1 3) <|
  (f_X3_copyFrom h q1 q2 M).bind fun z3 =>
  dq (zR h a0 1) fun q4 =>
  dq (zR h p1 1) fun q5 =>
  gd (ok h q4 3) <|
  (f_X3_copyFrom h q4 q5 z3).bind fun z6 =>
  dq (zR h a0 2) fun q7 =>
  dq (zR h p1 2) fun q8 =>
  gd (ok h q7 3) <|
  (f_X3_copyFrom h q7 q8 z6).bind fun z9 =>
  lt_ (sI z9 a0 3 (zI z9 p1 3)) fun M10 =>
  lt_ (sI M10 a0 4 (zI M10 p1 4)) fun M11 =>
  lt_ (sI M11 a0 5 (zI M11 p1 5)) fun M12 =>
  lt_ (sI M12 a0 6 (zI M12 p1 6)) fun M13 =>
  lt_ (sI M13 a0 7 (zI M13 p1 7)) fun M14 =>
  lt_ (sI M14 a0 8 (zI M14 p1 8)) fun M15 =>
  some M15
set_option maxHeartbeats 4000000 in
set_option maxRecDepth 100000 in
theorem c_X2_copyFrom {l : Launch} {D : va_G} {cy : Nat → ClassId} {h : Hs} {a0 : Nat} {p1 : Nat} {M : Mm} {z : Mm} (hf : f_X2_copyFrom h a0 p1 M = some z) : CtV l D cy yX2_copyFrom (wu yX2_copyFrom cX2_copyFrom 2 none) ({ frames := 2, cells := 0, slots := 0, locals := 43 }) [.ref a0, .ref p1] h M z := by
  refine enterV (cc := cX2_copyFrom) (maxL := 2) (ret := none) (by decide) (Nat.le_of_ble_eq_true rfl) ?_
  intro p e s m args below meth c A ls X hw hr hlk hl
  have hl : lv_has ls 2 [(0, .ref a0), (1, .ref p1)] := hl
  unfold f_X2_copyFrom at hf
  refine lv_aload_n X.1.1 X.1.2.1 dX2_copyFrom_0 rfl (lv_at hl 0 rfl) ?_
  obtain ⟨g_a0, hf⟩ := ogd hf
  obtain ⟨q1, eq1, hf⟩ := odq hf
  refine r_getq (k := 2) (j := 0) X hw rfl inX2 g_a0 rfl (by decide) (by decide) uf_X2_14 rfl dX2_copyFrom_1 eq1 ?_
  refine lv_aload_n X.1.1 X.1.2.1 dX2_copyFrom_4 rfl (lv_at hl 1 rfl) ?_
  obtain ⟨g_p1, hf⟩ := ogd hf
  obtain ⟨q2, eq2, hf⟩ := odq hf
  refine r_getq (k := 2) (j := 0) X hw rfl inX2 g_p1 rfl (by decide) (by decide) uf_X2_14 rfl dX2_copyFrom_5 eq2 ?_
  obtain ⟨g_q1, hf⟩ := ogd hf
  obtain ⟨z3, ez3, hf⟩ := obd hf
  refine r_callVV (As := [.ref q2]) (rest := []) X hw (c_X3_copyFrom ez3) (cwV 1 X.1.2.2.2.2 (guV um_X2_33 ui_X3_copyFrom us_X3_copyFrom un_X3 uo_X3_copyFrom) rfl rfl rfl (by decide +kernel) ⟨Nat.le_of_ble_eq_true rfl, Nat.le_of_ble_eq_true rfl⟩) g_q1 (by decide) rfl rfl hl.1 rfl (Nat.le_of_ble_eq_true rfl) dX2_copyFrom_8 ⟨Nat.zero_le _, Nat.zero_le _⟩ (fun H locs hw => ?_)
  refine lv_aload_n X.1.1 X.1.2.1 dX2_copyFrom_11 rfl (lv_at hl 0 rfl) ?_
  obtain ⟨q4, eq4, hf⟩ := odq hf
  refine r_getq (k := 2) (j := 1) X hw rfl inX2 g_a0 rfl (by decide) (by decide) uf_X2_20 rfl dX2_copyFrom_12 eq4 ?_
  refine lv_aload_n X.1.1 X.1.2.1 dX2_copyFrom_15 rfl (lv_at hl 1 rfl) ?_
  obtain ⟨q5, eq5, hf⟩ := odq hf
  refine r_getq (k := 2) (j := 1) X hw rfl inX2 g_p1 rfl (by decide) (by decide) uf_X2_20 rfl dX2_copyFrom_16 eq5 ?_
  obtain ⟨g_q4, hf⟩ := ogd hf
  obtain ⟨z6, ez6, hf⟩ := obd hf
  refine r_callVV (As := [.ref q5]) (rest := []) X hw (c_X3_copyFrom ez6) (cwV 1 X.1.2.2.2.2 (guV um_X2_33 ui_X3_copyFrom us_X3_copyFrom un_X3 uo_X3_copyFrom) rfl rfl rfl (by decide +kernel) ⟨Nat.le_of_ble_eq_true rfl, Nat.le_of_ble_eq_true rfl⟩) g_q4 (by decide) rfl rfl hl.1 rfl (Nat.le_of_ble_eq_true rfl) dX2_copyFrom_19 ⟨Nat.zero_le _, Nat.zero_le _⟩ (fun H locs hw => ?_)
  refine lv_aload_n X.1.1 X.1.2.1 dX2_copyFrom_22 rfl (lv_at hl 0 rfl) ?_
  obtain ⟨q7, eq7, hf⟩ := odq hf
  refine r_getq (k := 2) (j := 2) X hw rfl inX2 g_a0 rfl (by decide) (by decide) uf_X2_23 rfl dX2_copyFrom_23 eq7 ?_
  refine lv_aload_n X.1.1 X.1.2.1 dX2_copyFrom_26 rfl (lv_at hl 1 rfl) ?_
  obtain ⟨q8, eq8, hf⟩ := odq hf
  refine r_getq (k := 2) (j := 2) X hw rfl inX2 g_p1 rfl (by decide) (by decide) uf_X2_23 rfl dX2_copyFrom_27 eq8 ?_
  obtain ⟨g_q7, hf⟩ := ogd hf
  obtain ⟨z9, ez9, hf⟩ := obd hf
  refine r_callVV (As := [.ref q8]) (rest := []) X hw (c_X3_copyFrom ez9) (cwV 1 X.1.2.2.2.2 (guV um_X2_33 ui_X3_copyFrom us_X3_copyFrom un_X3 uo_X3_copyFrom) rfl rfl rfl (by decide +kernel) ⟨Nat.le_of_ble_eq_true rfl, Nat.le_of_ble_eq_true rfl⟩) g_q7 (by decide) rfl rfl hl.1 rfl (Nat.le_of_ble_eq_true rfl) dX2_copyFrom_30 ⟨Nat.zero_le _, Nat.zero_le _⟩ (fun H locs hw => ?_)
  refine lv_aload_n X.1.1 X.1.2.1 dX2_copyFrom_33 rfl (lv_at hl 0 rfl) ?_
  refine lv_aload_n X.1.1 X.1.2.1 dX2_copyFrom_34 rfl (lv_at hl 1 rfl) ?_
  refine r_geti (k := 2) (j := 3) X hw rfl inX2 g_p1 rfl (by decide) (by decide) uf_X2_26 rfl dX2_copyFrom_35 ?_
  refine r_puti (k := 2) (j := 3) X hw rfl inX2 tyX2_ok nmX2 g_a0 rfl (by decide) (by decide) uf_X2_26 rfl rfl rfl rfl dX2_copyFrom_38 (fun H locs hw => ?_)
  obtain ⟨M10, eM10, hf⟩ := olt hf
  rw [← eM10] at hw
  refine lv_aload_n X.1.1 X.1.2.1 dX2_copyFrom_41 rfl (lv_at hl 0 rfl) ?_
  refine lv_aload_n X.1.1 X.1.2.1 dX2_copyFrom_42 rfl (lv_at hl 1 rfl) ?_
  refine r_geti (k := 2) (j := 4) X hw rfl inX2 g_p1 rfl (by decide) (by decide) uf_X2_37 rfl dX2_copyFrom_43 ?_
  refine r_puti (k := 2) (j := 4) X hw rfl inX2 tyX2_ok nmX2 g_a0 rfl (by decide) (by decide) uf_X2_37 rfl rfl rfl rfl dX2_copyFrom_46 (fun H locs hw => ?_)
  obtain ⟨M11, eM11, hf⟩ := olt hf
  rw [← eM11] at hw
  refine lv_aload_n X.1.1 X.1.2.1 dX2_copyFrom_49 rfl (lv_at hl 0 rfl) ?_
  refine lv_aload_n X.1.1 X.1.2.1 dX2_copyFrom_50 rfl (lv_at hl 1 rfl) ?_
  refine r_geti (k := 2) (j := 5) X hw rfl inX2 g_p1 rfl (by decide) (by decide) uf_X2_40 rfl dX2_copyFrom_51 ?_
  refine r_puti (k := 2) (j := 5) X hw rfl inX2 tyX2_ok nmX2 g_a0 rfl (by decide) (by decide) uf_X2_40 rfl rfl rfl rfl dX2_copyFrom_54 (fun H locs hw => ?_)
  obtain ⟨M12, eM12, hf⟩ := olt hf
  rw [← eM12] at hw
  refine lv_aload_n X.1.1 X.1.2.1 dX2_copyFrom_57 rfl (lv_at hl 0 rfl) ?_
  refine lv_aload_n X.1.1 X.1.2.1 dX2_copyFrom_58 rfl (lv_at hl 1 rfl) ?_
  refine r_geti (k := 2) (j := 6) X hw rfl inX2 g_p1 rfl (by decide) (by decide) uf_X2_43 rfl dX2_copyFrom_59 ?_
  refine r_puti (k := 2) (j := 6) X hw rfl inX2 tyX2_ok nmX2 g_a0 rfl (by decide) (by decide) uf_X2_43 rfl rfl rfl rfl dX2_copyFrom_62 (fun H locs hw => ?_)
  obtain ⟨M13, eM13, hf⟩ := olt hf
  rw [← eM13] at hw
  refine lv_aload_n X.1.1 X.1.2.1 dX2_copyFrom_65 rfl (lv_at hl 0 rfl) ?_
  refine lv_aload_n X.1.1 X.1.2.1 dX2_copyFrom_66 rfl (lv_at hl 1 rfl) ?_
  refine r_geti (k := 2) (j := 7) X hw rfl inX2 g_p1 rfl (by decide) (by decide) uf_X2_30 rfl dX2_copyFrom_67 ?_
  refine r_puti (k := 2) (j := 7) X hw rfl inX2 tyX2_ok nmX2 g_a0 rfl (by decide) (by decide) uf_X2_30 rfl rfl rfl rfl dX2_copyFrom_70 (fun H locs hw => ?_)
  obtain ⟨M14, eM14, hf⟩ := olt hf
  rw [← eM14] at hw
  refine lv_aload_n X.1.1 X.1.2.1 dX2_copyFrom_73 rfl (lv_at hl 0 rfl) ?_
  refine lv_aload_n X.1.1 X.1.2.1 dX2_copyFrom_74 rfl (lv_at hl 1 rfl) ?_
  refine r_geti (k := 2) (j := 8) X hw rfl inX2 g_p1 rfl (by decide) (by decide) uf_X2_46 rfl dX2_copyFrom_75 ?_
  refine r_puti (k := 2) (j := 8) X hw rfl inX2 tyX2_ok nmX2 g_a0 rfl (by decide) (by decide) uf_X2_46 rfl rfl rfl rfl dX2_copyFrom_78 (fun H locs hw => ?_)
  obtain ⟨M15, eM15, hf⟩ := olt hf
  rw [← eM15] at hw
  cases hf
  exact r_retV X hw hr hlk dX2_copyFrom_81
/-! X0_copyFrom -/
def lp_X0_copyFrom_2 (h : Hs) (a0 : Nat) (p1 : Nat) : Nat → Int32 → Mm → Option (Int32 × Mm)
  | 0, _, _ => none
  | n + 1, v2, M =>
    if (12 : Int32) ≤ v2 then
      some (v2, M)
    else
      gd (ok h a0 0) <|
      (f_X0_placeAt h a0 v2 M).bind fun z2 =>
      mq z2
        (
         gd (ok h p1 0) <|
         (f_X0_placeAt h p1 v2 M).bind fun z4 =>
         mq z4
           (
            lt_ (v2 + (1 : Int32)) fun x6 =>
            lp_X0_copyFrom_2 h a0 p1 n x6 M
           )
           (fun q5 =>
            lt_ (v2 + (1 : Int32)) fun x7 =>
            lp_X0_copyFrom_2 h a0 p1 n x7 M
           )
        )
        (fun q3 =>
         gd (ok h p1 0) <|
         (f_X0_placeAt h p1 v2 M).bind fun z8 =>
         mq z8
           (
            lt_ (v2 + (1 : Int32)) fun x10 =>
            lp_X0_copyFrom_2 h a0 p1 n x10 M
           )
           (fun q9 =>
            gd (ok h q3 4) <|
            (f_X4_copyFrom h q3 q9 M).bind fun z11 =>
            lt_ (v2 + (1 : Int32)) fun x12 =>
            lp_X0_copyFrom_2 h a0 p1 n x12 z11
           )
        )
set_option maxHeartbeats 4000000 in
set_option maxRecDepth 100000 in
theorem wlp_X0_copyFrom_2 {l : Launch} {D : va_G} {cy : Nat → ClassId} {h : Hs} {a0 : Nat} {p1 : Nat} {p : Program} {e : Env} {s : State} {m : MethodId} {args : Array Value} {below : List Frame} {meth : Method} {c : Code} {A : Nat → Prop} (X : Cx p s m args c cX0_copyFrom 5 gtbl RX0 D cy A) {Q : State → Prop} : ∀ (n : Nat) (v2 : Int32) (M : Mm) (z : (Int32 × Mm)) (H : Heap) (locs : List Loc) (ls : Array Slot), lp_X0_copyFrom_2 h a0 p1 n v2 M = some z → Wd D cy A s.heap h M H locs → lv_has ls 5 [(2, .int v2), (0, .ref a0), (1, .ref p1)] → (∀ x : (Int32 × Mm), z = x → ∀ (H : Heap) (locs : List Loc) (ls : Array Slot), Wd D cy A s.heap h x.2 H locs → lv_has ls 5 [(2, .int x.1), (0, .ref a0), (1, .ref p1)] → W p l e ({ frames := 3, cells := 0, slots := 0, locals := 64 } : Room) s m args below meth c H locs 0 0 Q (F0 m 42 ls [])) → W p l e ({ frames := 3, cells := 0, slots := 0, locals := 64 } : Room) s m args below meth c H locs 0 0 Q (F0 m 2 ls []) := by
  intro n
  induction n with
  | zero => intro v2 M z H locs ls hf hw hl kx; exact absurd hf (by intro q; cases q)
  | succ n ih =>
    intro v2 M z H locs ls hf hw hl kx
    unfold lp_X0_copyFrom_2 at hf
    refine lv_iload_n X.1.1 X.1.2.1 dX0_copyFrom_2 rfl (lv_at hl 0 rfl) ?_
    refine lv_bipush (v := (12 : Int32)) X.1.1 X.1.2.1 dX0_copyFrom_3 (by decide) ?_
    refine lv_icmp_ge (tgt := 42) X.1.1 X.1.2.1 dX0_copyFrom_5 (by decide) (fun c_1 => ?_) (fun c_1 => ?_)
    · skip
      rw [if_pos c_1] at hf
      cases hf
      exact kx _ rfl _ _ _ hw (lv_sub hl [0, 1, 2] rfl)
    · skip
      rw [if_neg c_1] at hf
      refine lv_aload_n X.1.1 X.1.2.1 dX0_copyFrom_8 rfl (lv_at hl 1 rfl) ?_
      refine lv_iload_n X.1.1 X.1.2.1 dX0_copyFrom_9 rfl (lv_at hl 0 rfl) ?_
      obtain ⟨g_a0, hf⟩ := ogd hf
      obtain ⟨z2, ez2, hf⟩ := obd hf
      refine r_callVQ (As := [.int v2]) (rest := []) X hw (c_X0_placeAt ez2) (cwV 1 X.1.2.2.2.2 (guV um_X0_25 ui_X0_placeAt us_X0_placeAt un_X0 uo_X0_placeAt) rfl rfl rfl (by decide +kernel) ⟨Nat.le_of_ble_eq_true rfl, Nat.le_of_ble_eq_true rfl⟩) g_a0 (by decide) rfl rfl hl.1 rfl (Nat.le_of_ble_eq_true rfl) dX0_copyFrom_10 ⟨Nat.zero_le _, Nat.zero_le _⟩ (fun H locs hw => ?_)
      obtain ⟨nq3, hf⟩ | ⟨q3, nq3, hf⟩ := omq hf
      · rw [nq3]
        refine lv_astore_nN (lv' := [(3, .null), (2, .int v2), (0, .ref a0), (1, .ref p1)]) X.1.1 X.1.2.1 dX0_copyFrom_13 rfl hl (by decide) rfl (fun ls hl => ?_)
        refine lv_aload_n X.1.1 X.1.2.1 dX0_copyFrom_14 rfl (lv_at hl 3 rfl) ?_
        refine lv_iload_n X.1.1 X.1.2.1 dX0_copyFrom_15 rfl (lv_at hl 1 rfl) ?_
        obtain ⟨g_p1, hf⟩ := ogd hf
        obtain ⟨z4, ez4, hf⟩ := obd hf
        refine r_callVQ (As := [.int v2]) (rest := []) X hw (c_X0_placeAt ez4) (cwV 1 X.1.2.2.2.2 (guV um_X0_25 ui_X0_placeAt us_X0_placeAt un_X0 uo_X0_placeAt) rfl rfl rfl (by decide +kernel) ⟨Nat.le_of_ble_eq_true rfl, Nat.le_of_ble_eq_true rfl⟩) g_p1 (by decide) rfl rfl hl.1 rfl (Nat.le_of_ble_eq_true rfl) dX0_copyFrom_16 ⟨Nat.zero_le _, Nat.zero_le _⟩ (fun H locs hw => ?_)
        obtain ⟨nq5, hf⟩ | ⟨q5, nq5, hf⟩ := omq hf
        · rw [nq5]
          refine lv_astoreN (lv' := [(4, .null), (3, .null), (2, .int v2), (0, .ref a0), (1, .ref p1)]) X.1.1 X.1.2.1 dX0_copyFrom_19 hl (by decide) rfl (fun ls hl => ?_)
          refine lv_aload_nN X.1.1 X.1.2.1 dX0_copyFrom_21 rfl (lv_at hl 1 rfl) ?_
          refine lv_ifnullN (tgt := 36) X.1.1 X.1.2.1 dX0_copyFrom_22 (by decide) ?_
          obtain ⟨x6, ex6, hf⟩ := olt hf
          refine lv_iinc (v := x6) (lv' := [(2, .int x6), (4, .null), (3, .null), (0, .ref a0), (1, .ref p1)]) X.1.1 X.1.2.1 dX0_copyFrom_36 hl (k := 2) rfl (by rw [ex6]; rfl) (by decide) rfl (fun ls hl => ?_)
          refine lv_goto (tgt := 2) X.1.1 X.1.2.1 dX0_copyFrom_39 (by decide) ?_
          exact ih _ _ _ _ _ _ hf hw (lv_sub hl [0, 3, 4] rfl) kx
        · rw [nq5]
          refine lv_astore (lv' := [(4, .ref q5), (3, .null), (2, .int v2), (0, .ref a0), (1, .ref p1)]) X.1.1 X.1.2.1 dX0_copyFrom_19 hl (by decide) rfl (fun ls hl => ?_)
          refine lv_aload_nN X.1.1 X.1.2.1 dX0_copyFrom_21 rfl (lv_at hl 1 rfl) ?_
          refine lv_ifnullN (tgt := 36) X.1.1 X.1.2.1 dX0_copyFrom_22 (by decide) ?_
          obtain ⟨x7, ex7, hf⟩ := olt hf
          refine lv_iinc (v := x7) (lv' := [(2, .int x7), (4, .ref q5), (3, .null), (0, .ref a0), (1, .ref p1)]) X.1.1 X.1.2.1 dX0_copyFrom_36 hl (k := 2) rfl (by rw [ex7]; rfl) (by decide) rfl (fun ls hl => ?_)
          refine lv_goto (tgt := 2) X.1.1 X.1.2.1 dX0_copyFrom_39 (by decide) ?_
          exact ih _ _ _ _ _ _ hf hw (lv_sub hl [0, 3, 4] rfl) kx
      · rw [nq3]
        refine lv_astore_n (lv' := [(3, .ref q3), (2, .int v2), (0, .ref a0), (1, .ref p1)]) X.1.1 X.1.2.1 dX0_copyFrom_13 rfl hl (by decide) rfl (fun ls hl => ?_)
        refine lv_aload_n X.1.1 X.1.2.1 dX0_copyFrom_14 rfl (lv_at hl 3 rfl) ?_
        refine lv_iload_n X.1.1 X.1.2.1 dX0_copyFrom_15 rfl (lv_at hl 1 rfl) ?_
        obtain ⟨g_p1, hf⟩ := ogd hf
        obtain ⟨z8, ez8, hf⟩ := obd hf
        refine r_callVQ (As := [.int v2]) (rest := []) X hw (c_X0_placeAt ez8) (cwV 1 X.1.2.2.2.2 (guV um_X0_25 ui_X0_placeAt us_X0_placeAt un_X0 uo_X0_placeAt) rfl rfl rfl (by decide +kernel) ⟨Nat.le_of_ble_eq_true rfl, Nat.le_of_ble_eq_true rfl⟩) g_p1 (by decide) rfl rfl hl.1 rfl (Nat.le_of_ble_eq_true rfl) dX0_copyFrom_16 ⟨Nat.zero_le _, Nat.zero_le _⟩ (fun H locs hw => ?_)
        obtain ⟨nq9, hf⟩ | ⟨q9, nq9, hf⟩ := omq hf
        · rw [nq9]
          refine lv_astoreN (lv' := [(4, .null), (3, .ref q3), (2, .int v2), (0, .ref a0), (1, .ref p1)]) X.1.1 X.1.2.1 dX0_copyFrom_19 hl (by decide) rfl (fun ls hl => ?_)
          refine lv_aload_n X.1.1 X.1.2.1 dX0_copyFrom_21 rfl (lv_at hl 1 rfl) ?_
          refine lv_ifnull X.1.1 X.1.2.1 dX0_copyFrom_22 ?_
          refine lv_aloadN X.1.1 X.1.2.1 dX0_copyFrom_25 (lv_at hl 0 rfl) ?_
          refine lv_ifnullN (tgt := 36) X.1.1 X.1.2.1 dX0_copyFrom_27 (by decide) ?_
          obtain ⟨x10, ex10, hf⟩ := olt hf
          refine lv_iinc (v := x10) (lv' := [(2, .int x10), (4, .null), (3, .ref q3), (0, .ref a0), (1, .ref p1)]) X.1.1 X.1.2.1 dX0_copyFrom_36 hl (k := 2) rfl (by rw [ex10]; rfl) (by decide) rfl (fun ls hl => ?_)
          refine lv_goto (tgt := 2) X.1.1 X.1.2.1 dX0_copyFrom_39 (by decide) ?_
          exact ih _ _ _ _ _ _ hf hw (lv_sub hl [0, 3, 4] rfl) kx
        · rw [nq9]
          refine lv_astore (lv' := [(4, .ref q9), (3, .ref q3), (2, .int v2), (0, .ref a0), (1, .ref p1)]) X.1.1 X.1.2.1 dX0_copyFrom_19 hl (by decide) rfl (fun ls hl => ?_)
          refine lv_aload_n X.1.1 X.1.2.1 dX0_copyFrom_21 rfl (lv_at hl 1 rfl) ?_
          refine lv_ifnull X.1.1 X.1.2.1 dX0_copyFrom_22 ?_
          refine lv_aload X.1.1 X.1.2.1 dX0_copyFrom_25 (lv_at hl 0 rfl) ?_
          refine lv_ifnull X.1.1 X.1.2.1 dX0_copyFrom_27 ?_
          refine lv_aload_n X.1.1 X.1.2.1 dX0_copyFrom_30 rfl (lv_at hl 1 rfl) ?_
          refine lv_aload X.1.1 X.1.2.1 dX0_copyFrom_31 (lv_at hl 0 rfl) ?_
          obtain ⟨g_q3, hf⟩ := ogd hf
          obtain ⟨z11, ez11, hf⟩ := obd hf
          refine r_callVV (As := [.ref q9]) (rest := []) X hw (c_X4_copyFrom ez11) (cwV 1 X.1.2.2.2.2 (guV um_X0_73 ui_X4_copyFrom us_X4_copyFrom un_X4 uo_X4_copyFrom) rfl rfl rfl (by decide +kernel) ⟨Nat.le_of_ble_eq_true rfl, Nat.le_of_ble_eq_true rfl⟩) g_q3 (by decide) rfl rfl hl.1 rfl (Nat.le_of_ble_eq_true rfl) dX0_copyFrom_33 ⟨Nat.zero_le _, Nat.zero_le _⟩ (fun H locs hw => ?_)
          obtain ⟨x12, ex12, hf⟩ := olt hf
          refine lv_iinc (v := x12) (lv' := [(2, .int x12), (4, .ref q9), (3, .ref q3), (0, .ref a0), (1, .ref p1)]) X.1.1 X.1.2.1 dX0_copyFrom_36 hl (k := 2) rfl (by rw [ex12]; rfl) (by decide) rfl (fun ls hl => ?_)
          refine lv_goto (tgt := 2) X.1.1 X.1.2.1 dX0_copyFrom_39 (by decide) ?_
          exact ih _ _ _ _ _ _ hf hw (lv_sub hl [0, 3, 4] rfl) kx
def lp_X0_copyFrom_44 (h : Hs) (a0 : Nat) (p1 : Nat) : Nat → Int32 → Mm → Option (Int32 × Mm)
  | 0, _, _ => none
  | n + 1, v2, M =>
    if (12 : Int32) ≤ v2 then
      some (v2, M)
    else
      gd (ok h a0 0) <|
      (f_X0_detailAt h a0 v2 M).bind fun z15 =>
      mq z15
        (
         gd (ok h p1 0) <|
         (f_X0_detailAt h p1 v2 M).bind fun z17 =>
         mq z17
           (
            lt_ (v2 + (1 : Int32)) fun x19 =>
            lp_X0_copyFrom_44 h a0 p1 n x19 M
           )
           (fun q18 =>
            lt_ (v2 + (1 : Int32)) fun x20 =>
            lp_X0_copyFrom_44 h a0 p1 n x20 M
           )
        )
        (fun q16 =>
         gd (ok h p1 0) <|
         (f_X0_detailAt h p1 v2 M).bind fun z21 =>
         mq z21
           (
            lt_ (v2 + (1 : Int32)) fun x23 =>
            lp_X0_copyFrom_44 h a0 p1 n x23 M
           )
           (fun q22 =>
            gd (ok h q16 2) <|
            (f_X2_copyFrom h q16 q22 M).bind fun z24 =>
            lt_ (v2 + (1 : Int32)) fun x25 =>
            lp_X0_copyFrom_44 h a0 p1 n x25 z24
           )
        )
set_option maxHeartbeats 4000000 in
set_option maxRecDepth 100000 in
theorem wlp_X0_copyFrom_44 {l : Launch} {D : va_G} {cy : Nat → ClassId} {h : Hs} {a0 : Nat} {p1 : Nat} {p : Program} {e : Env} {s : State} {m : MethodId} {args : Array Value} {below : List Frame} {meth : Method} {c : Code} {A : Nat → Prop} (X : Cx p s m args c cX0_copyFrom 5 gtbl RX0 D cy A) {Q : State → Prop} : ∀ (n : Nat) (v2 : Int32) (M : Mm) (z : (Int32 × Mm)) (H : Heap) (locs : List Loc) (ls : Array Slot), lp_X0_copyFrom_44 h a0 p1 n v2 M = some z → Wd D cy A s.heap h M H locs → lv_has ls 5 [(2, .int v2), (0, .ref a0), (1, .ref p1)] → (∀ x : (Int32 × Mm), z = x → ∀ (H : Heap) (locs : List Loc) (ls : Array Slot), Wd D cy A s.heap h x.2 H locs → lv_has ls 5 [(2, .int x.1), (0, .ref a0), (1, .ref p1)] → W p l e ({ frames := 3, cells := 0, slots := 0, locals := 64 } : Room) s m args below meth c H locs 0 0 Q (F0 m 84 ls [])) → W p l e ({ frames := 3, cells := 0, slots := 0, locals := 64 } : Room) s m args below meth c H locs 0 0 Q (F0 m 44 ls []) := by
  intro n
  induction n with
  | zero => intro v2 M z H locs ls hf hw hl kx; exact absurd hf (by intro q; cases q)
  | succ n ih =>
    intro v2 M z H locs ls hf hw hl kx
    unfold lp_X0_copyFrom_44 at hf
    refine lv_iload_n X.1.1 X.1.2.1 dX0_copyFrom_44 rfl (lv_at hl 0 rfl) ?_
    refine lv_bipush (v := (12 : Int32)) X.1.1 X.1.2.1 dX0_copyFrom_45 (by decide) ?_
    refine lv_icmp_ge (tgt := 84) X.1.1 X.1.2.1 dX0_copyFrom_47 (by decide) (fun c_14 => ?_) (fun c_14 => ?_)
    · skip
      rw [if_pos c_14] at hf
      cases hf
      exact kx _ rfl _ _ _ hw (lv_sub hl [0, 1, 2] rfl)
    · skip
      rw [if_neg c_14] at hf
      refine lv_aload_n X.1.1 X.1.2.1 dX0_copyFrom_50 rfl (lv_at hl 1 rfl) ?_
      refine lv_iload_n X.1.1 X.1.2.1 dX0_copyFrom_51 rfl (lv_at hl 0 rfl) ?_
      obtain ⟨g_a0, hf⟩ := ogd hf
      obtain ⟨z15, ez15, hf⟩ := obd hf
      refine r_callVQ (As := [.int v2]) (rest := []) X hw (c_X0_detailAt ez15) (cwV 1 X.1.2.2.2.2 (guV um_X0_77 ui_X0_detailAt us_X0_detailAt un_X0 uo_X0_detailAt) rfl rfl rfl (by decide +kernel) ⟨Nat.le_of_ble_eq_true rfl, Nat.le_of_ble_eq_true rfl⟩) g_a0 (by decide) rfl rfl hl.1 rfl (Nat.le_of_ble_eq_true rfl) dX0_copyFrom_52 ⟨Nat.zero_le _, Nat.zero_le _⟩ (fun H locs hw => ?_)
      obtain ⟨nq16, hf⟩ | ⟨q16, nq16, hf⟩ := omq hf
      · rw [nq16]
        refine lv_astore_nN (lv' := [(3, .null), (2, .int v2), (0, .ref a0), (1, .ref p1)]) X.1.1 X.1.2.1 dX0_copyFrom_55 rfl hl (by decide) rfl (fun ls hl => ?_)
        refine lv_aload_n X.1.1 X.1.2.1 dX0_copyFrom_56 rfl (lv_at hl 3 rfl) ?_
        refine lv_iload_n X.1.1 X.1.2.1 dX0_copyFrom_57 rfl (lv_at hl 1 rfl) ?_
        obtain ⟨g_p1, hf⟩ := ogd hf
        obtain ⟨z17, ez17, hf⟩ := obd hf
        refine r_callVQ (As := [.int v2]) (rest := []) X hw (c_X0_detailAt ez17) (cwV 1 X.1.2.2.2.2 (guV um_X0_77 ui_X0_detailAt us_X0_detailAt un_X0 uo_X0_detailAt) rfl rfl rfl (by decide +kernel) ⟨Nat.le_of_ble_eq_true rfl, Nat.le_of_ble_eq_true rfl⟩) g_p1 (by decide) rfl rfl hl.1 rfl (Nat.le_of_ble_eq_true rfl) dX0_copyFrom_58 ⟨Nat.zero_le _, Nat.zero_le _⟩ (fun H locs hw => ?_)
        obtain ⟨nq18, hf⟩ | ⟨q18, nq18, hf⟩ := omq hf
        · rw [nq18]
          refine lv_astoreN (lv' := [(4, .null), (3, .null), (2, .int v2), (0, .ref a0), (1, .ref p1)]) X.1.1 X.1.2.1 dX0_copyFrom_61 hl (by decide) rfl (fun ls hl => ?_)
          refine lv_aload_nN X.1.1 X.1.2.1 dX0_copyFrom_63 rfl (lv_at hl 1 rfl) ?_
          refine lv_ifnullN (tgt := 78) X.1.1 X.1.2.1 dX0_copyFrom_64 (by decide) ?_
          obtain ⟨x19, ex19, hf⟩ := olt hf
          refine lv_iinc (v := x19) (lv' := [(2, .int x19), (4, .null), (3, .null), (0, .ref a0), (1, .ref p1)]) X.1.1 X.1.2.1 dX0_copyFrom_78 hl (k := 2) rfl (by rw [ex19]; rfl) (by decide) rfl (fun ls hl => ?_)
          refine lv_goto (tgt := 44) X.1.1 X.1.2.1 dX0_copyFrom_81 (by decide) ?_
          exact ih _ _ _ _ _ _ hf hw (lv_sub hl [0, 3, 4] rfl) kx
        · rw [nq18]
          refine lv_astore (lv' := [(4, .ref q18), (3, .null), (2, .int v2), (0, .ref a0), (1, .ref p1)]) X.1.1 X.1.2.1 dX0_copyFrom_61 hl (by decide) rfl (fun ls hl => ?_)
          refine lv_aload_nN X.1.1 X.1.2.1 dX0_copyFrom_63 rfl (lv_at hl 1 rfl) ?_
          refine lv_ifnullN (tgt := 78) X.1.1 X.1.2.1 dX0_copyFrom_64 (by decide) ?_
          obtain ⟨x20, ex20, hf⟩ := olt hf
          refine lv_iinc (v := x20) (lv' := [(2, .int x20), (4, .ref q18), (3, .null), (0, .ref a0), (1, .ref p1)]) X.1.1 X.1.2.1 dX0_copyFrom_78 hl (k := 2) rfl (by rw [ex20]; rfl) (by decide) rfl (fun ls hl => ?_)
          refine lv_goto (tgt := 44) X.1.1 X.1.2.1 dX0_copyFrom_81 (by decide) ?_
          exact ih _ _ _ _ _ _ hf hw (lv_sub hl [0, 3, 4] rfl) kx
      · rw [nq16]
        refine lv_astore_n (lv' := [(3, .ref q16), (2, .int v2), (0, .ref a0), (1, .ref p1)]) X.1.1 X.1.2.1 dX0_copyFrom_55 rfl hl (by decide) rfl (fun ls hl => ?_)
        refine lv_aload_n X.1.1 X.1.2.1 dX0_copyFrom_56 rfl (lv_at hl 3 rfl) ?_
        refine lv_iload_n X.1.1 X.1.2.1 dX0_copyFrom_57 rfl (lv_at hl 1 rfl) ?_
        obtain ⟨g_p1, hf⟩ := ogd hf
        obtain ⟨z21, ez21, hf⟩ := obd hf
        refine r_callVQ (As := [.int v2]) (rest := []) X hw (c_X0_detailAt ez21) (cwV 1 X.1.2.2.2.2 (guV um_X0_77 ui_X0_detailAt us_X0_detailAt un_X0 uo_X0_detailAt) rfl rfl rfl (by decide +kernel) ⟨Nat.le_of_ble_eq_true rfl, Nat.le_of_ble_eq_true rfl⟩) g_p1 (by decide) rfl rfl hl.1 rfl (Nat.le_of_ble_eq_true rfl) dX0_copyFrom_58 ⟨Nat.zero_le _, Nat.zero_le _⟩ (fun H locs hw => ?_)
        obtain ⟨nq22, hf⟩ | ⟨q22, nq22, hf⟩ := omq hf
        · rw [nq22]
          refine lv_astoreN (lv' := [(4, .null), (3, .ref q16), (2, .int v2), (0, .ref a0), (1, .ref p1)]) X.1.1 X.1.2.1 dX0_copyFrom_61 hl (by decide) rfl (fun ls hl => ?_)
          refine lv_aload_n X.1.1 X.1.2.1 dX0_copyFrom_63 rfl (lv_at hl 1 rfl) ?_
          refine lv_ifnull X.1.1 X.1.2.1 dX0_copyFrom_64 ?_
          refine lv_aloadN X.1.1 X.1.2.1 dX0_copyFrom_67 (lv_at hl 0 rfl) ?_
          refine lv_ifnullN (tgt := 78) X.1.1 X.1.2.1 dX0_copyFrom_69 (by decide) ?_
          obtain ⟨x23, ex23, hf⟩ := olt hf
          refine lv_iinc (v := x23) (lv' := [(2, .int x23), (4, .null), (3, .ref q16), (0, .ref a0), (1, .ref p1)]) X.1.1 X.1.2.1 dX0_copyFrom_78 hl (k := 2) rfl (by rw [ex23]; rfl) (by decide) rfl (fun ls hl => ?_)
          refine lv_goto (tgt := 44) X.1.1 X.1.2.1 dX0_copyFrom_81 (by decide) ?_
          exact ih _ _ _ _ _ _ hf hw (lv_sub hl [0, 3, 4] rfl) kx
        · rw [nq22]
          refine lv_astore (lv' := [(4, .ref q22), (3, .ref q16), (2, .int v2), (0, .ref a0), (1, .ref p1)]) X.1.1 X.1.2.1 dX0_copyFrom_61 hl (by decide) rfl (fun ls hl => ?_)
          refine lv_aload_n X.1.1 X.1.2.1 dX0_copyFrom_63 rfl (lv_at hl 1 rfl) ?_
          refine lv_ifnull X.1.1 X.1.2.1 dX0_copyFrom_64 ?_
          refine lv_aload X.1.1 X.1.2.1 dX0_copyFrom_67 (lv_at hl 0 rfl) ?_
          refine lv_ifnull X.1.1 X.1.2.1 dX0_copyFrom_69 ?_
          refine lv_aload_n X.1.1 X.1.2.1 dX0_copyFrom_72 rfl (lv_at hl 1 rfl) ?_
          refine lv_aload X.1.1 X.1.2.1 dX0_copyFrom_73 (lv_at hl 0 rfl) ?_
          obtain ⟨g_q16, hf⟩ := ogd hf
          obtain ⟨z24, ez24, hf⟩ := obd hf
          refine r_callVV (As := [.ref q22]) (rest := []) X hw (c_X2_copyFrom ez24) (cwV 1 X.1.2.2.2.2 (guV um_X0_81 ui_X2_copyFrom us_X2_copyFrom un_X2 uo_X2_copyFrom) rfl rfl rfl (by decide +kernel) ⟨Nat.le_of_ble_eq_true rfl, Nat.le_of_ble_eq_true rfl⟩) g_q16 (by decide) rfl rfl hl.1 rfl (Nat.le_of_ble_eq_true rfl) dX0_copyFrom_75 ⟨Nat.zero_le _, Nat.zero_le _⟩ (fun H locs hw => ?_)
          obtain ⟨x25, ex25, hf⟩ := olt hf
          refine lv_iinc (v := x25) (lv' := [(2, .int x25), (4, .ref q22), (3, .ref q16), (0, .ref a0), (1, .ref p1)]) X.1.1 X.1.2.1 dX0_copyFrom_78 hl (k := 2) rfl (by rw [ex25]; rfl) (by decide) rfl (fun ls hl => ?_)
          refine lv_goto (tgt := 44) X.1.1 X.1.2.1 dX0_copyFrom_81 (by decide) ?_
          exact ih _ _ _ _ _ _ hf hw (lv_sub hl [0, 3, 4] rfl) kx
def f_X0_copyFrom (h : Hs) (a0 : Nat) (p1 : Nat) (M : Mm) : Option Mm :=
  (lp_X0_copyFrom_2 h a0 p1 fuel (0 : Int32) M).bind fun z13 =>
  (lp_X0_copyFrom_44 h a0 p1 fuel (0 : Int32) z13.2).bind fun z26 =>
  some z26.2
set_option maxHeartbeats 4000000 in
set_option maxRecDepth 100000 in
theorem c_X0_copyFrom {l : Launch} {D : va_G} {cy : Nat → ClassId} {h : Hs} {a0 : Nat} {p1 : Nat} {M : Mm} {z : Mm} (hf : f_X0_copyFrom h a0 p1 M = some z) : CtV l D cy yX0_copyFrom (wu yX0_copyFrom cX0_copyFrom 5 none) ({ frames := 3, cells := 0, slots := 0, locals := 64 }) [.ref a0, .ref p1] h M z := by
  refine enterV (cc := cX0_copyFrom) (maxL := 5) (ret := none) (by decide) (Nat.le_of_ble_eq_true rfl) ?_
  intro p e s m args below meth c A ls X hw hr hlk hl
  have hl : lv_has ls 5 [(0, .ref a0), (1, .ref p1)] := hl
  unfold f_X0_copyFrom at hf
  refine lv_iconst (v := (0 : Int32)) X.1.1 X.1.2.1 dX0_copyFrom_0 (by decide) ?_
  refine lv_istore_n (lv' := [(2, .int (0 : Int32)), (0, .ref a0), (1, .ref p1)]) X.1.1 X.1.2.1 dX0_copyFrom_1 rfl hl (by decide) rfl (fun ls hl => ?_)
  obtain ⟨z13, ez13, hf⟩ := obd hf
  refine wlp_X0_copyFrom_2 X fuel _ _ _ _ _ _ ez13 hw (lv_sub hl [0, 1, 2] rfl) (fun x ex H locs ls hw hl => ?_)
  subst ex
  refine lv_iconst (v := (0 : Int32)) X.1.1 X.1.2.1 dX0_copyFrom_42 (by decide) ?_
  refine lv_istore_n (lv' := [(2, .int (0 : Int32)), (0, .ref a0), (1, .ref p1)]) X.1.1 X.1.2.1 dX0_copyFrom_43 rfl hl (by decide) rfl (fun ls hl => ?_)
  obtain ⟨z26, ez26, hf⟩ := obd hf
  refine wlp_X0_copyFrom_44 X fuel _ _ _ _ _ _ ez26 hw (lv_sub hl [0, 1, 2] rfl) (fun x ex H locs ls hw hl => ?_)
  subst ex
  cases hf
  exact r_retV X hw hr hlk dX0_copyFrom_84
/-! X1_begin -/
def lp_X1_begin_2 (h : Hs) (a0 : Nat) : Nat → Int32 → Mm → Option (Int32 × Mm)
  | 0, _, _ => none
  | n + 1, v1, M =>
    gd (ok h a0 1) <|
    dq (zR h a0 0) fun q1 =>
    gd (ok h q1 11) <|
    if (Int32.ofNat (zN h q1)) ≤ v1 then
      some (v1, M)
    else
      gd (inb v1 (zN h q1)) <|
      lt_ (sI M q1 v1.toNatClampNeg (-1 : Int32)) fun M4 =>
      lt_ (v1 + (1 : Int32)) fun x5 =>
      lp_X1_begin_2 h a0 n x5 M4
set_option maxHeartbeats 4000000 in
set_option maxRecDepth 100000 in
theorem wlp_X1_begin_2 {l : Launch} {D : va_G} {cy : Nat → ClassId} {h : Hs} {a0 : Nat} {p : Program} {e : Env} {s : State} {m : MethodId} {args : Array Value} {below : List Frame} {meth : Method} {c : Code} {A : Nat → Prop} (X : Cx p s m args c cX1_begin 2 gtbl RX1 D cy A) {Q : State → Prop} : ∀ (n : Nat) (v1 : Int32) (M : Mm) (z : (Int32 × Mm)) (H : Heap) (locs : List Loc) (ls : Array Slot), lp_X1_begin_2 h a0 n v1 M = some z → Wd D cy A s.heap h M H locs → lv_has ls 2 [(1, .int v1), (0, .ref a0)] → (∀ x : (Int32 × Mm), z = x → ∀ (H : Heap) (locs : List Loc) (ls : Array Slot), Wd D cy A s.heap h x.2 H locs → lv_has ls 2 [(1, .int x.1), (0, .ref a0)] → W p l e ({ frames := 0, cells := 0, slots := 0, locals := 0 } : Room) s m args below meth c H locs 0 0 Q (F0 m 24 ls [])) → W p l e ({ frames := 0, cells := 0, slots := 0, locals := 0 } : Room) s m args below meth c H locs 0 0 Q (F0 m 2 ls []) := by
  intro n
  induction n with
  | zero => intro v1 M z H locs ls hf hw hl kx; exact absurd hf (by intro q; cases q)
  | succ n ih =>
    intro v1 M z H locs ls hf hw hl kx
    unfold lp_X1_begin_2 at hf
    refine lv_iload_n X.1.1 X.1.2.1 dX1_begin_2 rfl (lv_at hl 0 rfl) ?_
    refine lv_aload_n X.1.1 X.1.2.1 dX1_begin_3 rfl (lv_at hl 1 rfl) ?_
    obtain ⟨g_a0, hf⟩ := ogd hf
    obtain ⟨q1, eq1, hf⟩ := odq hf
    refine r_getq (k := 1) (j := 0) X hw rfl inX1 g_a0 rfl (by decide) (by decide) uf_X1_9 rfl dX1_begin_4 eq1 ?_
    obtain ⟨g_q1, hf⟩ := ogd hf
    refine r_alen X hw g_q1 (by decide) dX1_begin_7 ?_
    refine lv_icmp_ge (tgt := 24) X.1.1 X.1.2.1 dX1_begin_8 (by decide) (fun c_2 => ?_) (fun c_2 => ?_)
    · skip
      rw [if_pos c_2] at hf
      cases hf
      exact kx _ rfl _ _ _ hw (lv_sub hl [0, 1] rfl)
    · skip
      rw [if_neg c_2] at hf
      refine lv_aload_n X.1.1 X.1.2.1 dX1_begin_11 rfl (lv_at hl 1 rfl) ?_
      refine r_getq (k := 1) (j := 0) X hw rfl inX1 g_a0 rfl (by decide) (by decide) uf_X1_9 rfl dX1_begin_12 eq1 ?_
      refine lv_iload_n X.1.1 X.1.2.1 dX1_begin_15 rfl (lv_at hl 0 rfl) ?_
      refine lv_iconst (v := (-1 : Int32)) X.1.1 X.1.2.1 dX1_begin_16 (by decide) ?_
      obtain ⟨i_3, hf⟩ := ogd hf
      refine r_iast X hw g_q1 i_3 dX1_begin_17 (fun H locs hw => ?_)
      obtain ⟨M4, eM4, hf⟩ := olt hf
      rw [← eM4] at hw
      obtain ⟨x5, ex5, hf⟩ := olt hf
      refine lv_iinc (v := x5) (lv' := [(1, .int x5), (0, .ref a0)]) X.1.1 X.1.2.1 dX1_begin_18 hl (k := 0) rfl (by rw [ex5]; rfl) (by decide) rfl (fun ls hl => ?_)
      refine lv_goto (tgt := 2) X.1.1 X.1.2.1 dX1_begin_21 (by decide) ?_
      exact ih _ _ _ _ _ _ hf hw (lv_sub hl [0, 1] rfl) kx
def lp_X1_begin_26 (h : Hs) (a0 : Nat) : Nat → Int32 → Mm → Option (Int32 × Mm)
  | 0, _, _ => none
  | n + 1, v1, M =>
    gd (ok h a0 1) <|
    dq (zR h a0 1) fun q7 =>
    gd (ok h q7 11) <|
    if (Int32.ofNat (zN h q7)) ≤ v1 then
      some (v1, M)
    else
      gd (inb v1 (zN h q7)) <|
      lt_ (sI M q7 v1.toNatClampNeg (-1 : Int32)) fun M10 =>
      lt_ (v1 + (1 : Int32)) fun x11 =>
      lp_X1_begin_26 h a0 n x11 M10
set_option maxHeartbeats 4000000 in
set_option maxRecDepth 100000 in
theorem wlp_X1_begin_26 {l : Launch} {D : va_G} {cy : Nat → ClassId} {h : Hs} {a0 : Nat} {p : Program} {e : Env} {s : State} {m : MethodId} {args : Array Value} {below : List Frame} {meth : Method} {c : Code} {A : Nat → Prop} (X : Cx p s m args c cX1_begin 2 gtbl RX1 D cy A) {Q : State → Prop} : ∀ (n : Nat) (v1 : Int32) (M : Mm) (z : (Int32 × Mm)) (H : Heap) (locs : List Loc) (ls : Array Slot), lp_X1_begin_26 h a0 n v1 M = some z → Wd D cy A s.heap h M H locs → lv_has ls 2 [(1, .int v1), (0, .ref a0)] → (∀ x : (Int32 × Mm), z = x → ∀ (H : Heap) (locs : List Loc) (ls : Array Slot), Wd D cy A s.heap h x.2 H locs → lv_has ls 2 [(1, .int x.1), (0, .ref a0)] → W p l e ({ frames := 0, cells := 0, slots := 0, locals := 0 } : Room) s m args below meth c H locs 0 0 Q (F0 m 48 ls [])) → W p l e ({ frames := 0, cells := 0, slots := 0, locals := 0 } : Room) s m args below meth c H locs 0 0 Q (F0 m 26 ls []) := by
  intro n
  induction n with
  | zero => intro v1 M z H locs ls hf hw hl kx; exact absurd hf (by intro q; cases q)
  | succ n ih =>
    intro v1 M z H locs ls hf hw hl kx
    unfold lp_X1_begin_26 at hf
    refine lv_iload_n X.1.1 X.1.2.1 dX1_begin_26 rfl (lv_at hl 0 rfl) ?_
    refine lv_aload_n X.1.1 X.1.2.1 dX1_begin_27 rfl (lv_at hl 1 rfl) ?_
    obtain ⟨g_a0, hf⟩ := ogd hf
    obtain ⟨q7, eq7, hf⟩ := odq hf
    refine r_getq (k := 1) (j := 1) X hw rfl inX1 g_a0 rfl (by decide) (by decide) uf_X1_15 rfl dX1_begin_28 eq7 ?_
    obtain ⟨g_q7, hf⟩ := ogd hf
    refine r_alen X hw g_q7 (by decide) dX1_begin_31 ?_
    refine lv_icmp_ge (tgt := 48) X.1.1 X.1.2.1 dX1_begin_32 (by decide) (fun c_8 => ?_) (fun c_8 => ?_)
    · skip
      rw [if_pos c_8] at hf
      cases hf
      exact kx _ rfl _ _ _ hw (lv_sub hl [0, 1] rfl)
    · skip
      rw [if_neg c_8] at hf
      refine lv_aload_n X.1.1 X.1.2.1 dX1_begin_35 rfl (lv_at hl 1 rfl) ?_
      refine r_getq (k := 1) (j := 1) X hw rfl inX1 g_a0 rfl (by decide) (by decide) uf_X1_15 rfl dX1_begin_36 eq7 ?_
      refine lv_iload_n X.1.1 X.1.2.1 dX1_begin_39 rfl (lv_at hl 0 rfl) ?_
      refine lv_iconst (v := (-1 : Int32)) X.1.1 X.1.2.1 dX1_begin_40 (by decide) ?_
      obtain ⟨i_9, hf⟩ := ogd hf
      refine r_iast X hw g_q7 i_9 dX1_begin_41 (fun H locs hw => ?_)
      obtain ⟨M10, eM10, hf⟩ := olt hf
      rw [← eM10] at hw
      obtain ⟨x11, ex11, hf⟩ := olt hf
      refine lv_iinc (v := x11) (lv' := [(1, .int x11), (0, .ref a0)]) X.1.1 X.1.2.1 dX1_begin_42 hl (k := 0) rfl (by rw [ex11]; rfl) (by decide) rfl (fun ls hl => ?_)
      refine lv_goto (tgt := 26) X.1.1 X.1.2.1 dX1_begin_45 (by decide) ?_
      exact ih _ _ _ _ _ _ hf hw (lv_sub hl [0, 1] rfl) kx
def f_X1_begin (h : Hs) (a0 : Nat) (M : Mm) : Option Mm :=
  (lp_X1_begin_2 h a0 fuel (0 : Int32) M).bind fun z6 =>
  (lp_X1_begin_26 h a0 fuel (0 : Int32) z6.2).bind fun z12 =>
  some z12.2
set_option maxHeartbeats 4000000 in
set_option maxRecDepth 100000 in
theorem c_X1_begin {l : Launch} {D : va_G} {cy : Nat → ClassId} {h : Hs} {a0 : Nat} {M : Mm} {z : Mm} (hf : f_X1_begin h a0 M = some z) : CtV l D cy yX1_begin (wu yX1_begin cX1_begin 2 none) ({ frames := 0, cells := 0, slots := 0, locals := 0 }) [.ref a0] h M z := by
  refine enterV (cc := cX1_begin) (maxL := 2) (ret := none) (by decide) (Nat.le_of_ble_eq_true rfl) ?_
  intro p e s m args below meth c A ls X hw hr hlk hl
  have hl : lv_has ls 2 [(0, .ref a0)] := hl
  unfold f_X1_begin at hf
  refine lv_iconst (v := (0 : Int32)) X.1.1 X.1.2.1 dX1_begin_0 (by decide) ?_
  refine lv_istore_n (lv' := [(1, .int (0 : Int32)), (0, .ref a0)]) X.1.1 X.1.2.1 dX1_begin_1 rfl hl (by decide) rfl (fun ls hl => ?_)
  obtain ⟨z6, ez6, hf⟩ := obd hf
  refine wlp_X1_begin_2 X fuel _ _ _ _ _ _ ez6 hw (lv_sub hl [0, 1] rfl) (fun x ex H locs ls hw hl => ?_)
  subst ex
  refine lv_iconst (v := (0 : Int32)) X.1.1 X.1.2.1 dX1_begin_24 (by decide) ?_
  refine lv_istore_n (lv' := [(1, .int (0 : Int32)), (0, .ref a0)]) X.1.1 X.1.2.1 dX1_begin_25 rfl hl (by decide) rfl (fun ls hl => ?_)
  obtain ⟨z12, ez12, hf⟩ := obd hf
  refine wlp_X1_begin_26 X fuel _ _ _ _ _ _ ez12 hw (lv_sub hl [0, 1] rfl) (fun x ex H locs ls hw hl => ?_)
  subst ex
  cases hf
  exact r_retV X hw hr hlk dX1_begin_48
/-! X1_pair -/
def f_X1_pair (h : Hs) (a0 : Nat) (p1 : Int32) (p2 : Int32) (M : Mm) : Option Mm :=
  if p1 < 0 then
    some M
  else
    gd (ok h a0 1) <|
    dq (zR h a0 0) fun q2 =>
    gd (ok h q2 11) <|
    if (Int32.ofNat (zN h q2)) ≤ p1 then
      some M
    else
      if p2 < 0 then
        some M
      else
        if (Int32.ofNat (zN h q2)) ≤ p2 then
          some M
        else
          gd (inb p1 (zN h q2)) <|
          lt_ (sI M q2 p1.toNatClampNeg p2) fun M7 =>
          gd (inb p2 (zN h q2)) <|
          lt_ (sI M7 q2 p2.toNatClampNeg p1) fun M9 =>
          some M9
set_option maxHeartbeats 4000000 in
set_option maxRecDepth 100000 in
theorem c_X1_pair {l : Launch} {D : va_G} {cy : Nat → ClassId} {h : Hs} {a0 : Nat} {p1 : Int32} {p2 : Int32} {M : Mm} {z : Mm} (hf : f_X1_pair h a0 p1 p2 M = some z) : CtV l D cy yX1_pair (wu yX1_pair cX1_pair 3 none) ({ frames := 0, cells := 0, slots := 0, locals := 0 }) [.ref a0, .int p1, .int p2] h M z := by
  refine enterV (cc := cX1_pair) (maxL := 3) (ret := none) (by decide) (Nat.le_of_ble_eq_true rfl) ?_
  intro p e s m args below meth c A ls X hw hr hlk hl
  have hl : lv_has ls 3 [(0, .ref a0), (1, .int p1), (2, .int p2)] := hl
  unfold f_X1_pair at hf
  refine lv_iload_n X.1.1 X.1.2.1 dX1_pair_0 rfl (lv_at hl 1 rfl) ?_
  refine lv_if_lt (tgt := 40) X.1.1 X.1.2.1 dX1_pair_1 (by decide) (fun c_1 => ?_) (fun c_1 => ?_)
  · skip
    rw [if_pos c_1] at hf
    cases hf
    exact r_retV X hw hr hlk dX1_pair_40
  · skip
    rw [if_neg c_1] at hf
    refine lv_iload_n X.1.1 X.1.2.1 dX1_pair_4 rfl (lv_at hl 1 rfl) ?_
    refine lv_aload_n X.1.1 X.1.2.1 dX1_pair_5 rfl (lv_at hl 0 rfl) ?_
    obtain ⟨g_a0, hf⟩ := ogd hf
    obtain ⟨q2, eq2, hf⟩ := odq hf
    refine r_getq (k := 1) (j := 0) X hw rfl inX1 g_a0 rfl (by decide) (by decide) uf_X1_9 rfl dX1_pair_6 eq2 ?_
    obtain ⟨g_q2, hf⟩ := ogd hf
    refine r_alen X hw g_q2 (by decide) dX1_pair_9 ?_
    refine lv_icmp_ge (tgt := 40) X.1.1 X.1.2.1 dX1_pair_10 (by decide) (fun c_3 => ?_) (fun c_3 => ?_)
    · skip
      rw [if_pos c_3] at hf
      cases hf
      exact r_retV X hw hr hlk dX1_pair_40
    · skip
      rw [if_neg c_3] at hf
      refine lv_iload_n X.1.1 X.1.2.1 dX1_pair_13 rfl (lv_at hl 2 rfl) ?_
      refine lv_if_lt (tgt := 40) X.1.1 X.1.2.1 dX1_pair_14 (by decide) (fun c_4 => ?_) (fun c_4 => ?_)
      · skip
        rw [if_pos c_4] at hf
        cases hf
        exact r_retV X hw hr hlk dX1_pair_40
      · skip
        rw [if_neg c_4] at hf
        refine lv_iload_n X.1.1 X.1.2.1 dX1_pair_17 rfl (lv_at hl 2 rfl) ?_
        refine lv_aload_n X.1.1 X.1.2.1 dX1_pair_18 rfl (lv_at hl 0 rfl) ?_
        refine r_getq (k := 1) (j := 0) X hw rfl inX1 g_a0 rfl (by decide) (by decide) uf_X1_9 rfl dX1_pair_19 eq2 ?_
        refine r_alen X hw g_q2 (by decide) dX1_pair_22 ?_
        refine lv_icmp_ge (tgt := 40) X.1.1 X.1.2.1 dX1_pair_23 (by decide) (fun c_5 => ?_) (fun c_5 => ?_)
        · skip
          rw [if_pos c_5] at hf
          cases hf
          exact r_retV X hw hr hlk dX1_pair_40
        · skip
          rw [if_neg c_5] at hf
          refine lv_aload_n X.1.1 X.1.2.1 dX1_pair_26 rfl (lv_at hl 0 rfl) ?_
          refine r_getq (k := 1) (j := 0) X hw rfl inX1 g_a0 rfl (by decide) (by decide) uf_X1_9 rfl dX1_pair_27 eq2 ?_
          refine lv_iload_n X.1.1 X.1.2.1 dX1_pair_30 rfl (lv_at hl 1 rfl) ?_
          refine lv_iload_n X.1.1 X.1.2.1 dX1_pair_31 rfl (lv_at hl 2 rfl) ?_
          obtain ⟨i_6, hf⟩ := ogd hf
          refine r_iast X hw g_q2 i_6 dX1_pair_32 (fun H locs hw => ?_)
          obtain ⟨M7, eM7, hf⟩ := olt hf
          rw [← eM7] at hw
          refine lv_aload_n X.1.1 X.1.2.1 dX1_pair_33 rfl (lv_at hl 0 rfl) ?_
          refine r_getq (k := 1) (j := 0) X hw rfl inX1 g_a0 rfl (by decide) (by decide) uf_X1_9 rfl dX1_pair_34 eq2 ?_
          refine lv_iload_n X.1.1 X.1.2.1 dX1_pair_37 rfl (lv_at hl 2 rfl) ?_
          refine lv_iload_n X.1.1 X.1.2.1 dX1_pair_38 rfl (lv_at hl 1 rfl) ?_
          obtain ⟨i_8, hf⟩ := ogd hf
          refine r_iast X hw g_q2 i_8 dX1_pair_39 (fun H locs hw => ?_)
          obtain ⟨M9, eM9, hf⟩ := olt hf
          rw [← eM9] at hw
          cases hf
          exact r_retV X hw hr hlk dX1_pair_40
/-! X1_tell -/
def f_X1_tell (h : Hs) (a0 : Nat) (p1 : Int32) (p2 : Int32) (M : Mm) : Option Mm :=
  if p1 < 0 then
    some M
  else
    gd (ok h a0 1) <|
    dq (zR h a0 1) fun q2 =>
    gd (ok h q2 11) <|
    if (Int32.ofNat (zN h q2)) ≤ p1 then
      some M
    else
      if p2 < 0 then
        some M
      else
        if (Int32.ofNat (zN h q2)) ≤ p2 then
          some M
        else
          gd (inb p1 (zN h q2)) <|
          Option.bind (
            if ¬ (zI M q2 p1.toNatClampNeg) = (-1 : Int32) then
              some (-2 : Int32)
            else
              some p2
            ) fun y8 =>
          gd (inb p1 (zN h q2)) <|
          lt_ (sI M q2 p1.toNatClampNeg y8) fun M10 =>
          gd (inb p2 (zN h q2)) <|
          Option.bind (
            if ¬ (zI M10 q2 p2.toNatClampNeg) = (-1 : Int32) then
              some (-2 : Int32)
            else
              some p1
            ) fun y13 =>
          gd (inb p2 (zN h q2)) <|
          lt_ (sI M10 q2 p2.toNatClampNeg y13) fun M15 =>
          some M15
set_option maxHeartbeats 4000000 in
set_option maxRecDepth 100000 in
theorem c_X1_tell {l : Launch} {D : va_G} {cy : Nat → ClassId} {h : Hs} {a0 : Nat} {p1 : Int32} {p2 : Int32} {M : Mm} {z : Mm} (hf : f_X1_tell h a0 p1 p2 M = some z) : CtV l D cy yX1_tell (wu yX1_tell cX1_tell 3 none) ({ frames := 0, cells := 0, slots := 0, locals := 0 }) [.ref a0, .int p1, .int p2] h M z := by
  refine enterV (cc := cX1_tell) (maxL := 3) (ret := none) (by decide) (Nat.le_of_ble_eq_true rfl) ?_
  intro p e s m args below meth c A ls X hw hr hlk hl
  have hl : lv_has ls 3 [(0, .ref a0), (1, .int p1), (2, .int p2)] := hl
  unfold f_X1_tell at hf
  refine lv_iload_n X.1.1 X.1.2.1 dX1_tell_0 rfl (lv_at hl 1 rfl) ?_
  refine lv_if_lt (tgt := 70) X.1.1 X.1.2.1 dX1_tell_1 (by decide) (fun c_1 => ?_) (fun c_1 => ?_)
  · skip
    rw [if_pos c_1] at hf
    cases hf
    exact r_retV X hw hr hlk dX1_tell_70
  · skip
    rw [if_neg c_1] at hf
    refine lv_iload_n X.1.1 X.1.2.1 dX1_tell_4 rfl (lv_at hl 1 rfl) ?_
    refine lv_aload_n X.1.1 X.1.2.1 dX1_tell_5 rfl (lv_at hl 0 rfl) ?_
    obtain ⟨g_a0, hf⟩ := ogd hf
    obtain ⟨q2, eq2, hf⟩ := odq hf
    refine r_getq (k := 1) (j := 1) X hw rfl inX1 g_a0 rfl (by decide) (by decide) uf_X1_15 rfl dX1_tell_6 eq2 ?_
    obtain ⟨g_q2, hf⟩ := ogd hf
    refine r_alen X hw g_q2 (by decide) dX1_tell_9 ?_
    refine lv_icmp_ge (tgt := 70) X.1.1 X.1.2.1 dX1_tell_10 (by decide) (fun c_3 => ?_) (fun c_3 => ?_)
    · skip
      rw [if_pos c_3] at hf
      cases hf
      exact r_retV X hw hr hlk dX1_tell_70
    · skip
      rw [if_neg c_3] at hf
      refine lv_iload_n X.1.1 X.1.2.1 dX1_tell_13 rfl (lv_at hl 2 rfl) ?_
      refine lv_if_lt (tgt := 70) X.1.1 X.1.2.1 dX1_tell_14 (by decide) (fun c_4 => ?_) (fun c_4 => ?_)
      · skip
        rw [if_pos c_4] at hf
        cases hf
        exact r_retV X hw hr hlk dX1_tell_70
      · skip
        rw [if_neg c_4] at hf
        refine lv_iload_n X.1.1 X.1.2.1 dX1_tell_17 rfl (lv_at hl 2 rfl) ?_
        refine lv_aload_n X.1.1 X.1.2.1 dX1_tell_18 rfl (lv_at hl 0 rfl) ?_
        refine r_getq (k := 1) (j := 1) X hw rfl inX1 g_a0 rfl (by decide) (by decide) uf_X1_15 rfl dX1_tell_19 eq2 ?_
        refine r_alen X hw g_q2 (by decide) dX1_tell_22 ?_
        refine lv_icmp_ge (tgt := 70) X.1.1 X.1.2.1 dX1_tell_23 (by decide) (fun c_5 => ?_) (fun c_5 => ?_)
        · skip
          rw [if_pos c_5] at hf
          cases hf
          exact r_retV X hw hr hlk dX1_tell_70
        · skip
          rw [if_neg c_5] at hf
          refine lv_aload_n X.1.1 X.1.2.1 dX1_tell_26 rfl (lv_at hl 0 rfl) ?_
          refine r_getq (k := 1) (j := 1) X hw rfl inX1 g_a0 rfl (by decide) (by decide) uf_X1_15 rfl dX1_tell_27 eq2 ?_
          refine lv_iload_n X.1.1 X.1.2.1 dX1_tell_30 rfl (lv_at hl 1 rfl) ?_
          refine lv_aload_n X.1.1 X.1.2.1 dX1_tell_31 rfl (lv_at hl 0 rfl) ?_
          refine r_getq (k := 1) (j := 1) X hw rfl inX1 g_a0 rfl (by decide) (by decide) uf_X1_15 rfl dX1_tell_32 eq2 ?_
          refine lv_iload_n X.1.1 X.1.2.1 dX1_tell_35 rfl (lv_at hl 1 rfl) ?_
          obtain ⟨i_6, hf⟩ := ogd hf
          refine r_iald X hw g_q2 i_6 dX1_tell_36 ?_
          refine lv_iconst (v := (-1 : Int32)) X.1.1 X.1.2.1 dX1_tell_37 (by decide) ?_
          obtain ⟨y8, ey8, hf⟩ := obd hf
          have Jy8 : ∀ (H : Heap) (locs : List Loc) (ls : Array Slot), Wd D cy A s.heap h M H locs → lv_has ls 3 [(0, .ref a0), (1, .int p1), (2, .int p2)] → W p l e ({ frames := 0, cells := 0, slots := 0, locals := 0 } : Room) s m args below meth c H locs 0 0 (QV below D cy A h args s z) (F0 m 47 ls [.int y8, .int p1, .ref q2]) := by
            intro H locs ls hw hl
            obtain ⟨i_9, hf⟩ := ogd hf
            refine r_iast X hw g_q2 i_9 dX1_tell_47 (fun H locs hw => ?_)
            obtain ⟨M10, eM10, hf⟩ := olt hf
            rw [← eM10] at hw
            refine lv_aload_n X.1.1 X.1.2.1 dX1_tell_48 rfl (lv_at hl 0 rfl) ?_
            refine r_getq (k := 1) (j := 1) X hw rfl inX1 g_a0 rfl (by decide) (by decide) uf_X1_15 rfl dX1_tell_49 eq2 ?_
            refine lv_iload_n X.1.1 X.1.2.1 dX1_tell_52 rfl (lv_at hl 2 rfl) ?_
            refine lv_aload_n X.1.1 X.1.2.1 dX1_tell_53 rfl (lv_at hl 0 rfl) ?_
            refine r_getq (k := 1) (j := 1) X hw rfl inX1 g_a0 rfl (by decide) (by decide) uf_X1_15 rfl dX1_tell_54 eq2 ?_
            refine lv_iload_n X.1.1 X.1.2.1 dX1_tell_57 rfl (lv_at hl 2 rfl) ?_
            obtain ⟨i_11, hf⟩ := ogd hf
            refine r_iald X hw g_q2 i_11 dX1_tell_58 ?_
            refine lv_iconst (v := (-1 : Int32)) X.1.1 X.1.2.1 dX1_tell_59 (by decide) ?_
            obtain ⟨y13, ey13, hf⟩ := obd hf
            have Jy13 : ∀ (H : Heap) (locs : List Loc) (ls : Array Slot), Wd D cy A s.heap h M10 H locs → lv_has ls 3 [] → W p l e ({ frames := 0, cells := 0, slots := 0, locals := 0 } : Room) s m args below meth c H locs 0 0 (QV below D cy A h args s z) (F0 m 69 ls [.int y13, .int p2, .ref q2]) := by
              intro H locs ls hw hl
              obtain ⟨i_14, hf⟩ := ogd hf
              refine r_iast X hw g_q2 i_14 dX1_tell_69 (fun H locs hw => ?_)
              obtain ⟨M15, eM15, hf⟩ := olt hf
              rw [← eM15] at hw
              cases hf
              exact r_retV X hw hr hlk dX1_tell_70
            clear hf
            have hf := ey13
            clear ey13
            refine lv_icmp_ne (tgt := 67) X.1.1 X.1.2.1 dX1_tell_60 (by decide) (fun c_12 => ?_) (fun c_12 => ?_)
            · skip
              rw [if_pos c_12] at hf
              refine lv_bipush (v := (-2 : Int32)) X.1.1 X.1.2.1 dX1_tell_67 (by decide) ?_
              cases hf
              exact Jy13 _ _ _ hw (lv_sub hl [] rfl)
            · skip
              rw [if_neg (fun z => z c_12)] at hf
              refine lv_iload_n X.1.1 X.1.2.1 dX1_tell_63 rfl (lv_at hl 1 rfl) ?_
              refine lv_goto (tgt := 69) X.1.1 X.1.2.1 dX1_tell_64 (by decide) ?_
              cases hf
              exact Jy13 _ _ _ hw (lv_sub hl [] rfl)
          clear hf
          have hf := ey8
          clear ey8
          refine lv_icmp_ne (tgt := 45) X.1.1 X.1.2.1 dX1_tell_38 (by decide) (fun c_7 => ?_) (fun c_7 => ?_)
          · skip
            rw [if_pos c_7] at hf
            refine lv_bipush (v := (-2 : Int32)) X.1.1 X.1.2.1 dX1_tell_45 (by decide) ?_
            cases hf
            exact Jy8 _ _ _ hw (lv_sub hl [0, 1, 2] rfl)
          · skip
            rw [if_neg (fun z => z c_7)] at hf
            refine lv_iload_n X.1.1 X.1.2.1 dX1_tell_41 rfl (lv_at hl 2 rfl) ?_
            refine lv_goto (tgt := 47) X.1.1 X.1.2.1 dX1_tell_42 (by decide) ?_
            cases hf
            exact Jy8 _ _ _ hw (lv_sub hl [0, 1, 2] rfl)
/-! X1_leastWrong -/
def lp_X1_leastWrong_2 (h : Hs) (w1 : Int32) (a0 : Nat) (M : Mm) : Nat → Int32 → Option (Int32 ⊕ Int32)
  | 0, _ => none
  | n + 1, v2 =>
    if w1 ≤ v2 then
      some (.inr v2)
    else
      gd (ok h a0 1) <|
      dq (zR h a0 0) fun q2 =>
      gd (ok h q2 11) <|
      if (Int32.ofNat (zN h q2)) ≤ v2 then
        some (.inr v2)
      else
        dq (zR h a0 1) fun q4 =>
        gd (ok h q4 11) <|
        if (Int32.ofNat (zN h q4)) ≤ v2 then
          some (.inr v2)
        else
          gd (inb v2 (zN h q2)) <|
          gd (inb v2 (zN h q4)) <|
          if (zI M q2 v2.toNatClampNeg) = (zI M q4 v2.toNatClampNeg) then
            lt_ (v2 + (1 : Int32)) fun x9 =>
            lp_X1_leastWrong_2 h w1 a0 M n x9
          else
            some (.inl v2)
set_option maxHeartbeats 4000000 in
set_option maxRecDepth 100000 in
theorem wlp_X1_leastWrong_2 {l : Launch} {D : va_G} {cy : Nat → ClassId} {h : Hs} {w1 : Int32} {a0 : Nat} {M : Mm} {p : Program} {e : Env} {s : State} {m : MethodId} {args : Array Value} {below : List Frame} {meth : Method} {c : Code} {A : Nat → Prop} (X : Cx p s m args c cX1_leastWrong 3 gtbl RX1 D cy A) {zf : Int32} (hr : meth.sig.returnType = (some .int)) (hlk : meth.locks = false) : ∀ (n : Nat) (v2 : Int32) (z : (Int32 ⊕ Int32)) (H : Heap) (locs : List Loc) (ls : Array Slot), lp_X1_leastWrong_2 h w1 a0 M n v2 = some z → Wd D cy A s.heap h M H locs → lv_has ls 3 [(2, .int v2), (0, .ref a0), (1, .int w1)] → (∀ rr, z = .inl rr → rr = zf) → (∀ x : Int32, z = .inr x → ∀ (H : Heap) (locs : List Loc) (ls : Array Slot), Wd D cy A s.heap h M H locs → lv_has ls 3 [(2, .int x), (0, .ref a0), (1, .int w1)] → W p l e ({ frames := 0, cells := 0, slots := 0, locals := 0 } : Room) s m args below meth c H locs 0 0 (QI below D cy A h args s zf M) (F0 m 48 ls [])) → W p l e ({ frames := 0, cells := 0, slots := 0, locals := 0 } : Room) s m args below meth c H locs 0 0 (QI below D cy A h args s zf M) (F0 m 2 ls []) := by
  intro n
  induction n with
  | zero => intro v2 z H locs ls hf hw hl kr kx; exact absurd hf (by intro q; cases q)
  | succ n ih =>
    intro v2 z H locs ls hf hw hl kr kx
    unfold lp_X1_leastWrong_2 at hf
    refine lv_iload_n X.1.1 X.1.2.1 dX1_leastWrong_2 rfl (lv_at hl 0 rfl) ?_
    refine lv_iload_n X.1.1 X.1.2.1 dX1_leastWrong_3 rfl (lv_at hl 2 rfl) ?_
    refine lv_icmp_ge (tgt := 48) X.1.1 X.1.2.1 dX1_leastWrong_4 (by decide) (fun c_1 => ?_) (fun c_1 => ?_)
    · skip
      rw [if_pos c_1] at hf
      cases hf
      exact kx _ rfl _ _ _ hw (lv_sub hl [0, 1, 2] rfl)
    · skip
      rw [if_neg c_1] at hf
      refine lv_iload_n X.1.1 X.1.2.1 dX1_leastWrong_7 rfl (lv_at hl 0 rfl) ?_
      refine lv_aload_n X.1.1 X.1.2.1 dX1_leastWrong_8 rfl (lv_at hl 1 rfl) ?_
      obtain ⟨g_a0, hf⟩ := ogd hf
      obtain ⟨q2, eq2, hf⟩ := odq hf
      refine r_getq (k := 1) (j := 0) X hw rfl inX1 g_a0 rfl (by decide) (by decide) uf_X1_9 rfl dX1_leastWrong_9 eq2 ?_
      obtain ⟨g_q2, hf⟩ := ogd hf
      refine r_alen X hw g_q2 (by decide) dX1_leastWrong_12 ?_
      refine lv_icmp_ge (tgt := 48) X.1.1 X.1.2.1 dX1_leastWrong_13 (by decide) (fun c_3 => ?_) (fun c_3 => ?_)
      · skip
        rw [if_pos c_3] at hf
        cases hf
        exact kx _ rfl _ _ _ hw (lv_sub hl [0, 1, 2] rfl)
      · skip
        rw [if_neg c_3] at hf
        refine lv_iload_n X.1.1 X.1.2.1 dX1_leastWrong_16 rfl (lv_at hl 0 rfl) ?_
        refine lv_aload_n X.1.1 X.1.2.1 dX1_leastWrong_17 rfl (lv_at hl 1 rfl) ?_
        obtain ⟨q4, eq4, hf⟩ := odq hf
        refine r_getq (k := 1) (j := 1) X hw rfl inX1 g_a0 rfl (by decide) (by decide) uf_X1_15 rfl dX1_leastWrong_18 eq4 ?_
        obtain ⟨g_q4, hf⟩ := ogd hf
        refine r_alen X hw g_q4 (by decide) dX1_leastWrong_21 ?_
        refine lv_icmp_ge (tgt := 48) X.1.1 X.1.2.1 dX1_leastWrong_22 (by decide) (fun c_5 => ?_) (fun c_5 => ?_)
        · skip
          rw [if_pos c_5] at hf
          cases hf
          exact kx _ rfl _ _ _ hw (lv_sub hl [0, 1, 2] rfl)
        · skip
          rw [if_neg c_5] at hf
          refine lv_aload_n X.1.1 X.1.2.1 dX1_leastWrong_25 rfl (lv_at hl 1 rfl) ?_
          refine r_getq (k := 1) (j := 0) X hw rfl inX1 g_a0 rfl (by decide) (by decide) uf_X1_9 rfl dX1_leastWrong_26 eq2 ?_
          refine lv_iload_n X.1.1 X.1.2.1 dX1_leastWrong_29 rfl (lv_at hl 0 rfl) ?_
          obtain ⟨i_6, hf⟩ := ogd hf
          refine r_iald X hw g_q2 i_6 dX1_leastWrong_30 ?_
          refine lv_aload_n X.1.1 X.1.2.1 dX1_leastWrong_31 rfl (lv_at hl 1 rfl) ?_
          refine r_getq (k := 1) (j := 1) X hw rfl inX1 g_a0 rfl (by decide) (by decide) uf_X1_15 rfl dX1_leastWrong_32 eq4 ?_
          refine lv_iload_n X.1.1 X.1.2.1 dX1_leastWrong_35 rfl (lv_at hl 0 rfl) ?_
          obtain ⟨i_7, hf⟩ := ogd hf
          refine r_iald X hw g_q4 i_7 dX1_leastWrong_36 ?_
          refine lv_icmp_eq (tgt := 42) X.1.1 X.1.2.1 dX1_leastWrong_37 (by decide) (fun c_8 => ?_) (fun c_8 => ?_)
          · skip
            rw [if_pos c_8] at hf
            obtain ⟨x9, ex9, hf⟩ := olt hf
            refine lv_iinc (v := x9) (lv' := [(2, .int x9), (0, .ref a0), (1, .int w1)]) X.1.1 X.1.2.1 dX1_leastWrong_42 hl (k := 0) rfl (by rw [ex9]; rfl) (by decide) rfl (fun ls hl => ?_)
            refine lv_goto (tgt := 2) X.1.1 X.1.2.1 dX1_leastWrong_45 (by decide) ?_
            exact ih _ _ _ _ _ hf hw (lv_sub hl [0, 1, 2] rfl) kr kx
          · skip
            rw [if_neg c_8] at hf
            refine lv_iload_n X.1.1 X.1.2.1 dX1_leastWrong_40 rfl (lv_at hl 0 rfl) ?_
            cases hf
            cases kr _ rfl
            exact r_retI X hw hr hlk rfl dX1_leastWrong_41
def f_X1_leastWrong (h : Hs) (a0 : Nat) (p1 : Int32) (M : Mm) : Option Int32 :=
  (lp_X1_leastWrong_2 h p1 a0 M fuel (0 : Int32)).bind fun z10 =>
  sm z10 (fun r => some r) (fun y11 =>
    some (-1 : Int32)
    )
set_option maxHeartbeats 4000000 in
set_option maxRecDepth 100000 in
theorem c_X1_leastWrong {l : Launch} {D : va_G} {cy : Nat → ClassId} {h : Hs} {a0 : Nat} {p1 : Int32} {M : Mm} {z : Int32} (hf : f_X1_leastWrong h a0 p1 M = some z) : CtI l D cy yX1_leastWrong (wu yX1_leastWrong cX1_leastWrong 3 (some .int)) ({ frames := 0, cells := 0, slots := 0, locals := 0 }) [.ref a0, .int p1] h M z M := by
  refine enterI (cc := cX1_leastWrong) (maxL := 3) (ret := (some .int)) (by decide) (Nat.le_of_ble_eq_true rfl) ?_
  intro p e s m args below meth c A ls X hw hr hlk hl
  have hl : lv_has ls 3 [(0, .ref a0), (1, .int p1)] := hl
  unfold f_X1_leastWrong at hf
  refine lv_iconst (v := (0 : Int32)) X.1.1 X.1.2.1 dX1_leastWrong_0 (by decide) ?_
  refine lv_istore_n (lv' := [(2, .int (0 : Int32)), (0, .ref a0), (1, .int p1)]) X.1.1 X.1.2.1 dX1_leastWrong_1 rfl hl (by decide) rfl (fun ls hl => ?_)
  obtain ⟨z10, ez10, hf⟩ := obd hf
  refine wlp_X1_leastWrong_2 X hr hlk fuel _ _ _ _ _ ez10 hw (lv_sub hl [0, 1, 2] rfl) (fun rr er => ?_) (fun y11 ex H locs ls hw hl => ?_)
  · subst er
    exact Option.some.inj hf
  · subst ex
    dsimp only [sm] at hf
    refine lv_iconst (v := (-1 : Int32)) X.1.1 X.1.2.1 dX1_leastWrong_48 (by decide) ?_
    cases hf
    exact r_retI X hw hr hlk rfl dX1_leastWrong_49
/-! X5_turnAt -/
def f_X5_turnAt (h : Hs) (a0 : Nat) (p1 : Int32) (M : Mm) : Option Int32 :=
  if p1 < 0 then
    some (0 : Int32)
  else
    gd (ok h a0 5) <|
    dq (zR h a0 1) fun q2 =>
    gd (ok h q2 11) <|
    if (Int32.ofNat (zN h q2)) ≤ p1 then
      some (0 : Int32)
    else
      gd (inb p1 (zN h q2)) <|
      some (zI M q2 p1.toNatClampNeg)
set_option maxHeartbeats 4000000 in
set_option maxRecDepth 100000 in
theorem c_X5_turnAt {l : Launch} {D : va_G} {cy : Nat → ClassId} {h : Hs} {a0 : Nat} {p1 : Int32} {M : Mm} {z : Int32} (hf : f_X5_turnAt h a0 p1 M = some z) : CtI l D cy yX5_turnAt (wu yX5_turnAt cX5_turnAt 2 (some .int)) ({ frames := 0, cells := 0, slots := 0, locals := 0 }) [.ref a0, .int p1] h M z M := by
  refine enterI (cc := cX5_turnAt) (maxL := 2) (ret := (some .int)) (by decide) (Nat.le_of_ble_eq_true rfl) ?_
  intro p e s m args below meth c A ls X hw hr hlk hl
  have hl : lv_has ls 2 [(0, .ref a0), (1, .int p1)] := hl
  unfold f_X5_turnAt at hf
  refine lv_iload_n X.1.1 X.1.2.1 dX5_turnAt_0 rfl (lv_at hl 1 rfl) ?_
  refine lv_if_lt (tgt := 22) X.1.1 X.1.2.1 dX5_turnAt_1 (by decide) (fun c_1 => ?_) (fun c_1 => ?_)
  · skip
    rw [if_pos c_1] at hf
    refine lv_iconst (v := (0 : Int32)) X.1.1 X.1.2.1 dX5_turnAt_22 (by decide) ?_
    cases hf
    exact r_retI X hw hr hlk rfl dX5_turnAt_23
  · skip
    rw [if_neg c_1] at hf
    refine lv_iload_n X.1.1 X.1.2.1 dX5_turnAt_4 rfl (lv_at hl 1 rfl) ?_
    refine lv_aload_n X.1.1 X.1.2.1 dX5_turnAt_5 rfl (lv_at hl 0 rfl) ?_
    obtain ⟨g_a0, hf⟩ := ogd hf
    obtain ⟨q2, eq2, hf⟩ := odq hf
    refine r_getq (k := 5) (j := 1) X hw rfl inX5 g_a0 rfl (by decide) (by decide) uf_X5_15 rfl dX5_turnAt_6 eq2 ?_
    obtain ⟨g_q2, hf⟩ := ogd hf
    refine r_alen X hw g_q2 (by decide) dX5_turnAt_9 ?_
    refine lv_icmp_ge (tgt := 22) X.1.1 X.1.2.1 dX5_turnAt_10 (by decide) (fun c_3 => ?_) (fun c_3 => ?_)
    · skip
      rw [if_pos c_3] at hf
      refine lv_iconst (v := (0 : Int32)) X.1.1 X.1.2.1 dX5_turnAt_22 (by decide) ?_
      cases hf
      exact r_retI X hw hr hlk rfl dX5_turnAt_23
    · skip
      rw [if_neg c_3] at hf
      refine lv_aload_n X.1.1 X.1.2.1 dX5_turnAt_13 rfl (lv_at hl 0 rfl) ?_
      refine r_getq (k := 5) (j := 1) X hw rfl inX5 g_a0 rfl (by decide) (by decide) uf_X5_15 rfl dX5_turnAt_14 eq2 ?_
      refine lv_iload_n X.1.1 X.1.2.1 dX5_turnAt_17 rfl (lv_at hl 1 rfl) ?_
      obtain ⟨i_4, hf⟩ := ogd hf
      refine r_iald X hw g_q2 i_4 dX5_turnAt_18 ?_
      refine lv_goto (tgt := 23) X.1.1 X.1.2.1 dX5_turnAt_19 (by decide) ?_
      cases hf
      exact r_retI X hw hr hlk rfl dX5_turnAt_23
/-! X5_meanOf -/
def f_X5_meanOf (h : Hs) (a0 : Nat) (p1 : Int32) (p2 : Int32) (M : Mm) : Option Int32 :=
  gd (ok h a0 5) <|
  (f_X5_turnAt h a0 p1 M).bind fun z1 =>
  (f_X5_turnAt h a0 p2 M).bind fun z2 =>
  some (z1 + z2)
set_option maxHeartbeats 4000000 in
set_option maxRecDepth 100000 in
theorem c_X5_meanOf {l : Launch} {D : va_G} {cy : Nat → ClassId} {h : Hs} {a0 : Nat} {p1 : Int32} {p2 : Int32} {M : Mm} {z : Int32} (hf : f_X5_meanOf h a0 p1 p2 M = some z) : CtI l D cy yX5_meanOf (wu yX5_meanOf cX5_meanOf 3 (some .int)) ({ frames := 1, cells := 0, slots := 0, locals := 21 }) [.ref a0, .int p1, .int p2] h M z M := by
  refine enterI (cc := cX5_meanOf) (maxL := 3) (ret := (some .int)) (by decide) (Nat.le_of_ble_eq_true rfl) ?_
  intro p e s m args below meth c A ls X hw hr hlk hl
  have hl : lv_has ls 3 [(0, .ref a0), (1, .int p1), (2, .int p2)] := hl
  unfold f_X5_meanOf at hf
  refine lv_aload_n X.1.1 X.1.2.1 dX5_meanOf_0 rfl (lv_at hl 0 rfl) ?_
  refine lv_iload_n X.1.1 X.1.2.1 dX5_meanOf_1 rfl (lv_at hl 1 rfl) ?_
  obtain ⟨g_a0, hf⟩ := ogd hf
  obtain ⟨z1, ez1, hf⟩ := obd hf
  refine r_callVI (As := [.int p1]) (rest := []) X hw (c_X5_turnAt ez1) (cwV 1 X.1.2.2.2.2 (guV um_X5_100 ui_X5_turnAt us_X5_turnAt un_X5 uo_X5_turnAt) rfl rfl rfl (by decide +kernel) ⟨Nat.le_of_ble_eq_true rfl, Nat.le_of_ble_eq_true rfl⟩) g_a0 (by decide) rfl rfl hl.1 rfl (Nat.le_of_ble_eq_true rfl) dX5_meanOf_2 ⟨Nat.zero_le _, Nat.zero_le _⟩ (fun H locs hw => ?_)
  refine lv_aload_n X.1.1 X.1.2.1 dX5_meanOf_5 rfl (lv_at hl 0 rfl) ?_
  refine lv_iload_n X.1.1 X.1.2.1 dX5_meanOf_6 rfl (lv_at hl 2 rfl) ?_
  obtain ⟨z2, ez2, hf⟩ := obd hf
  refine r_callVI (As := [.int p2]) (rest := [.int z1]) X hw (c_X5_turnAt ez2) (cwV 1 X.1.2.2.2.2 (guV um_X5_100 ui_X5_turnAt us_X5_turnAt un_X5 uo_X5_turnAt) rfl rfl rfl (by decide +kernel) ⟨Nat.le_of_ble_eq_true rfl, Nat.le_of_ble_eq_true rfl⟩) g_a0 (by decide) rfl rfl hl.1 rfl (Nat.le_of_ble_eq_true rfl) dX5_meanOf_7 ⟨Nat.zero_le _, Nat.zero_le _⟩ (fun H locs hw => ?_)
  refine lv_iadd X.1.1 X.1.2.1 dX5_meanOf_10 ?_
  cases hf
  exact r_retI X hw hr hlk rfl dX5_meanOf_11
/-! X5_rangeOf -/
def f_X5_rangeOf (h : Hs) (a0 : Nat) (p1 : Int32) (p2 : Int32) (M : Mm) : Option Int32 :=
  gd (ok h a0 5) <|
  (f_X5_turnAt h a0 p1 M).bind fun z1 =>
  (f_X5_turnAt h a0 p2 M).bind fun z2 =>
  some (if 0 ≤ (z1 - z2) then z1 - z2 else 0 - (z1 - z2))
set_option maxHeartbeats 4000000 in
set_option maxRecDepth 100000 in
theorem c_X5_rangeOf {l : Launch} {D : va_G} {cy : Nat → ClassId} {h : Hs} {a0 : Nat} {p1 : Int32} {p2 : Int32} {M : Mm} {z : Int32} (hf : f_X5_rangeOf h a0 p1 p2 M = some z) : CtI l D cy yX5_rangeOf (wu yX5_rangeOf cX5_rangeOf 3 (some .int)) ({ frames := 1, cells := 0, slots := 0, locals := 25 }) [.ref a0, .int p1, .int p2] h M z M := by
  refine enterI (cc := cX5_rangeOf) (maxL := 3) (ret := (some .int)) (by decide) (Nat.le_of_ble_eq_true rfl) ?_
  intro p e s m args below meth c A ls X hw hr hlk hl
  have hl : lv_has ls 3 [(0, .ref a0), (1, .int p1), (2, .int p2)] := hl
  unfold f_X5_rangeOf at hf
  refine lv_aload_n X.1.1 X.1.2.1 dX5_rangeOf_0 rfl (lv_at hl 0 rfl) ?_
  refine lv_iload_n X.1.1 X.1.2.1 dX5_rangeOf_1 rfl (lv_at hl 1 rfl) ?_
  obtain ⟨g_a0, hf⟩ := ogd hf
  obtain ⟨z1, ez1, hf⟩ := obd hf
  refine r_callVI (As := [.int p1]) (rest := []) X hw (c_X5_turnAt ez1) (cwV 1 X.1.2.2.2.2 (guV um_X5_100 ui_X5_turnAt us_X5_turnAt un_X5 uo_X5_turnAt) rfl rfl rfl (by decide +kernel) ⟨Nat.le_of_ble_eq_true rfl, Nat.le_of_ble_eq_true rfl⟩) g_a0 (by decide) rfl rfl hl.1 rfl (Nat.le_of_ble_eq_true rfl) dX5_rangeOf_2 ⟨Nat.zero_le _, Nat.zero_le _⟩ (fun H locs hw => ?_)
  refine lv_aload_n X.1.1 X.1.2.1 dX5_rangeOf_5 rfl (lv_at hl 0 rfl) ?_
  refine lv_iload_n X.1.1 X.1.2.1 dX5_rangeOf_6 rfl (lv_at hl 2 rfl) ?_
  obtain ⟨z2, ez2, hf⟩ := obd hf
  refine r_callVI (As := [.int p2]) (rest := [.int z1]) X hw (c_X5_turnAt ez2) (cwV 1 X.1.2.2.2.2 (guV um_X5_100 ui_X5_turnAt us_X5_turnAt un_X5 uo_X5_turnAt) rfl rfl rfl (by decide +kernel) ⟨Nat.le_of_ble_eq_true rfl, Nat.le_of_ble_eq_true rfl⟩) g_a0 (by decide) rfl rfl hl.1 rfl (Nat.le_of_ble_eq_true rfl) dX5_rangeOf_7 ⟨Nat.zero_le _, Nat.zero_le _⟩ (fun H locs hw => ?_)
  refine lv_isub X.1.1 X.1.2.1 dX5_rangeOf_10 ?_
  refine va_mabs X.1.1 X.1.2.1 (X.1.2.2.1.trans hl.1.symm) X.1.2.2.2.1 (X.1.2.2.2.2 _ um_X5_71) (X.1.2.2.2.2 _ ut_Lib_Math_abs_name) (X.1.2.2.2.2 _ un_java_lang_Math) (X.1.2.2.2.2 _ uo_Lib_Math_abs_name) (Nat.le_of_ble_eq_true rfl) (Nat.le_of_ble_eq_true rfl) (Nat.zero_le _) (Nat.zero_le _) dX5_rangeOf_11 ?_
  cases hf
  exact r_retI X hw hr hlk rfl dX5_rangeOf_14
/-! X2_effectOf -/
def f_X2_effectOf (h : Hs) (a0 : Nat) (p1 : Nat) (p2 : Int32) (p3 : Int32) (M : Mm) : Option Int32 :=
  gd (ok h a0 2) <|
  dq (zR h a0 1) fun q1 =>
  gd (ok h p1 5) <|
  (f_X5_meanOf h p1 p2 p3 M).bind fun z2 =>
  gd (ok h q1 3) <|
  (f_X3_firstNotBelow h q1 z2 M).bind fun z3 =>
  Option.bind (
    if ¬ z3 = (-1 : Int32) then
      (f_X3_valueAt h q1 z3 M).bind fun z5 =>
      some z5
    else
      some (100 : Int32)
    ) fun y6 =>
  (f_X5_rangeOf h p1 p2 p3 M).bind fun z7 =>
  some (((z7 * y6) + (99 : Int32)) / (100 : Int32))
set_option maxHeartbeats 4000000 in
set_option maxRecDepth 100000 in
theorem c_X2_effectOf {l : Launch} {D : va_G} {cy : Nat → ClassId} {h : Hs} {a0 : Nat} {p1 : Nat} {p2 : Int32} {p3 : Int32} {M : Mm} {z : Int32} (hf : f_X2_effectOf h a0 p1 p2 p3 M = some z) : CtI l D cy yX2_effectOf (wu yX2_effectOf cX2_effectOf 6 (some .int)) ({ frames := 2, cells := 0, slots := 0, locals := 47 }) [.ref a0, .ref p1, .int p2, .int p3] h M z M := by
  refine enterI (cc := cX2_effectOf) (maxL := 6) (ret := (some .int)) (by decide) (Nat.le_of_ble_eq_true rfl) ?_
  intro p e s m args below meth c A ls X hw hr hlk hl
  have hl : lv_has ls 6 [(0, .ref a0), (1, .ref p1), (2, .int p2), (3, .int p3)] := hl
  unfold f_X2_effectOf at hf
  refine lv_aload_n X.1.1 X.1.2.1 dX2_effectOf_0 rfl (lv_at hl 0 rfl) ?_
  obtain ⟨g_a0, hf⟩ := ogd hf
  obtain ⟨q1, eq1, hf⟩ := odq hf
  refine r_getq (k := 2) (j := 1) X hw rfl inX2 g_a0 rfl (by decide) (by decide) uf_X2_20 rfl dX2_effectOf_1 eq1 ?_
  refine lv_aload_n X.1.1 X.1.2.1 dX2_effectOf_4 rfl (lv_at hl 1 rfl) ?_
  refine lv_iload_n X.1.1 X.1.2.1 dX2_effectOf_5 rfl (lv_at hl 2 rfl) ?_
  refine lv_iload_n X.1.1 X.1.2.1 dX2_effectOf_6 rfl (lv_at hl 3 rfl) ?_
  obtain ⟨g_p1, hf⟩ := ogd hf
  obtain ⟨z2, ez2, hf⟩ := obd hf
  refine r_callVI (As := [.int p2, .int p3]) (rest := [.ref q1]) X hw (c_X5_meanOf ez2) (cwV 2 X.1.2.2.2.2 (guV um_X2_49 ui_X5_meanOf us_X5_meanOf un_X5 uo_X5_meanOf) rfl rfl rfl (by decide +kernel) ⟨Nat.le_of_ble_eq_true rfl, Nat.le_of_ble_eq_true rfl⟩) g_p1 (by decide) rfl rfl hl.1 rfl (Nat.le_of_ble_eq_true rfl) dX2_effectOf_7 ⟨Nat.zero_le _, Nat.zero_le _⟩ (fun H locs hw => ?_)
  obtain ⟨g_q1, hf⟩ := ogd hf
  obtain ⟨z3, ez3, hf⟩ := obd hf
  refine r_callVI (As := [.int z2]) (rest := []) X hw (c_X3_firstNotBelow ez3) (cwV 1 X.1.2.2.2.2 (guV um_X2_55 ui_X3_firstNotBelow us_X3_firstNotBelow un_X3 uo_X3_firstNotBelow) rfl rfl rfl (by decide +kernel) ⟨Nat.le_of_ble_eq_true rfl, Nat.le_of_ble_eq_true rfl⟩) g_q1 (by decide) rfl rfl hl.1 rfl (Nat.le_of_ble_eq_true rfl) dX2_effectOf_10 ⟨Nat.zero_le _, Nat.zero_le _⟩ (fun H locs hw => ?_)
  refine lv_istore (lv' := [(4, .int z3), (0, .ref a0), (1, .ref p1), (2, .int p2), (3, .int p3)]) X.1.1 X.1.2.1 dX2_effectOf_13 hl (by decide) rfl (fun ls hl => ?_)
  refine lv_iload X.1.1 X.1.2.1 dX2_effectOf_15 (lv_at hl 0 rfl) ?_
  refine lv_iconst (v := (-1 : Int32)) X.1.1 X.1.2.1 dX2_effectOf_17 (by decide) ?_
  obtain ⟨y6, ey6, hf⟩ := obd hf
  have Jy6 : ∀ (H : Heap) (locs : List Loc) (ls : Array Slot), Wd D cy A s.heap h M H locs → lv_has ls 6 [(1, .ref p1), (2, .int p2), (3, .int p3)] → W p l e ({ frames := 2, cells := 0, slots := 0, locals := 47 } : Room) s m args below meth c H locs 0 0 (QI below D cy A h args s z M) (F0 m 35 ls [.int y6]) := by
    intro H locs ls hw hl
    refine lv_istore (lv' := [(5, .int y6), (1, .ref p1), (2, .int p2), (3, .int p3)]) X.1.1 X.1.2.1 dX2_effectOf_35 hl (by decide) rfl (fun ls hl => ?_)
    refine lv_aload_n X.1.1 X.1.2.1 dX2_effectOf_37 rfl (lv_at hl 1 rfl) ?_
    refine lv_iload_n X.1.1 X.1.2.1 dX2_effectOf_38 rfl (lv_at hl 2 rfl) ?_
    refine lv_iload_n X.1.1 X.1.2.1 dX2_effectOf_39 rfl (lv_at hl 3 rfl) ?_
    obtain ⟨z7, ez7, hf⟩ := obd hf
    refine r_callVI (As := [.int p2, .int p3]) (rest := []) X hw (c_X5_rangeOf ez7) (cwV 2 X.1.2.2.2.2 (guV um_X2_62 ui_X5_rangeOf us_X5_rangeOf un_X5 uo_X5_rangeOf) rfl rfl rfl (by decide +kernel) ⟨Nat.le_of_ble_eq_true rfl, Nat.le_of_ble_eq_true rfl⟩) g_p1 (by decide) rfl rfl hl.1 rfl (Nat.le_of_ble_eq_true rfl) dX2_effectOf_40 ⟨Nat.zero_le _, Nat.zero_le _⟩ (fun H locs hw => ?_)
    refine lv_iload X.1.1 X.1.2.1 dX2_effectOf_43 (lv_at hl 0 rfl) ?_
    refine lv_imul X.1.1 X.1.2.1 dX2_effectOf_45 ?_
    refine lv_bipush (v := (99 : Int32)) X.1.1 X.1.2.1 dX2_effectOf_46 (by decide) ?_
    refine lv_iadd X.1.1 X.1.2.1 dX2_effectOf_48 ?_
    refine lv_bipush (v := (100 : Int32)) X.1.1 X.1.2.1 dX2_effectOf_49 (by decide) ?_
    refine lv_idiv X.1.1 X.1.2.1 dX2_effectOf_51 (by decide) ?_
    cases hf
    exact r_retI X hw hr hlk rfl dX2_effectOf_52
  clear hf
  have hf := ey6
  clear ey6
  refine lv_icmp_ne (tgt := 26) X.1.1 X.1.2.1 dX2_effectOf_18 (by decide) (fun c_4 => ?_) (fun c_4 => ?_)
  · skip
    rw [if_pos c_4] at hf
    refine lv_aload_n X.1.1 X.1.2.1 dX2_effectOf_26 rfl (lv_at hl 1 rfl) ?_
    refine r_getq (k := 2) (j := 1) X hw rfl inX2 g_a0 rfl (by decide) (by decide) uf_X2_20 rfl dX2_effectOf_27 eq1 ?_
    refine lv_iload X.1.1 X.1.2.1 dX2_effectOf_30 (lv_at hl 0 rfl) ?_
    obtain ⟨z5, ez5, hf⟩ := obd hf
    refine r_callVI (As := [.int z3]) (rest := []) X hw (c_X3_valueAt ez5) (cwV 1 X.1.2.2.2.2 (guV um_X2_59 ui_X3_valueAt us_X3_valueAt un_X3 uo_X3_valueAt) rfl rfl rfl (by decide +kernel) ⟨Nat.le_of_ble_eq_true rfl, Nat.le_of_ble_eq_true rfl⟩) g_q1 (by decide) rfl rfl hl.1 rfl (Nat.le_of_ble_eq_true rfl) dX2_effectOf_32 ⟨Nat.zero_le _, Nat.zero_le _⟩ (fun H locs hw => ?_)
    cases hf
    exact Jy6 _ _ _ hw (lv_sub hl [2, 3, 4] rfl)
  · skip
    rw [if_neg (fun z => z c_4)] at hf
    refine lv_bipush (v := (100 : Int32)) X.1.1 X.1.2.1 dX2_effectOf_21 (by decide) ?_
    refine lv_goto (tgt := 35) X.1.1 X.1.2.1 dX2_effectOf_23 (by decide) ?_
    cases hf
    exact Jy6 _ _ _ hw (lv_sub hl [2, 3, 4] rfl)
/-! X2_boundFor -/
def f_X2_boundFor (h : Hs) (a0 : Nat) (p1 : Int32) (M : Mm) : Option Int32 :=
  gd (ok h a0 2) <|
  dq (zR h a0 0) fun q1 =>
  gd (ok h q1 3) <|
  (f_X3_firstNotBelow h q1 p1 M).bind fun z2 =>
  if ¬ z2 = (-1 : Int32) then
    some z2
  else
    some (6 : Int32)
set_option maxHeartbeats 4000000 in
set_option maxRecDepth 100000 in
theorem c_X2_boundFor {l : Launch} {D : va_G} {cy : Nat → ClassId} {h : Hs} {a0 : Nat} {p1 : Int32} {M : Mm} {z : Int32} (hf : f_X2_boundFor h a0 p1 M = some z) : CtI l D cy yX2_boundFor (wu yX2_boundFor cX2_boundFor 3 (some .int)) ({ frames := 1, cells := 0, slots := 0, locals := 22 }) [.ref a0, .int p1] h M z M := by
  refine enterI (cc := cX2_boundFor) (maxL := 3) (ret := (some .int)) (by decide) (Nat.le_of_ble_eq_true rfl) ?_
  intro p e s m args below meth c A ls X hw hr hlk hl
  have hl : lv_has ls 3 [(0, .ref a0), (1, .int p1)] := hl
  unfold f_X2_boundFor at hf
  refine lv_aload_n X.1.1 X.1.2.1 dX2_boundFor_0 rfl (lv_at hl 0 rfl) ?_
  obtain ⟨g_a0, hf⟩ := ogd hf
  obtain ⟨q1, eq1, hf⟩ := odq hf
  refine r_getq (k := 2) (j := 0) X hw rfl inX2 g_a0 rfl (by decide) (by decide) uf_X2_14 rfl dX2_boundFor_1 eq1 ?_
  refine lv_iload_n X.1.1 X.1.2.1 dX2_boundFor_4 rfl (lv_at hl 1 rfl) ?_
  obtain ⟨g_q1, hf⟩ := ogd hf
  obtain ⟨z2, ez2, hf⟩ := obd hf
  refine r_callVI (As := [.int p1]) (rest := []) X hw (c_X3_firstNotBelow ez2) (cwV 1 X.1.2.2.2.2 (guV um_X2_55 ui_X3_firstNotBelow us_X3_firstNotBelow un_X3 uo_X3_firstNotBelow) rfl rfl rfl (by decide +kernel) ⟨Nat.le_of_ble_eq_true rfl, Nat.le_of_ble_eq_true rfl⟩) g_q1 (by decide) rfl rfl hl.1 rfl (Nat.le_of_ble_eq_true rfl) dX2_boundFor_5 ⟨Nat.zero_le _, Nat.zero_le _⟩ (fun H locs hw => ?_)
  refine lv_istore_n (lv' := [(2, .int z2), (0, .ref a0), (1, .int p1)]) X.1.1 X.1.2.1 dX2_boundFor_8 rfl hl (by decide) rfl (fun ls hl => ?_)
  refine lv_iload_n X.1.1 X.1.2.1 dX2_boundFor_9 rfl (lv_at hl 0 rfl) ?_
  refine lv_iconst (v := (-1 : Int32)) X.1.1 X.1.2.1 dX2_boundFor_10 (by decide) ?_
  refine lv_icmp_ne (tgt := 19) X.1.1 X.1.2.1 dX2_boundFor_11 (by decide) (fun c_3 => ?_) (fun c_3 => ?_)
  · skip
    rw [if_pos c_3] at hf
    refine lv_iload_n X.1.1 X.1.2.1 dX2_boundFor_19 rfl (lv_at hl 0 rfl) ?_
    cases hf
    exact r_retI X hw hr hlk rfl dX2_boundFor_20
  · skip
    rw [if_neg (fun z => z c_3)] at hf
    refine lv_bipush (v := (6 : Int32)) X.1.1 X.1.2.1 dX2_boundFor_14 (by decide) ?_
    refine lv_goto (tgt := 20) X.1.1 X.1.2.1 dX2_boundFor_16 (by decide) ?_
    cases hf
    exact r_retI X hw hr hlk rfl dX2_boundFor_20
/-! X2_useUnder -/
def f_X2_useUnder (h : Hs) (a0 : Nat) (p1 : Int32) (M : Mm) : Option Int64 :=
  Option.bind (
    if ¬ p1 = (6 : Int32) then
      gd (ok h a0 2) <|
      dq (zR h a0 0) fun q2 =>
      gd (ok h q2 3) <|
      (f_X3_valueAt h q2 p1 M).bind fun z3 =>
      some z3
    else
      some (1 : Int32)
    ) fun y4 =>
  if (1 : Int32) ≤ y4 then
    gd (¬ y4.toInt64 = 0) <|
    some ((1441440000000 : Int64) / y4.toInt64)
  else
    some (1441440000000 : Int64)
set_option maxHeartbeats 4000000 in
set_option maxRecDepth 100000 in
theorem c_X2_useUnder {l : Launch} {D : va_G} {cy : Nat → ClassId} {h : Hs} {a0 : Nat} {p1 : Int32} {M : Mm} {z : Int64} (hf : f_X2_useUnder h a0 p1 M = some z) : CtL l D cy yX2_useUnder (wu yX2_useUnder cX2_useUnder 3 (some .long)) ({ frames := 1, cells := 0, slots := 0, locals := 21 }) [.ref a0, .int p1] h M z M := by
  refine enterL (cc := cX2_useUnder) (maxL := 3) (ret := (some .long)) (by decide) (Nat.le_of_ble_eq_true rfl) ?_
  intro p e s m args below meth c A ls X hw hr hlk hl
  have hl : lv_has ls 3 [(0, .ref a0), (1, .int p1)] := hl
  unfold f_X2_useUnder at hf
  refine lv_iload_n X.1.1 X.1.2.1 dX2_useUnder_0 rfl (lv_at hl 1 rfl) ?_
  refine lv_bipush (v := (6 : Int32)) X.1.1 X.1.2.1 dX2_useUnder_1 (by decide) ?_
  obtain ⟨y4, ey4, hf⟩ := obd hf
  have Jy4 : ∀ (H : Heap) (locs : List Loc) (ls : Array Slot), Wd D cy A s.heap h M H locs → lv_has ls 3 [] → W p l e ({ frames := 1, cells := 0, slots := 0, locals := 21 } : Room) s m args below meth c H locs 0 0 (QL below D cy A h args s z M) (F0 m 18 ls [.int y4]) := by
    intro H locs ls hw hl
    refine lv_istore_n (lv' := [(2, .int y4)]) X.1.1 X.1.2.1 dX2_useUnder_18 rfl hl (by decide) rfl (fun ls hl => ?_)
    refine lv_iload_n X.1.1 X.1.2.1 dX2_useUnder_19 rfl (lv_at hl 0 rfl) ?_
    refine lv_iconst (v := (1 : Int32)) X.1.1 X.1.2.1 dX2_useUnder_20 (by decide) ?_
    refine lv_icmp_ge (tgt := 30) X.1.1 X.1.2.1 dX2_useUnder_21 (by decide) (fun c_5 => ?_) (fun c_5 => ?_)
    · skip
      rw [if_pos c_5] at hf
      refine lv_ldc2 (v := (1441440000000 : Int64)) X.1.1 X.1.2.1 X.1.2.2.2.1 (X.1.2.2.2.2 _ uk_X2_65) dX2_useUnder_30 ?_
      refine lv_iload_n X.1.1 X.1.2.1 dX2_useUnder_33 rfl (lv_at hl 0 rfl) ?_
      refine lv_i2l X.1.1 X.1.2.1 dX2_useUnder_34 rfl ?_
      obtain ⟨n_6, hf⟩ := ogd hf
      refine lv_ldiv X.1.1 X.1.2.1 dX2_useUnder_35 n_6 ?_
      cases hf
      exact r_retL X hw hr hlk dX2_useUnder_36
    · skip
      rw [if_neg c_5] at hf
      refine lv_ldc2 (v := (1441440000000 : Int64)) X.1.1 X.1.2.1 X.1.2.2.2.1 (X.1.2.2.2.2 _ uk_X2_65) dX2_useUnder_24 ?_
      refine lv_goto (tgt := 36) X.1.1 X.1.2.1 dX2_useUnder_27 (by decide) ?_
      cases hf
      exact r_retL X hw hr hlk dX2_useUnder_36
  clear hf
  have hf := ey4
  clear ey4
  refine lv_icmp_ne (tgt := 10) X.1.1 X.1.2.1 dX2_useUnder_3 (by decide) (fun c_1 => ?_) (fun c_1 => ?_)
  · skip
    rw [if_pos c_1] at hf
    refine lv_aload_n X.1.1 X.1.2.1 dX2_useUnder_10 rfl (lv_at hl 0 rfl) ?_
    obtain ⟨g_a0, hf⟩ := ogd hf
    obtain ⟨q2, eq2, hf⟩ := odq hf
    refine r_getq (k := 2) (j := 0) X hw rfl inX2 g_a0 rfl (by decide) (by decide) uf_X2_14 rfl dX2_useUnder_11 eq2 ?_
    refine lv_iload_n X.1.1 X.1.2.1 dX2_useUnder_14 rfl (lv_at hl 1 rfl) ?_
    obtain ⟨g_q2, hf⟩ := ogd hf
    obtain ⟨z3, ez3, hf⟩ := obd hf
    refine r_callVI (As := [.int p1]) (rest := []) X hw (c_X3_valueAt ez3) (cwV 1 X.1.2.2.2.2 (guV um_X2_59 ui_X3_valueAt us_X3_valueAt un_X3 uo_X3_valueAt) rfl rfl rfl (by decide +kernel) ⟨Nat.le_of_ble_eq_true rfl, Nat.le_of_ble_eq_true rfl⟩) g_q2 (by decide) rfl rfl hl.1 rfl (Nat.le_of_ble_eq_true rfl) dX2_useUnder_15 ⟨Nat.zero_le _, Nat.zero_le _⟩ (fun H locs hw => ?_)
    cases hf
    exact Jy4 _ _ _ hw (lv_sub hl [] rfl)
  · skip
    rw [if_neg (fun z => z c_1)] at hf
    refine lv_iconst (v := (1 : Int32)) X.1.1 X.1.2.1 dX2_useUnder_6 (by decide) ?_
    refine lv_goto (tgt := 18) X.1.1 X.1.2.1 dX2_useUnder_7 (by decide) ?_
    cases hf
    exact Jy4 _ _ _ hw (lv_sub hl [] rfl)
