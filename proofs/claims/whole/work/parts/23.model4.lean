/-! X9_again -/
def f_X9_again (h : Hs) (a0 : Nat) (M : Mm) : Option (Int32 × Mm) :=
  gd (ok h a0 9) <|
  lt_ (sI M a0 0 (0 : Int32)) fun M1 =>
  if ¬ (zI M1 a0 5) = 0 then
    dq (zR h a0 3) fun q3 =>
    dq (zR h a0 1) fun q4 =>
    (f_X9_copy h a0 q3 q4 M1).bind fun z5 =>
    lt_ (sI z5 a0 4 (0 : Int32)) fun M6 =>
    some ((1 : Int32), M6)
  else
    some ((0 : Int32), M1)
set_option maxHeartbeats 4000000 in
set_option maxRecDepth 100000 in
theorem c_X9_again {l : Launch} {D : va_G} {cy : Nat → ClassId} {h : Hs} {a0 : Nat} {M : Mm} {z : (Int32 × Mm)} (hf : f_X9_again h a0 M = some z) : CtI l D cy yX9_again (wu yX9_again cX9_again 1 (some .boolean)) ({ frames := 1, cells := 0, slots := 0, locals := 23 }) [.ref a0] h M z.1 z.2 := by
  refine enterI (cc := cX9_again) (maxL := 1) (ret := (some .boolean)) (by decide) (Nat.le_of_ble_eq_true rfl) ?_
  intro p e s m args below meth c A ls X hw hr hlk hl
  have hl : lv_has ls 1 [(0, .ref a0)] := hl
  unfold f_X9_again at hf
  refine lv_aload_n X.1.1 X.1.2.1 dX9_again_0 rfl (lv_at hl 0 rfl) ?_
  refine lv_iconst (v := (0 : Int32)) X.1.1 X.1.2.1 dX9_again_1 (by decide) ?_
  obtain ⟨g_a0, hf⟩ := ogd hf
  refine r_puti (k := 9) (j := 0) X hw rfl inX9 tyX9_ok nmX9 g_a0 rfl (by decide) (by decide) uf_X9_1 rfl rfl rfl rfl dX9_again_2 (fun H locs hw => ?_)
  obtain ⟨M1, eM1, hf⟩ := olt hf
  rw [← eM1] at hw
  refine lv_aload_n X.1.1 X.1.2.1 dX9_again_5 rfl (lv_at hl 0 rfl) ?_
  refine r_geti (k := 9) (j := 5) X hw rfl inX9 g_a0 rfl (by decide) (by decide) uf_X9_225 rfl dX9_again_6 ?_
  refine lv_if_ne (tgt := 14) X.1.1 X.1.2.1 dX9_again_9 (by decide) (fun c_2 => ?_) (fun c_2 => ?_)
  · skip
    rw [if_pos c_2] at hf
    refine lv_aload_n X.1.1 X.1.2.1 dX9_again_14 rfl (lv_at hl 0 rfl) ?_
    refine lv_aload_n X.1.1 X.1.2.1 dX9_again_15 rfl (lv_at hl 0 rfl) ?_
    obtain ⟨q3, eq3, hf⟩ := odq hf
    refine r_getq (k := 9) (j := 3) X hw rfl inX9 g_a0 rfl (by decide) (by decide) uf_X9_20 rfl dX9_again_16 eq3 ?_
    refine lv_aload_n X.1.1 X.1.2.1 dX9_again_19 rfl (lv_at hl 0 rfl) ?_
    obtain ⟨q4, eq4, hf⟩ := odq hf
    refine r_getq (k := 9) (j := 1) X hw rfl inX9 g_a0 rfl (by decide) (by decide) uf_X9_13 rfl dX9_again_20 eq4 ?_
    obtain ⟨z5, ez5, hf⟩ := obd hf
    refine r_callVV (As := [.ref q3, .ref q4]) (rest := []) X hw (c_X9_copy ez5) (cwV 2 X.1.2.2.2.2 (guV um_X9_56 ui_X9_copy us_X9_copy un_X9 uo_X9_copy) rfl rfl rfl (by decide +kernel) ⟨Nat.le_of_ble_eq_true rfl, Nat.le_of_ble_eq_true rfl⟩) g_a0 (by decide) rfl rfl hl.1 rfl (Nat.le_of_ble_eq_true rfl) dX9_again_23 ⟨Nat.zero_le _, Nat.zero_le _⟩ (fun H locs hw => ?_)
    refine lv_aload_n X.1.1 X.1.2.1 dX9_again_26 rfl (lv_at hl 0 rfl) ?_
    refine lv_iconst (v := (0 : Int32)) X.1.1 X.1.2.1 dX9_again_27 (by decide) ?_
    refine r_puti (k := 9) (j := 4) X hw rfl inX9 tyX9_ok nmX9 g_a0 rfl (by decide) (by decide) uf_X9_60 rfl rfl rfl rfl dX9_again_28 (fun H locs hw => ?_)
    obtain ⟨M6, eM6, hf⟩ := olt hf
    rw [← eM6] at hw
    refine lv_iconst (v := (1 : Int32)) X.1.1 X.1.2.1 dX9_again_31 (by decide) ?_
    cases hf
    exact r_retI (v := (1 : Int32)) X hw hr hlk rfl dX9_again_32
  · skip
    rw [if_neg (fun z => z c_2)] at hf
    refine lv_iconst (v := (0 : Int32)) X.1.1 X.1.2.1 dX9_again_12 (by decide) ?_
    cases hf
    exact r_retI (v := (0 : Int32)) X hw hr hlk rfl dX9_again_13
/-! X9_count -/
def lp_X9_count_66 (h : Hs) (w1 : Int32) (a0 : Nat) (M : Mm) : Nat → Int32 → Int32 → Option (Int32 × Int32)
  | 0, _, _ => none
  | n + 1, v2, v3 =>
    if (12 : Int32) ≤ v3 then
      some (v2, v3)
    else
      Option.bind (
        if ¬ w1 = (1 : Int32) then
          dq (zR h a0 1) fun q8 =>
          gd (ok h q8 11) <|
          gd (inb ((404 : Int32) * v3) (zN h q8)) <|
          if ¬ (zI M q8 ((404 : Int32) * v3).toNatClampNeg) = (5 : Int32) then
            some (0 : Int32)
          else
            some (1 : Int32)
        else
          (f_X9_isGauge h a0 v3 M).bind fun z11 =>
          if z11 = 0 then
            some (0 : Int32)
          else
            some (1 : Int32)
        ) fun y13 =>
      lt_ (v2 + y13) fun x14 =>
      lt_ (v3 + (1 : Int32)) fun x15 =>
      lp_X9_count_66 h w1 a0 M n x14 x15
set_option maxHeartbeats 4000000 in
set_option maxRecDepth 100000 in
theorem wlp_X9_count_66 {l : Launch} {D : va_G} {cy : Nat → ClassId} {h : Hs} {w1 : Int32} {a0 : Nat} {M : Mm} {p : Program} {e : Env} {s : State} {m : MethodId} {args : Array Value} {below : List Frame} {meth : Method} {c : Code} {A : Nat → Prop} (X : Cx p s m args c cX9_count 4 gtbl RX9 D cy A) {Q : State → Prop} (g_a0 : ok h a0 9) : ∀ (n : Nat) (v2 : Int32) (v3 : Int32) (z : (Int32 × Int32)) (H : Heap) (locs : List Loc) (ls : Array Slot), lp_X9_count_66 h w1 a0 M n v2 v3 = some z → Wd D cy A s.heap h M H locs → lv_has ls 4 [(2, .int v2), (3, .int v3), (0, .ref a0), (1, .int w1)] → (∀ x : (Int32 × Int32), z = x → ∀ (H : Heap) (locs : List Loc) (ls : Array Slot), Wd D cy A s.heap h M H locs → lv_has ls 4 [(2, .int x.1), (3, .int x.2), (0, .ref a0), (1, .int w1)] → W p l e ({ frames := 3, cells := 0, slots := 0, locals := 62 } : Room) s m args below meth c H locs 0 0 Q (F0 m 121 ls [])) → W p l e ({ frames := 3, cells := 0, slots := 0, locals := 62 } : Room) s m args below meth c H locs 0 0 Q (F0 m 66 ls []) := by
  intro n
  induction n with
  | zero => intro v2 v3 z H locs ls hf hw hl kx; exact absurd hf (by intro q; cases q)
  | succ n ih =>
    intro v2 v3 z H locs ls hf hw hl kx
    unfold lp_X9_count_66 at hf
    refine lv_iload_n X.1.1 X.1.2.1 dX9_count_66 rfl (lv_at hl 1 rfl) ?_
    refine lv_bipush (v := (12 : Int32)) X.1.1 X.1.2.1 dX9_count_67 (by decide) ?_
    refine lv_icmp_ge (tgt := 121) X.1.1 X.1.2.1 dX9_count_69 (by decide) (fun c_6 => ?_) (fun c_6 => ?_)
    · skip
      rw [if_pos c_6] at hf
      cases hf
      exact kx _ rfl _ _ _ hw (lv_sub hl [0, 1, 2, 3] rfl)
    · skip
      rw [if_neg c_6] at hf
      refine lv_iload_n X.1.1 X.1.2.1 dX9_count_72 rfl (lv_at hl 0 rfl) ?_
      refine lv_iload_n X.1.1 X.1.2.1 dX9_count_73 rfl (lv_at hl 3 rfl) ?_
      refine lv_iconst (v := (1 : Int32)) X.1.1 X.1.2.1 dX9_count_74 (by decide) ?_
      obtain ⟨y13, ey13, hf⟩ := obd hf
      have Jy13 : ∀ (H : Heap) (locs : List Loc) (ls : Array Slot), Wd D cy A s.heap h M H locs → lv_has ls 4 [(3, .int v3), (0, .ref a0), (1, .int w1)] → W p l e ({ frames := 3, cells := 0, slots := 0, locals := 62 } : Room) s m args below meth c H locs 0 0 Q (F0 m 113 ls [.int y13, .int v2]) := by
        intro H locs ls hw hl
        refine lv_iadd X.1.1 X.1.2.1 dX9_count_113 ?_
        refine lv_topi (fun x14 ex14 => ?_)
        have hf := oltE ex14 hf
        refine lv_istore_n (lv' := [(2, .int x14), (3, .int v3), (0, .ref a0), (1, .int w1)]) X.1.1 X.1.2.1 dX9_count_114 rfl hl (by decide) rfl (fun ls hl => ?_)
        obtain ⟨x15, ex15, hf⟩ := olt hf
        refine lv_iinc (v := x15) (lv' := [(3, .int x15), (2, .int x14), (0, .ref a0), (1, .int w1)]) X.1.1 X.1.2.1 dX9_count_115 hl (k := 1) rfl (by rw [ex15]; rfl) (by decide) rfl (fun ls hl => ?_)
        refine lv_goto (tgt := 66) X.1.1 X.1.2.1 dX9_count_118 (by decide) ?_
        exact ih _ _ _ _ _ _ hf hw (lv_sub hl [1, 0, 2, 3] rfl) kx
      clear hf
      have hf := ey13
      clear ey13
      refine lv_icmp_ne (tgt := 94) X.1.1 X.1.2.1 dX9_count_75 (by decide) (fun c_7 => ?_) (fun c_7 => ?_)
      · skip
        rw [if_pos c_7] at hf
        refine lv_aload_n X.1.1 X.1.2.1 dX9_count_94 rfl (lv_at hl 2 rfl) ?_
        obtain ⟨q8, eq8, hf⟩ := odq hf
        refine r_getq (k := 9) (j := 1) X hw rfl inX9 g_a0 rfl (by decide) (by decide) uf_X9_13 rfl dX9_count_95 eq8 ?_
        refine lv_sipush (v := (404 : Int32)) X.1.1 X.1.2.1 dX9_count_98 (by decide) ?_
        refine lv_iload_n X.1.1 X.1.2.1 dX9_count_101 rfl (lv_at hl 1 rfl) ?_
        refine lv_imul X.1.1 X.1.2.1 dX9_count_102 ?_
        obtain ⟨g_q8, hf⟩ := ogd hf
        obtain ⟨i_9, hf⟩ := ogd hf
        refine r_iald X hw g_q8 i_9 dX9_count_103 ?_
        refine lv_iconst (v := (5 : Int32)) X.1.1 X.1.2.1 dX9_count_104 (by decide) ?_
        refine lv_icmp_ne (tgt := 112) X.1.1 X.1.2.1 dX9_count_105 (by decide) (fun c_10 => ?_) (fun c_10 => ?_)
        · skip
          rw [if_pos c_10] at hf
          refine lv_iconst (v := (0 : Int32)) X.1.1 X.1.2.1 dX9_count_112 (by decide) ?_
          cases hf
          exact Jy13 _ _ _ hw (lv_sub hl [1, 2, 3] rfl)
        · skip
          rw [if_neg (fun z => z c_10)] at hf
          refine lv_iconst (v := (1 : Int32)) X.1.1 X.1.2.1 dX9_count_108 (by decide) ?_
          refine lv_goto (tgt := 113) X.1.1 X.1.2.1 dX9_count_109 (by decide) ?_
          cases hf
          exact Jy13 _ _ _ hw (lv_sub hl [1, 2, 3] rfl)
      · skip
        rw [if_neg (fun z => z c_7)] at hf
        refine lv_aload_n X.1.1 X.1.2.1 dX9_count_78 rfl (lv_at hl 2 rfl) ?_
        refine lv_iload_n X.1.1 X.1.2.1 dX9_count_79 rfl (lv_at hl 1 rfl) ?_
        obtain ⟨z11, ez11, hf⟩ := obd hf
        refine r_callVI (As := [.int v3]) (rest := [.int v2]) X hw (c_X9_isGauge ez11) (cwV 1 X.1.2.2.2.2 (guV um_X9_154 ui_X9_isGauge us_X9_isGauge un_X9 uo_X9_isGauge) rfl rfl rfl (by decide +kernel) ⟨Nat.le_of_ble_eq_true rfl, Nat.le_of_ble_eq_true rfl⟩) g_a0 (by decide) rfl rfl hl.1 rfl (Nat.le_of_ble_eq_true rfl) dX9_count_80 ⟨Nat.zero_le _, Nat.zero_le _⟩ (fun H locs hw => ?_)
        refine lv_if_eq (tgt := 90) X.1.1 X.1.2.1 dX9_count_83 (by decide) (fun c_12 => ?_) (fun c_12 => ?_)
        · skip
          rw [if_pos c_12] at hf
          refine lv_iconst (v := (0 : Int32)) X.1.1 X.1.2.1 dX9_count_90 (by decide) ?_
          refine lv_goto (tgt := 113) X.1.1 X.1.2.1 dX9_count_91 (by decide) ?_
          cases hf
          exact Jy13 _ _ _ hw (lv_sub hl [1, 2, 3] rfl)
        · skip
          rw [if_neg c_12] at hf
          refine lv_iconst (v := (1 : Int32)) X.1.1 X.1.2.1 dX9_count_86 (by decide) ?_
          refine lv_goto (tgt := 113) X.1.1 X.1.2.1 dX9_count_87 (by decide) ?_
          cases hf
          exact Jy13 _ _ _ hw (lv_sub hl [1, 2, 3] rfl)
def lp_X9_count_66b (h : Hs) (w1 : Int32) (a0 : Nat) (M : Mm) : Nat → Int32 → Int32 → Option (Int32 × Int32)
  | 0, _, _ => none
  | n + 1, v2, v3 =>
    if (12 : Int32) ≤ v3 then
      some (v2, v3)
    else
      Option.bind (
        if ¬ w1 = (1 : Int32) then
          dq (zR h a0 1) fun q20 =>
          gd (ok h q20 11) <|
          gd (inb ((404 : Int32) * v3) (zN h q20)) <|
          if ¬ (zI M q20 ((404 : Int32) * v3).toNatClampNeg) = (5 : Int32) then
            some (0 : Int32)
          else
            some (1 : Int32)
        else
          (f_X9_isGauge h a0 v3 M).bind fun z23 =>
          if z23 = 0 then
            some (0 : Int32)
          else
            some (1 : Int32)
        ) fun y25 =>
      lt_ (v2 + y25) fun x26 =>
      lt_ (v3 + (1 : Int32)) fun x27 =>
      lp_X9_count_66b h w1 a0 M n x26 x27
set_option maxHeartbeats 4000000 in
set_option maxRecDepth 100000 in
theorem wlp_X9_count_66b {l : Launch} {D : va_G} {cy : Nat → ClassId} {h : Hs} {w1 : Int32} {a0 : Nat} {M : Mm} {p : Program} {e : Env} {s : State} {m : MethodId} {args : Array Value} {below : List Frame} {meth : Method} {c : Code} {A : Nat → Prop} (X : Cx p s m args c cX9_count 4 gtbl RX9 D cy A) {Q : State → Prop} (g_a0 : ok h a0 9) : ∀ (n : Nat) (v2 : Int32) (v3 : Int32) (z : (Int32 × Int32)) (H : Heap) (locs : List Loc) (ls : Array Slot), lp_X9_count_66b h w1 a0 M n v2 v3 = some z → Wd D cy A s.heap h M H locs → lv_has ls 4 [(2, .int v2), (3, .int v3), (0, .ref a0), (1, .int w1)] → (∀ x : (Int32 × Int32), z = x → ∀ (H : Heap) (locs : List Loc) (ls : Array Slot), Wd D cy A s.heap h M H locs → lv_has ls 4 [(2, .int x.1), (3, .int x.2), (0, .ref a0), (1, .int w1)] → W p l e ({ frames := 3, cells := 0, slots := 0, locals := 62 } : Room) s m args below meth c H locs 0 0 Q (F0 m 121 ls [])) → W p l e ({ frames := 3, cells := 0, slots := 0, locals := 62 } : Room) s m args below meth c H locs 0 0 Q (F0 m 66 ls []) := by
  intro n
  induction n with
  | zero => intro v2 v3 z H locs ls hf hw hl kx; exact absurd hf (by intro q; cases q)
  | succ n ih =>
    intro v2 v3 z H locs ls hf hw hl kx
    unfold lp_X9_count_66b at hf
    refine lv_iload_n X.1.1 X.1.2.1 dX9_count_66 rfl (lv_at hl 1 rfl) ?_
    refine lv_bipush (v := (12 : Int32)) X.1.1 X.1.2.1 dX9_count_67 (by decide) ?_
    refine lv_icmp_ge (tgt := 121) X.1.1 X.1.2.1 dX9_count_69 (by decide) (fun c_18 => ?_) (fun c_18 => ?_)
    · skip
      rw [if_pos c_18] at hf
      cases hf
      exact kx _ rfl _ _ _ hw (lv_sub hl [0, 1, 2, 3] rfl)
    · skip
      rw [if_neg c_18] at hf
      refine lv_iload_n X.1.1 X.1.2.1 dX9_count_72 rfl (lv_at hl 0 rfl) ?_
      refine lv_iload_n X.1.1 X.1.2.1 dX9_count_73 rfl (lv_at hl 3 rfl) ?_
      refine lv_iconst (v := (1 : Int32)) X.1.1 X.1.2.1 dX9_count_74 (by decide) ?_
      obtain ⟨y25, ey25, hf⟩ := obd hf
      have Jy25 : ∀ (H : Heap) (locs : List Loc) (ls : Array Slot), Wd D cy A s.heap h M H locs → lv_has ls 4 [(3, .int v3), (0, .ref a0), (1, .int w1)] → W p l e ({ frames := 3, cells := 0, slots := 0, locals := 62 } : Room) s m args below meth c H locs 0 0 Q (F0 m 113 ls [.int y25, .int v2]) := by
        intro H locs ls hw hl
        refine lv_iadd X.1.1 X.1.2.1 dX9_count_113 ?_
        refine lv_topi (fun x26 ex26 => ?_)
        have hf := oltE ex26 hf
        refine lv_istore_n (lv' := [(2, .int x26), (3, .int v3), (0, .ref a0), (1, .int w1)]) X.1.1 X.1.2.1 dX9_count_114 rfl hl (by decide) rfl (fun ls hl => ?_)
        obtain ⟨x27, ex27, hf⟩ := olt hf
        refine lv_iinc (v := x27) (lv' := [(3, .int x27), (2, .int x26), (0, .ref a0), (1, .int w1)]) X.1.1 X.1.2.1 dX9_count_115 hl (k := 1) rfl (by rw [ex27]; rfl) (by decide) rfl (fun ls hl => ?_)
        refine lv_goto (tgt := 66) X.1.1 X.1.2.1 dX9_count_118 (by decide) ?_
        exact ih _ _ _ _ _ _ hf hw (lv_sub hl [1, 0, 2, 3] rfl) kx
      clear hf
      have hf := ey25
      clear ey25
      refine lv_icmp_ne (tgt := 94) X.1.1 X.1.2.1 dX9_count_75 (by decide) (fun c_19 => ?_) (fun c_19 => ?_)
      · skip
        rw [if_pos c_19] at hf
        refine lv_aload_n X.1.1 X.1.2.1 dX9_count_94 rfl (lv_at hl 2 rfl) ?_
        obtain ⟨q20, eq20, hf⟩ := odq hf
        refine r_getq (k := 9) (j := 1) X hw rfl inX9 g_a0 rfl (by decide) (by decide) uf_X9_13 rfl dX9_count_95 eq20 ?_
        refine lv_sipush (v := (404 : Int32)) X.1.1 X.1.2.1 dX9_count_98 (by decide) ?_
        refine lv_iload_n X.1.1 X.1.2.1 dX9_count_101 rfl (lv_at hl 1 rfl) ?_
        refine lv_imul X.1.1 X.1.2.1 dX9_count_102 ?_
        obtain ⟨g_q20, hf⟩ := ogd hf
        obtain ⟨i_21, hf⟩ := ogd hf
        refine r_iald X hw g_q20 i_21 dX9_count_103 ?_
        refine lv_iconst (v := (5 : Int32)) X.1.1 X.1.2.1 dX9_count_104 (by decide) ?_
        refine lv_icmp_ne (tgt := 112) X.1.1 X.1.2.1 dX9_count_105 (by decide) (fun c_22 => ?_) (fun c_22 => ?_)
        · skip
          rw [if_pos c_22] at hf
          refine lv_iconst (v := (0 : Int32)) X.1.1 X.1.2.1 dX9_count_112 (by decide) ?_
          cases hf
          exact Jy25 _ _ _ hw (lv_sub hl [1, 2, 3] rfl)
        · skip
          rw [if_neg (fun z => z c_22)] at hf
          refine lv_iconst (v := (1 : Int32)) X.1.1 X.1.2.1 dX9_count_108 (by decide) ?_
          refine lv_goto (tgt := 113) X.1.1 X.1.2.1 dX9_count_109 (by decide) ?_
          cases hf
          exact Jy25 _ _ _ hw (lv_sub hl [1, 2, 3] rfl)
      · skip
        rw [if_neg (fun z => z c_19)] at hf
        refine lv_aload_n X.1.1 X.1.2.1 dX9_count_78 rfl (lv_at hl 2 rfl) ?_
        refine lv_iload_n X.1.1 X.1.2.1 dX9_count_79 rfl (lv_at hl 1 rfl) ?_
        obtain ⟨z23, ez23, hf⟩ := obd hf
        refine r_callVI (As := [.int v3]) (rest := [.int v2]) X hw (c_X9_isGauge ez23) (cwV 1 X.1.2.2.2.2 (guV um_X9_154 ui_X9_isGauge us_X9_isGauge un_X9 uo_X9_isGauge) rfl rfl rfl (by decide +kernel) ⟨Nat.le_of_ble_eq_true rfl, Nat.le_of_ble_eq_true rfl⟩) g_a0 (by decide) rfl rfl hl.1 rfl (Nat.le_of_ble_eq_true rfl) dX9_count_80 ⟨Nat.zero_le _, Nat.zero_le _⟩ (fun H locs hw => ?_)
        refine lv_if_eq (tgt := 90) X.1.1 X.1.2.1 dX9_count_83 (by decide) (fun c_24 => ?_) (fun c_24 => ?_)
        · skip
          rw [if_pos c_24] at hf
          refine lv_iconst (v := (0 : Int32)) X.1.1 X.1.2.1 dX9_count_90 (by decide) ?_
          refine lv_goto (tgt := 113) X.1.1 X.1.2.1 dX9_count_91 (by decide) ?_
          cases hf
          exact Jy25 _ _ _ hw (lv_sub hl [1, 2, 3] rfl)
        · skip
          rw [if_neg c_24] at hf
          refine lv_iconst (v := (1 : Int32)) X.1.1 X.1.2.1 dX9_count_86 (by decide) ?_
          refine lv_goto (tgt := 113) X.1.1 X.1.2.1 dX9_count_87 (by decide) ?_
          cases hf
          exact Jy25 _ _ _ hw (lv_sub hl [1, 2, 3] rfl)
def f_X9_count (h : Hs) (a0 : Nat) (p1 : Int32) (M : Mm) : Option (Int32 × Mm) :=
  gd (ok h a0 9) <|
  lt_ (sI M a0 0 (0 : Int32)) fun M1 =>
  if ¬ p1 = 0 then
    if ¬ p1 = (3 : Int32) then
      if ¬ p1 = (4 : Int32) then
        if p1 = (1 : Int32) then
          (lp_X9_count_66 h p1 a0 M1 fuel (0 : Int32) (0 : Int32)).bind fun z16 =>
          some (z16.1, M1)
        else
          if p1 = (2 : Int32) then
            (lp_X9_count_66b h p1 a0 M1 fuel (0 : Int32) (0 : Int32)).bind fun z28 =>
            some (z28.1, M1)
          else
            some ((-1 : Int32), M1)
      else
        if (zI M1 a0 5) = 0 then
          some ((0 : Int32), M1)
        else
          some ((1 : Int32), M1)
    else
      if (zI M1 a0 4) = 0 then
        some ((0 : Int32), M1)
      else
        some ((1 : Int32), M1)
  else
    some (zI M1 a0 7, M1)
set_option maxHeartbeats 4000000 in
set_option maxRecDepth 100000 in
theorem c_X9_count {l : Launch} {D : va_G} {cy : Nat → ClassId} {h : Hs} {a0 : Nat} {p1 : Int32} {M : Mm} {z : (Int32 × Mm)} (hf : f_X9_count h a0 p1 M = some z) : CtI l D cy yX9_count (wu yX9_count cX9_count 4 (some .int)) ({ frames := 3, cells := 0, slots := 0, locals := 62 }) [.ref a0, .int p1] h M z.1 z.2 := by
  refine enterI (cc := cX9_count) (maxL := 4) (ret := (some .int)) (by decide) (Nat.le_of_ble_eq_true rfl) ?_
  intro p e s m args below meth c A ls X hw hr hlk hl
  have hl : lv_has ls 4 [(0, .ref a0), (1, .int p1)] := hl
  unfold f_X9_count at hf
  refine lv_aload_n X.1.1 X.1.2.1 dX9_count_0 rfl (lv_at hl 0 rfl) ?_
  refine lv_iconst (v := (0 : Int32)) X.1.1 X.1.2.1 dX9_count_1 (by decide) ?_
  obtain ⟨g_a0, hf⟩ := ogd hf
  refine r_puti (k := 9) (j := 0) X hw rfl inX9 tyX9_ok nmX9 g_a0 rfl (by decide) (by decide) uf_X9_1 rfl rfl rfl rfl dX9_count_2 (fun H locs hw => ?_)
  obtain ⟨M1, eM1, hf⟩ := olt hf
  rw [← eM1] at hw
  refine lv_iload_n X.1.1 X.1.2.1 dX9_count_5 rfl (lv_at hl 1 rfl) ?_
  refine lv_if_ne (tgt := 14) X.1.1 X.1.2.1 dX9_count_6 (by decide) (fun c_2 => ?_) (fun c_2 => ?_)
  · skip
    rw [if_pos c_2] at hf
    refine lv_iload_n X.1.1 X.1.2.1 dX9_count_14 rfl (lv_at hl 1 rfl) ?_
    refine lv_iconst (v := (3 : Int32)) X.1.1 X.1.2.1 dX9_count_15 (by decide) ?_
    refine lv_icmp_ne (tgt := 32) X.1.1 X.1.2.1 dX9_count_16 (by decide) (fun c_3 => ?_) (fun c_3 => ?_)
    · skip
      rw [if_pos c_3] at hf
      refine lv_iload_n X.1.1 X.1.2.1 dX9_count_32 rfl (lv_at hl 1 rfl) ?_
      refine lv_iconst (v := (4 : Int32)) X.1.1 X.1.2.1 dX9_count_33 (by decide) ?_
      refine lv_icmp_ne (tgt := 50) X.1.1 X.1.2.1 dX9_count_34 (by decide) (fun c_4 => ?_) (fun c_4 => ?_)
      · skip
        rw [if_pos c_4] at hf
        refine lv_iload_n X.1.1 X.1.2.1 dX9_count_50 rfl (lv_at hl 1 rfl) ?_
        refine lv_iconst (v := (1 : Int32)) X.1.1 X.1.2.1 dX9_count_51 (by decide) ?_
        refine lv_icmp_eq (tgt := 62) X.1.1 X.1.2.1 dX9_count_52 (by decide) (fun c_5 => ?_) (fun c_5 => ?_)
        · skip
          rw [if_pos c_5] at hf
          refine lv_iconst (v := (0 : Int32)) X.1.1 X.1.2.1 dX9_count_62 (by decide) ?_
          refine lv_istore_n (lv' := [(2, .int (0 : Int32)), (0, .ref a0), (1, .int p1)]) X.1.1 X.1.2.1 dX9_count_63 rfl hl (by decide) rfl (fun ls hl => ?_)
          refine lv_iconst (v := (0 : Int32)) X.1.1 X.1.2.1 dX9_count_64 (by decide) ?_
          refine lv_istore_n (lv' := [(3, .int (0 : Int32)), (2, .int (0 : Int32)), (0, .ref a0), (1, .int p1)]) X.1.1 X.1.2.1 dX9_count_65 rfl hl (by decide) rfl (fun ls hl => ?_)
          obtain ⟨z16, ez16, hf⟩ := obd hf
          refine wlp_X9_count_66 X g_a0 fuel _ _ _ _ _ _ ez16 hw (lv_sub hl [1, 0, 2, 3] rfl) (fun x ex H locs ls hw hl => ?_)
          subst ex
          refine lv_iload_n X.1.1 X.1.2.1 dX9_count_121 rfl (lv_at hl 0 rfl) ?_
          cases hf
          exact r_retI (v := z16.1) X hw hr hlk rfl dX9_count_122
        · skip
          rw [if_neg c_5] at hf
          refine lv_iload_n X.1.1 X.1.2.1 dX9_count_55 rfl (lv_at hl 1 rfl) ?_
          refine lv_iconst (v := (2 : Int32)) X.1.1 X.1.2.1 dX9_count_56 (by decide) ?_
          refine lv_icmp_eq (tgt := 62) X.1.1 X.1.2.1 dX9_count_57 (by decide) (fun c_17 => ?_) (fun c_17 => ?_)
          · skip
            rw [if_pos c_17] at hf
            refine lv_iconst (v := (0 : Int32)) X.1.1 X.1.2.1 dX9_count_62 (by decide) ?_
            refine lv_istore_n (lv' := [(2, .int (0 : Int32)), (0, .ref a0), (1, .int p1)]) X.1.1 X.1.2.1 dX9_count_63 rfl hl (by decide) rfl (fun ls hl => ?_)
            refine lv_iconst (v := (0 : Int32)) X.1.1 X.1.2.1 dX9_count_64 (by decide) ?_
            refine lv_istore_n (lv' := [(3, .int (0 : Int32)), (2, .int (0 : Int32)), (0, .ref a0), (1, .int p1)]) X.1.1 X.1.2.1 dX9_count_65 rfl hl (by decide) rfl (fun ls hl => ?_)
            obtain ⟨z28, ez28, hf⟩ := obd hf
            refine wlp_X9_count_66b X g_a0 fuel _ _ _ _ _ _ ez28 hw (lv_sub hl [1, 0, 2, 3] rfl) (fun x ex H locs ls hw hl => ?_)
            subst ex
            refine lv_iload_n X.1.1 X.1.2.1 dX9_count_121 rfl (lv_at hl 0 rfl) ?_
            cases hf
            exact r_retI (v := z28.1) X hw hr hlk rfl dX9_count_122
          · skip
            rw [if_neg c_17] at hf
            refine lv_iconst (v := (-1 : Int32)) X.1.1 X.1.2.1 dX9_count_60 (by decide) ?_
            cases hf
            exact r_retI (v := (-1 : Int32)) X hw hr hlk rfl dX9_count_61
      · skip
        rw [if_neg (fun z => z c_4)] at hf
        refine lv_aload_n X.1.1 X.1.2.1 dX9_count_37 rfl (lv_at hl 0 rfl) ?_
        refine r_geti (k := 9) (j := 5) X hw rfl inX9 g_a0 rfl (by decide) (by decide) uf_X9_225 rfl dX9_count_38 ?_
        refine lv_if_eq (tgt := 48) X.1.1 X.1.2.1 dX9_count_41 (by decide) (fun c_29 => ?_) (fun c_29 => ?_)
        · skip
          rw [if_pos c_29] at hf
          refine lv_iconst (v := (0 : Int32)) X.1.1 X.1.2.1 dX9_count_48 (by decide) ?_
          cases hf
          exact r_retI (v := (0 : Int32)) X hw hr hlk rfl dX9_count_49
        · skip
          rw [if_neg c_29] at hf
          refine lv_iconst (v := (1 : Int32)) X.1.1 X.1.2.1 dX9_count_44 (by decide) ?_
          refine lv_goto (tgt := 49) X.1.1 X.1.2.1 dX9_count_45 (by decide) ?_
          cases hf
          exact r_retI (v := (1 : Int32)) X hw hr hlk rfl dX9_count_49
    · skip
      rw [if_neg (fun z => z c_3)] at hf
      refine lv_aload_n X.1.1 X.1.2.1 dX9_count_19 rfl (lv_at hl 0 rfl) ?_
      refine r_geti (k := 9) (j := 4) X hw rfl inX9 g_a0 rfl (by decide) (by decide) uf_X9_60 rfl dX9_count_20 ?_
      refine lv_if_eq (tgt := 30) X.1.1 X.1.2.1 dX9_count_23 (by decide) (fun c_30 => ?_) (fun c_30 => ?_)
      · skip
        rw [if_pos c_30] at hf
        refine lv_iconst (v := (0 : Int32)) X.1.1 X.1.2.1 dX9_count_30 (by decide) ?_
        cases hf
        exact r_retI (v := (0 : Int32)) X hw hr hlk rfl dX9_count_31
      · skip
        rw [if_neg c_30] at hf
        refine lv_iconst (v := (1 : Int32)) X.1.1 X.1.2.1 dX9_count_26 (by decide) ?_
        refine lv_goto (tgt := 31) X.1.1 X.1.2.1 dX9_count_27 (by decide) ?_
        cases hf
        exact r_retI (v := (1 : Int32)) X hw hr hlk rfl dX9_count_31
  · skip
    rw [if_neg (fun z => z c_2)] at hf
    refine lv_aload_n X.1.1 X.1.2.1 dX9_count_9 rfl (lv_at hl 0 rfl) ?_
    refine r_geti (k := 9) (j := 7) X hw rfl inX9 g_a0 rfl (by decide) (by decide) uf_X9_64 rfl dX9_count_10 ?_
    cases hf
    exact r_retI (v := zI M1 a0 7) X hw hr hlk rfl dX9_count_13
