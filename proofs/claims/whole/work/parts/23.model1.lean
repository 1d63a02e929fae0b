/-! X9_at -/
def f_X9_at (h : Hs) (a0 : Nat) (p1 : Int32) (p2 : Int32) (M : Mm) : Option Int32 :=
  gd (ok h a0 9) <|
  (f_X9_kindOf h a0 p1 M).bind fun z1 =>
  if z1 = (4 : Int32) then
    dq (zR h a0 1) fun q3 =>
    gd (ok h q3 11) <|
    gd (inb (((404 : Int32) * p1) + (1 : Int32)) (zN h q3)) <|
    gd (inb ((((404 : Int32) * (zI M q3 (((404 : Int32) * p1) + (1 : Int32)).toNatClampNeg)) + (4 : Int32)) + p2) (zN h q3)) <|
    lt_ (zI M q3 ((((404 : Int32) * (zI M q3 (((404 : Int32) * p1) + (1 : Int32)).toNatClampNeg)) + (4 : Int32)) + p2).toNatClampNeg) fun x6 =>
    gd (inb (((404 : Int32) * p1) + (2 : Int32)) (zN h q3)) <|
    gd (inb ((((404 : Int32) * (zI M q3 (((404 : Int32) * p1) + (2 : Int32)).toNatClampNeg)) + (4 : Int32)) + p2) (zN h q3)) <|
    lt_ (zI M q3 ((((404 : Int32) * (zI M q3 (((404 : Int32) * p1) + (2 : Int32)).toNatClampNeg)) + (4 : Int32)) + p2).toNatClampNeg) fun x9 =>
    if (2000000 : Int32) ≤ x6 then
      if x6 = (2000000 : Int32) then
        some (2000000 : Int32)
      else
        if ¬ x9 = (2000000 : Int32) then
          some (3000000 : Int32)
        else
          some (2000000 : Int32)
    else
      if (2000000 : Int32) ≤ x9 then
        if x6 = (2000000 : Int32) then
          some (2000000 : Int32)
        else
          if ¬ x9 = (2000000 : Int32) then
            some (3000000 : Int32)
          else
            some (2000000 : Int32)
      else
        if (1000000 : Int32) < (x6 + x9) then
          some (2000000 : Int32)
        else
          if (-1000000 : Int32) ≤ (x6 + x9) then
            some (x6 + x9)
          else
            some (2000000 : Int32)
  else
    dq (zR h a0 1) fun q18 =>
    gd (ok h q18 11) <|
    gd (inb ((((404 : Int32) * p1) + (4 : Int32)) + p2) (zN h q18)) <|
    some (zI M q18 ((((404 : Int32) * p1) + (4 : Int32)) + p2).toNatClampNeg)
set_option maxHeartbeats 4000000 in
set_option maxRecDepth 100000 in
theorem c_X9_at {l : Launch} {D : va_G} {cy : Nat → ClassId} {h : Hs} {a0 : Nat} {p1 : Int32} {p2 : Int32} {M : Mm} {z : Int32} (hf : f_X9_at h a0 p1 p2 M = some z) : CtI l D cy yX9_at (wu yX9_at cX9_at 5 (some .int)) ({ frames := 2, cells := 0, slots := 0, locals := 41 }) [.ref a0, .int p1, .int p2] h M z M := by
  refine enterI (cc := cX9_at) (maxL := 5) (ret := (some .int)) (by decide) (Nat.le_of_ble_eq_true rfl) ?_
  intro p e s m args below meth c A ls X hw hr hlk hl
  have hl : lv_has ls 5 [(0, .ref a0), (1, .int p1), (2, .int p2)] := hl
  unfold f_X9_at at hf
  refine lv_aload_n X.1.1 X.1.2.1 dX9_at_0 rfl (lv_at hl 0 rfl) ?_
  refine lv_iload_n X.1.1 X.1.2.1 dX9_at_1 rfl (lv_at hl 1 rfl) ?_
  obtain ⟨g_a0, hf⟩ := ogd hf
  obtain ⟨z1, ez1, hf⟩ := obd hf
  refine r_callVI (As := [.int p1]) (rest := []) X hw (c_X9_kindOf ez1) (cwV 1 X.1.2.2.2.2 (guV um_X9_79 ui_X9_kindOf us_X9_kindOf un_X9 uo_X9_kindOf) rfl rfl rfl (by decide +kernel) ⟨Nat.le_of_ble_eq_true rfl, Nat.le_of_ble_eq_true rfl⟩) g_a0 (by decide) rfl rfl hl.1 rfl (Nat.le_of_ble_eq_true rfl) dX9_at_2 ⟨Nat.zero_le _, Nat.zero_le _⟩ (fun H locs hw => ?_)
  refine lv_iconst (v := (4 : Int32)) X.1.1 X.1.2.1 dX9_at_5 (by decide) ?_
  refine lv_icmp_eq (tgt := 24) X.1.1 X.1.2.1 dX9_at_6 (by decide) (fun c_2 => ?_) (fun c_2 => ?_)
  · skip
    rw [if_pos c_2] at hf
    refine lv_aload_n X.1.1 X.1.2.1 dX9_at_24 rfl (lv_at hl 0 rfl) ?_
    obtain ⟨q3, eq3, hf⟩ := odq hf
    refine r_getq (k := 9) (j := 1) X hw rfl inX9 g_a0 rfl (by decide) (by decide) uf_X9_13 rfl dX9_at_25 eq3 ?_
    refine lv_sipush (v := (404 : Int32)) X.1.1 X.1.2.1 dX9_at_28 (by decide) ?_
    refine lv_aload_n X.1.1 X.1.2.1 dX9_at_31 rfl (lv_at hl 0 rfl) ?_
    refine r_getq (k := 9) (j := 1) X hw rfl inX9 g_a0 rfl (by decide) (by decide) uf_X9_13 rfl dX9_at_32 eq3 ?_
    refine lv_sipush (v := (404 : Int32)) X.1.1 X.1.2.1 dX9_at_35 (by decide) ?_
    refine lv_iload_n X.1.1 X.1.2.1 dX9_at_38 rfl (lv_at hl 1 rfl) ?_
    refine lv_imul X.1.1 X.1.2.1 dX9_at_39 ?_
    refine lv_iconst (v := (1 : Int32)) X.1.1 X.1.2.1 dX9_at_40 (by decide) ?_
    refine lv_iadd X.1.1 X.1.2.1 dX9_at_41 ?_
    obtain ⟨g_q3, hf⟩ := ogd hf
    obtain ⟨i_4, hf⟩ := ogd hf
    refine r_iald X hw g_q3 i_4 dX9_at_42 ?_
    refine lv_imul X.1.1 X.1.2.1 dX9_at_43 ?_
    refine lv_iconst (v := (4 : Int32)) X.1.1 X.1.2.1 dX9_at_44 (by decide) ?_
    refine lv_iadd X.1.1 X.1.2.1 dX9_at_45 ?_
    refine lv_iload_n X.1.1 X.1.2.1 dX9_at_46 rfl (lv_at hl 2 rfl) ?_
    refine lv_iadd X.1.1 X.1.2.1 dX9_at_47 ?_
    obtain ⟨i_5, hf⟩ := ogd hf
    refine r_iald X hw g_q3 i_5 dX9_at_48 ?_
    refine lv_topi (fun x6 ex6 => ?_)
    have hf := oltE ex6 hf
    refine lv_istore_n (lv' := [(3, .int x6), (0, .ref a0), (1, .int p1), (2, .int p2)]) X.1.1 X.1.2.1 dX9_at_49 rfl hl (by decide) rfl (fun ls hl => ?_)
    refine lv_aload_n X.1.1 X.1.2.1 dX9_at_50 rfl (lv_at hl 1 rfl) ?_
    refine r_getq (k := 9) (j := 1) X hw rfl inX9 g_a0 rfl (by decide) (by decide) uf_X9_13 rfl dX9_at_51 eq3 ?_
    refine lv_sipush (v := (404 : Int32)) X.1.1 X.1.2.1 dX9_at_54 (by decide) ?_
    refine lv_aload_n X.1.1 X.1.2.1 dX9_at_57 rfl (lv_at hl 1 rfl) ?_
    refine r_getq (k := 9) (j := 1) X hw rfl inX9 g_a0 rfl (by decide) (by decide) uf_X9_13 rfl dX9_at_58 eq3 ?_
    refine lv_sipush (v := (404 : Int32)) X.1.1 X.1.2.1 dX9_at_61 (by decide) ?_
    refine lv_iload_n X.1.1 X.1.2.1 dX9_at_64 rfl (lv_at hl 2 rfl) ?_
    refine lv_imul X.1.1 X.1.2.1 dX9_at_65 ?_
    refine lv_iconst (v := (2 : Int32)) X.1.1 X.1.2.1 dX9_at_66 (by decide) ?_
    refine lv_iadd X.1.1 X.1.2.1 dX9_at_67 ?_
    obtain ⟨i_7, hf⟩ := ogd hf
    refine r_iald X hw g_q3 i_7 dX9_at_68 ?_
    refine lv_imul X.1.1 X.1.2.1 dX9_at_69 ?_
    refine lv_iconst (v := (4 : Int32)) X.1.1 X.1.2.1 dX9_at_70 (by decide) ?_
    refine lv_iadd X.1.1 X.1.2.1 dX9_at_71 ?_
    refine lv_iload_n X.1.1 X.1.2.1 dX9_at_72 rfl (lv_at hl 3 rfl) ?_
    refine lv_iadd X.1.1 X.1.2.1 dX9_at_73 ?_
    obtain ⟨i_8, hf⟩ := ogd hf
    refine r_iald X hw g_q3 i_8 dX9_at_74 ?_
    refine lv_topi (fun x9 ex9 => ?_)
    have hf := oltE ex9 hf
    refine lv_istore (lv' := [(4, .int x9), (3, .int x6), (0, .ref a0), (1, .int p1), (2, .int p2)]) X.1.1 X.1.2.1 dX9_at_75 hl (by decide) rfl (fun ls hl => ?_)
    refine lv_iload_n X.1.1 X.1.2.1 dX9_at_77 rfl (lv_at hl 1 rfl) ?_
    refine lv_ldc (v := (2000000 : Int32)) X.1.1 X.1.2.1 X.1.2.2.2.1 (X.1.2.2.2.2 _ uc_X9_86) dX9_at_78 ?_
    refine lv_icmp_ge (tgt := 118) X.1.1 X.1.2.1 dX9_at_80 (by decide) (fun c_10 => ?_) (fun c_10 => ?_)
    · skip
      rw [if_pos c_10] at hf
      refine lv_iload_n X.1.1 X.1.2.1 dX9_at_118 rfl (lv_at hl 1 rfl) ?_
      refine lv_ldc (v := (2000000 : Int32)) X.1.1 X.1.2.1 X.1.2.2.2.1 (X.1.2.2.2.2 _ uc_X9_86) dX9_at_119 ?_
      refine lv_icmp_eq (tgt := 131) X.1.1 X.1.2.1 dX9_at_121 (by decide) (fun c_11 => ?_) (fun c_11 => ?_)
      · skip
        rw [if_pos c_11] at hf
        refine lv_ldc (v := (2000000 : Int32)) X.1.1 X.1.2.1 X.1.2.2.2.1 (X.1.2.2.2.2 _ uc_X9_86) dX9_at_131 ?_
        refine lv_goto (tgt := 138) X.1.1 X.1.2.1 dX9_at_133 (by decide) ?_
        cases hf
        exact r_retI X hw hr hlk rfl dX9_at_138
      · skip
        rw [if_neg c_11] at hf
        refine lv_iload X.1.1 X.1.2.1 dX9_at_124 (lv_at hl 0 rfl) ?_
        refine lv_ldc (v := (2000000 : Int32)) X.1.1 X.1.2.1 X.1.2.2.2.1 (X.1.2.2.2.2 _ uc_X9_86) dX9_at_126 ?_
        refine lv_icmp_ne (tgt := 136) X.1.1 X.1.2.1 dX9_at_128 (by decide) (fun c_12 => ?_) (fun c_12 => ?_)
        · skip
          rw [if_pos c_12] at hf
          refine lv_ldc (v := (3000000 : Int32)) X.1.1 X.1.2.1 X.1.2.2.2.1 (X.1.2.2.2.2 _ uc_X9_89) dX9_at_136 ?_
          cases hf
          exact r_retI X hw hr hlk rfl dX9_at_138
        · skip
          rw [if_neg (fun z => z c_12)] at hf
          refine lv_ldc (v := (2000000 : Int32)) X.1.1 X.1.2.1 X.1.2.2.2.1 (X.1.2.2.2.2 _ uc_X9_86) dX9_at_131 ?_
          refine lv_goto (tgt := 138) X.1.1 X.1.2.1 dX9_at_133 (by decide) ?_
          cases hf
          exact r_retI X hw hr hlk rfl dX9_at_138
    · skip
      rw [if_neg c_10] at hf
      refine lv_iload X.1.1 X.1.2.1 dX9_at_83 (lv_at hl 0 rfl) ?_
      refine lv_ldc (v := (2000000 : Int32)) X.1.1 X.1.2.1 X.1.2.2.2.1 (X.1.2.2.2.2 _ uc_X9_86) dX9_at_85 ?_
      refine lv_icmp_ge (tgt := 118) X.1.1 X.1.2.1 dX9_at_87 (by decide) (fun c_13 => ?_) (fun c_13 => ?_)
      · skip
        rw [if_pos c_13] at hf
        refine lv_iload_n X.1.1 X.1.2.1 dX9_at_118 rfl (lv_at hl 1 rfl) ?_
        refine lv_ldc (v := (2000000 : Int32)) X.1.1 X.1.2.1 X.1.2.2.2.1 (X.1.2.2.2.2 _ uc_X9_86) dX9_at_119 ?_
        refine lv_icmp_eq (tgt := 131) X.1.1 X.1.2.1 dX9_at_121 (by decide) (fun c_14 => ?_) (fun c_14 => ?_)
        · skip
          rw [if_pos c_14] at hf
          refine lv_ldc (v := (2000000 : Int32)) X.1.1 X.1.2.1 X.1.2.2.2.1 (X.1.2.2.2.2 _ uc_X9_86) dX9_at_131 ?_
          refine lv_goto (tgt := 138) X.1.1 X.1.2.1 dX9_at_133 (by decide) ?_
          cases hf
          exact r_retI X hw hr hlk rfl dX9_at_138
        · skip
          rw [if_neg c_14] at hf
          refine lv_iload X.1.1 X.1.2.1 dX9_at_124 (lv_at hl 0 rfl) ?_
          refine lv_ldc (v := (2000000 : Int32)) X.1.1 X.1.2.1 X.1.2.2.2.1 (X.1.2.2.2.2 _ uc_X9_86) dX9_at_126 ?_
          refine lv_icmp_ne (tgt := 136) X.1.1 X.1.2.1 dX9_at_128 (by decide) (fun c_15 => ?_) (fun c_15 => ?_)
          · skip
            rw [if_pos c_15] at hf
            refine lv_ldc (v := (3000000 : Int32)) X.1.1 X.1.2.1 X.1.2.2.2.1 (X.1.2.2.2.2 _ uc_X9_89) dX9_at_136 ?_
            cases hf
            exact r_retI X hw hr hlk rfl dX9_at_138
          · skip
            rw [if_neg (fun z => z c_15)] at hf
            refine lv_ldc (v := (2000000 : Int32)) X.1.1 X.1.2.1 X.1.2.2.2.1 (X.1.2.2.2.2 _ uc_X9_86) dX9_at_131 ?_
            refine lv_goto (tgt := 138) X.1.1 X.1.2.1 dX9_at_133 (by decide) ?_
            cases hf
            exact r_retI X hw hr hlk rfl dX9_at_138
      · skip
        rw [if_neg c_13] at hf
        refine lv_iload_n X.1.1 X.1.2.1 dX9_at_90 rfl (lv_at hl 1 rfl) ?_
        refine lv_iload X.1.1 X.1.2.1 dX9_at_91 (lv_at hl 0 rfl) ?_
        refine lv_iadd X.1.1 X.1.2.1 dX9_at_93 ?_
        refine lv_ldc (v := (1000000 : Int32)) X.1.1 X.1.2.1 X.1.2.2.2.1 (X.1.2.2.2.2 _ uc_X9_87) dX9_at_94 ?_
        refine lv_icmp_gt (tgt := 108) X.1.1 X.1.2.1 dX9_at_96 (by decide) (fun c_16 => ?_) (fun c_16 => ?_)
        · skip
          rw [if_pos c_16] at hf
          refine lv_ldc (v := (2000000 : Int32)) X.1.1 X.1.2.1 X.1.2.2.2.1 (X.1.2.2.2.2 _ uc_X9_86) dX9_at_108 ?_
          refine lv_goto (tgt := 117) X.1.1 X.1.2.1 dX9_at_110 (by decide) ?_
          cases hf
          exact r_retI X hw hr hlk rfl dX9_at_117
        · skip
          rw [if_neg c_16] at hf
          refine lv_iload_n X.1.1 X.1.2.1 dX9_at_99 rfl (lv_at hl 1 rfl) ?_
          refine lv_iload X.1.1 X.1.2.1 dX9_at_100 (lv_at hl 0 rfl) ?_
          refine lv_iadd X.1.1 X.1.2.1 dX9_at_102 ?_
          refine lv_ldc (v := (-1000000 : Int32)) X.1.1 X.1.2.1 X.1.2.2.2.1 (X.1.2.2.2.2 _ uc_X9_88) dX9_at_103 ?_
          refine lv_icmp_ge (tgt := 113) X.1.1 X.1.2.1 dX9_at_105 (by decide) (fun c_17 => ?_) (fun c_17 => ?_)
          · skip
            rw [if_pos c_17] at hf
            refine lv_iload_n X.1.1 X.1.2.1 dX9_at_113 rfl (lv_at hl 1 rfl) ?_
            refine lv_iload X.1.1 X.1.2.1 dX9_at_114 (lv_at hl 0 rfl) ?_
            refine lv_iadd X.1.1 X.1.2.1 dX9_at_116 ?_
            cases hf
            exact r_retI X hw hr hlk rfl dX9_at_117
          · skip
            rw [if_neg c_17] at hf
            refine lv_ldc (v := (2000000 : Int32)) X.1.1 X.1.2.1 X.1.2.2.2.1 (X.1.2.2.2.2 _ uc_X9_86) dX9_at_108 ?_
            refine lv_goto (tgt := 117) X.1.1 X.1.2.1 dX9_at_110 (by decide) ?_
            cases hf
            exact r_retI X hw hr hlk rfl dX9_at_117
  · skip
    rw [if_neg c_2] at hf
    refine lv_aload_n X.1.1 X.1.2.1 dX9_at_9 rfl (lv_at hl 0 rfl) ?_
    obtain ⟨q18, eq18, hf⟩ := odq hf
    refine r_getq (k := 9) (j := 1) X hw rfl inX9 g_a0 rfl (by decide) (by decide) uf_X9_13 rfl dX9_at_10 eq18 ?_
    refine lv_sipush (v := (404 : Int32)) X.1.1 X.1.2.1 dX9_at_13 (by decide) ?_
    refine lv_iload_n X.1.1 X.1.2.1 dX9_at_16 rfl (lv_at hl 1 rfl) ?_
    refine lv_imul X.1.1 X.1.2.1 dX9_at_17 ?_
    refine lv_iconst (v := (4 : Int32)) X.1.1 X.1.2.1 dX9_at_18 (by decide) ?_
    refine lv_iadd X.1.1 X.1.2.1 dX9_at_19 ?_
    refine lv_iload_n X.1.1 X.1.2.1 dX9_at_20 rfl (lv_at hl 2 rfl) ?_
    refine lv_iadd X.1.1 X.1.2.1 dX9_at_21 ?_
    obtain ⟨g_q18, hf⟩ := ogd hf
    obtain ⟨i_19, hf⟩ := ogd hf
    refine r_iald X hw g_q18 i_19 dX9_at_22 ?_
    cases hf
    exact r_retI X hw hr hlk rfl dX9_at_23
/-! X9_bits -/
def lp_X9_bits_5 (h : Hs) (w1 : Int32) (w2 : Int32) (a0 : Nat) (M : Mm) : Nat → Int64 → Int32 → Option (Int64 × Int32)
  | 0, _, _ => none
  | n + 1, v3, v5 =>
    if w2 ≤ v5 then
      some (v3, v5)
    else
      gd (ok h a0 9) <|
      dq (zR h a0 6) fun q2 =>
      gd (ok h q2 10) <|
      gd (inb (w1 + v5) (zN h q2)) <|
      lt_ ((v3 <<< ((8 : Int32).toInt64 &&& 63)) ||| (((zI M q2 (w1 + v5).toNatClampNeg) &&& (255 : Int32)).toInt64)) fun x4 =>
      lt_ (v5 + (1 : Int32)) fun x5 =>
      lp_X9_bits_5 h w1 w2 a0 M n x4 x5
set_option maxHeartbeats 4000000 in
set_option maxRecDepth 100000 in
theorem wlp_X9_bits_5 {l : Launch} {D : va_G} {cy : Nat → ClassId} {h : Hs} {w1 : Int32} {w2 : Int32} {a0 : Nat} {M : Mm} {p : Program} {e : Env} {s : State} {m : MethodId} {args : Array Value} {below : List Frame} {meth : Method} {c : Code} {A : Nat → Prop} (X : Cx p s m args c cX9_bits 6 gtbl RX9 D cy A) {Q : State → Prop} : ∀ (n : Nat) (v3 : Int64) (v5 : Int32) (z : (Int64 × Int32)) (H : Heap) (locs : List Loc) (ls : Array Slot), lp_X9_bits_5 h w1 w2 a0 M n v3 v5 = some z → Wd D cy A s.heap h M H locs → lv_has ls 6 [(3, .long v3), (5, .int v5), (0, .ref a0), (1, .int w1), (2, .int w2)] → (∀ x : (Int64 × Int32), z = x → ∀ (H : Heap) (locs : List Loc) (ls : Array Slot), Wd D cy A s.heap h M H locs → lv_has ls 6 [(3, .long x.1), (5, .int x.2), (0, .ref a0), (1, .int w1), (2, .int w2)] → W p l e ({ frames := 0, cells := 0, slots := 0, locals := 0 } : Room) s m args below meth c H locs 0 0 Q (F0 m 37 ls [])) → W p l e ({ frames := 0, cells := 0, slots := 0, locals := 0 } : Room) s m args below meth c H locs 0 0 Q (F0 m 5 ls []) := by
  intro n
  induction n with
  | zero => intro v3 v5 z H locs ls hf hw hl kx; exact absurd hf (by intro q; cases q)
  | succ n ih =>
    intro v3 v5 z H locs ls hf hw hl kx
    unfold lp_X9_bits_5 at hf
    refine lv_iload X.1.1 X.1.2.1 dX9_bits_5 (lv_at hl 1 rfl) ?_
    refine lv_iload_n X.1.1 X.1.2.1 dX9_bits_7 rfl (lv_at hl 4 rfl) ?_
    refine lv_icmp_ge (tgt := 37) X.1.1 X.1.2.1 dX9_bits_8 (by decide) (fun c_1 => ?_) (fun c_1 => ?_)
    · skip
      rw [if_pos c_1] at hf
      cases hf
      exact kx _ rfl _ _ _ hw (lv_sub hl [0, 1, 2, 3, 4] rfl)
    · skip
      rw [if_neg c_1] at hf
      refine lv_lload_n X.1.1 X.1.2.1 dX9_bits_11 rfl (lv_at hl 0 rfl) ?_
      refine lv_bipush (v := (8 : Int32)) X.1.1 X.1.2.1 dX9_bits_12 (by decide) ?_
      refine lv_lshl X.1.1 X.1.2.1 dX9_bits_14 rfl ?_
      refine lv_aload_n X.1.1 X.1.2.1 dX9_bits_15 rfl (lv_at hl 2 rfl) ?_
      obtain ⟨g_a0, hf⟩ := ogd hf
      obtain ⟨q2, eq2, hf⟩ := odq hf
      refine r_getq (k := 9) (j := 6) X hw rfl inX9 g_a0 rfl (by decide) (by decide) uf_X9_23 rfl dX9_bits_16 eq2 ?_
      refine lv_iload_n X.1.1 X.1.2.1 dX9_bits_19 rfl (lv_at hl 3 rfl) ?_
      refine lv_iload X.1.1 X.1.2.1 dX9_bits_20 (lv_at hl 1 rfl) ?_
      refine lv_iadd X.1.1 X.1.2.1 dX9_bits_22 ?_
      obtain ⟨g_q2, hf⟩ := ogd hf
      obtain ⟨i_3, hf⟩ := ogd hf
      refine r_bald X hw g_q2 i_3 dX9_bits_23 ?_
      refine lv_sipush (v := (255 : Int32)) X.1.1 X.1.2.1 dX9_bits_24 (by decide) ?_
      refine lv_iand X.1.1 X.1.2.1 dX9_bits_27 ?_
      refine lv_i2l X.1.1 X.1.2.1 dX9_bits_28 rfl ?_
      refine lv_lor X.1.1 X.1.2.1 dX9_bits_29 ?_
      refine lv_topl (fun x4 ex4 => ?_)
      have hf := oltE ex4 hf
      refine lv_lstore_n (lv' := [(3, .long x4), (5, .int v5), (0, .ref a0), (1, .int w1), (2, .int w2)]) X.1.1 X.1.2.1 dX9_bits_30 rfl hl (by decide) rfl (fun ls hl => ?_)
      obtain ⟨x5, ex5, hf⟩ := olt hf
      refine lv_iinc (v := x5) (lv' := [(5, .int x5), (3, .long x4), (0, .ref a0), (1, .int w1), (2, .int w2)]) X.1.1 X.1.2.1 dX9_bits_31 hl (k := 1) rfl (by rw [ex5]; rfl) (by decide) rfl (fun ls hl => ?_)
      refine lv_goto (tgt := 5) X.1.1 X.1.2.1 dX9_bits_34 (by decide) ?_
      exact ih _ _ _ _ _ _ hf hw (lv_sub hl [1, 0, 2, 3, 4] rfl) kx
def f_X9_bits (h : Hs) (a0 : Nat) (p1 : Int32) (p2 : Int32) (M : Mm) : Option Int64 :=
  (lp_X9_bits_5 h p1 p2 a0 M fuel (0 : Int64) (0 : Int32)).bind fun z6 =>
  some z6.1
set_option maxHeartbeats 4000000 in
set_option maxRecDepth 100000 in
theorem c_X9_bits {l : Launch} {D : va_G} {cy : Nat → ClassId} {h : Hs} {a0 : Nat} {p1 : Int32} {p2 : Int32} {M : Mm} {z : Int64} (hf : f_X9_bits h a0 p1 p2 M = some z) : CtL l D cy yX9_bits (wu yX9_bits cX9_bits 6 (some .long)) ({ frames := 0, cells := 0, slots := 0, locals := 0 }) [.ref a0, .int p1, .int p2] h M z M := by
  refine enterL (cc := cX9_bits) (maxL := 6) (ret := (some .long)) (by decide) (Nat.le_of_ble_eq_true rfl) ?_
  intro p e s m args below meth c A ls X hw hr hlk hl
  have hl : lv_has ls 6 [(0, .ref a0), (1, .int p1), (2, .int p2)] := hl
  unfold f_X9_bits at hf
  refine lv_lconst (v := (0 : Int64)) X.1.1 X.1.2.1 dX9_bits_0 (by decide) ?_
  refine lv_lstore_n (lv' := [(3, .long (0 : Int64)), (0, .ref a0), (1, .int p1), (2, .int p2)]) X.1.1 X.1.2.1 dX9_bits_1 rfl hl (by decide) rfl (fun ls hl => ?_)
  refine lv_iconst (v := (0 : Int32)) X.1.1 X.1.2.1 dX9_bits_2 (by decide) ?_
  refine lv_istore (lv' := [(5, .int (0 : Int32)), (3, .long (0 : Int64)), (0, .ref a0), (1, .int p1), (2, .int p2)]) X.1.1 X.1.2.1 dX9_bits_3 hl (by decide) rfl (fun ls hl => ?_)
  obtain ⟨z6, ez6, hf⟩ := obd hf
  refine wlp_X9_bits_5 X fuel _ _ _ _ _ _ ez6 hw (lv_sub hl [1, 0, 2, 3, 4] rfl) (fun x ex H locs ls hw hl => ?_)
  subst ex
  refine lv_lload_n X.1.1 X.1.2.1 dX9_bits_37 rfl (lv_at hl 0 rfl) ?_
  cases hf
  exact r_retL X hw hr hlk dX9_bits_38
/-! X9_reading -/
def f_X9_reading (h : Hs) (p1 : Int64) (M : Mm) : Option Int32 :=
  if (1000000 : Int64) < p1 then
    some (2000000 : Int32)
  else
    if (-1000000 : Int64) ≤ p1 then
      some p1.toInt32
    else
      some (2000000 : Int32)
set_option maxHeartbeats 4000000 in
set_option maxRecDepth 100000 in
theorem c_X9_reading {l : Launch} {D : va_G} {cy : Nat → ClassId} {h : Hs} {p1 : Int64} {M : Mm} {z : Int32} (hf : f_X9_reading h p1 M = some z) : CtI l D cy yX9_reading (wu yX9_reading cX9_reading 2 (some .int)) ({ frames := 0, cells := 0, slots := 0, locals := 0 }) [.long p1] h M z M := by
  refine enterI (cc := cX9_reading) (maxL := 2) (ret := (some .int)) (by decide) (Nat.le_of_ble_eq_true rfl) ?_
  intro p e s m args below meth c A ls X hw hr hlk hl
  have hl : lv_has ls 2 [(0, .long p1)] := hl
  unfold f_X9_reading at hf
  refine lv_lload_n X.1.1 X.1.2.1 dX9_reading_0 rfl (lv_at hl 0 rfl) ?_
  refine lv_ldc2 (v := (1000000 : Int64)) X.1.1 X.1.2.1 X.1.2.2.2.1 (X.1.2.2.2.2 _ uk_X9_90) dX9_reading_1 ?_
  refine W.lcmp X.1.1 X.1.2.1 dX9_reading_4 ?_
  refine lv_if_gt (tgt := 16) X.1.1 X.1.2.1 dX9_reading_5 (by decide) (fun c_1 => ?_) (fun c_1 => ?_)
  · skip
    rw [lg_cmp_gt] at c_1
    rw [if_pos c_1] at hf
    refine lv_ldc (v := (2000000 : Int32)) X.1.1 X.1.2.1 X.1.2.2.2.1 (X.1.2.2.2.2 _ uc_X9_86) dX9_reading_16 ?_
    refine lv_goto (tgt := 23) X.1.1 X.1.2.1 dX9_reading_18 (by decide) ?_
    cases hf
    exact r_retI X hw hr hlk rfl dX9_reading_23
  · skip
    rw [lg_cmp_gt] at c_1
    rw [if_neg c_1] at hf
    refine lv_lload_n X.1.1 X.1.2.1 dX9_reading_8 rfl (lv_at hl 0 rfl) ?_
    refine lv_ldc2 (v := (-1000000 : Int64)) X.1.1 X.1.2.1 X.1.2.2.2.1 (X.1.2.2.2.2 _ uk_X9_92) dX9_reading_9 ?_
    refine W.lcmp X.1.1 X.1.2.1 dX9_reading_12 ?_
    refine lv_if_ge (tgt := 21) X.1.1 X.1.2.1 dX9_reading_13 (by decide) (fun c_2 => ?_) (fun c_2 => ?_)
    · skip
      rw [lg_cmp_ge] at c_2
      rw [if_pos c_2] at hf
      refine lv_lload_n X.1.1 X.1.2.1 dX9_reading_21 rfl (lv_at hl 0 rfl) ?_
      refine lv_l2i X.1.1 X.1.2.1 dX9_reading_22 rfl ?_
      cases hf
      exact r_retI X hw hr hlk rfl dX9_reading_23
    · skip
      rw [lg_cmp_ge] at c_2
      rw [if_neg c_2] at hf
      refine lv_ldc (v := (2000000 : Int32)) X.1.1 X.1.2.1 X.1.2.2.2.1 (X.1.2.2.2.2 _ uc_X9_86) dX9_reading_16 ?_
      refine lv_goto (tgt := 23) X.1.1 X.1.2.1 dX9_reading_18 (by decide) ?_
      cases hf
      exact r_retI X hw hr hlk rfl dX9_reading_23
/-! X9_cut -/
def f_X9_cut (h : Hs) (p1 : Int32) (p2 : Int32) (p3 : Int64) (p4 : Int32) (M : Mm) : Option Int32 :=
  if 0 ≤ p2 then
    if p2 ≤ (19 : Int32) then
      lt_ ((((1 : Int64) <<< (p4.toInt64 &&& 63)) ||| p3) >>> ((p4 - p2).toInt64 &&& 63)) fun x3 =>
      Option.bind (
        if p1 = 0 then
          some x3
        else
          some (-x3)
        ) fun y5 =>
      (f_X9_reading h y5 M).bind fun z6 =>
      some z6
    else
      some (2000000 : Int32)
  else
    some (0 : Int32)
set_option maxHeartbeats 4000000 in
set_option maxRecDepth 100000 in
theorem c_X9_cut {l : Launch} {D : va_G} {cy : Nat → ClassId} {h : Hs} {p1 : Int32} {p2 : Int32} {p3 : Int64} {p4 : Int32} {M : Mm} {z : Int32} (hf : f_X9_cut h p1 p2 p3 p4 M = some z) : CtI l D cy yX9_cut (wu yX9_cut cX9_cut 7 (some .int)) ({ frames := 1, cells := 0, slots := 0, locals := 21 }) [.int p1, .int p2, .long p3, .int p4] h M z M := by
  refine enterI (cc := cX9_cut) (maxL := 7) (ret := (some .int)) (by decide) (Nat.le_of_ble_eq_true rfl) ?_
  intro p e s m args below meth c A ls X hw hr hlk hl
  have hl : lv_has ls 7 [(0, .int p1), (1, .int p2), (2, .long p3), (4, .int p4)] := hl
  unfold f_X9_cut at hf
  refine lv_iload_n X.1.1 X.1.2.1 dX9_cut_0 rfl (lv_at hl 1 rfl) ?_
  refine lv_if_ge (tgt := 6) X.1.1 X.1.2.1 dX9_cut_1 (by decide) (fun c_1 => ?_) (fun c_1 => ?_)
  · skip
    rw [if_pos c_1] at hf
    refine lv_iload_n X.1.1 X.1.2.1 dX9_cut_6 rfl (lv_at hl 1 rfl) ?_
    refine lv_bipush (v := (19 : Int32)) X.1.1 X.1.2.1 dX9_cut_7 (by decide) ?_
    refine lv_icmp_le (tgt := 15) X.1.1 X.1.2.1 dX9_cut_9 (by decide) (fun c_2 => ?_) (fun c_2 => ?_)
    · skip
      rw [if_pos c_2] at hf
      refine lv_lconst (v := (1 : Int64)) X.1.1 X.1.2.1 dX9_cut_15 (by decide) ?_
      refine lv_iload X.1.1 X.1.2.1 dX9_cut_16 (lv_at hl 3 rfl) ?_
      refine lv_lshl X.1.1 X.1.2.1 dX9_cut_18 rfl ?_
      refine lv_lload_n X.1.1 X.1.2.1 dX9_cut_19 rfl (lv_at hl 2 rfl) ?_
      refine lv_lor X.1.1 X.1.2.1 dX9_cut_20 ?_
      refine lv_iload X.1.1 X.1.2.1 dX9_cut_21 (lv_at hl 3 rfl) ?_
      refine lv_iload_n X.1.1 X.1.2.1 dX9_cut_23 rfl (lv_at hl 1 rfl) ?_
      refine lv_isub X.1.1 X.1.2.1 dX9_cut_24 ?_
      refine lv_lshr X.1.1 X.1.2.1 dX9_cut_25 rfl ?_
      refine lv_topl (fun x3 ex3 => ?_)
      have hf := oltE ex3 hf
      refine lv_lstore (lv' := [(5, .long x3), (0, .int p1), (1, .int p2), (2, .long p3), (4, .int p4)]) X.1.1 X.1.2.1 dX9_cut_26 hl (by decide) rfl (fun ls hl => ?_)
      refine lv_iload_n X.1.1 X.1.2.1 dX9_cut_28 rfl (lv_at hl 1 rfl) ?_
      obtain ⟨y5, ey5, hf⟩ := obd hf
      have Jy5 : ∀ (H : Heap) (locs : List Loc) (ls : Array Slot), Wd D cy A s.heap h M H locs → lv_has ls 7 [] → W p l e ({ frames := 1, cells := 0, slots := 0, locals := 21 } : Room) s m args below meth c H locs 0 0 (QI below D cy A h args s z M) (F0 m 40 ls [.long y5]) := by
        intro H locs ls hw hl
        obtain ⟨z6, ez6, hf⟩ := obd hf
        refine r_callSI (As := [.long y5]) (rest := []) X hw (c_X9_reading ez6) (va_cwS 1 X.1.2.2.2.2 (guS um_X9_94 ut_X9_reading un_X9 uo_X9_reading) rfl rfl rfl (by decide +kernel) ⟨Nat.le_of_ble_eq_true rfl, Nat.le_of_ble_eq_true rfl⟩) rfl hl.1 rfl (Nat.le_of_ble_eq_true rfl) dX9_cut_40 ⟨Nat.zero_le _, Nat.zero_le _⟩ (fun H locs hw => ?_)
        cases hf
        exact r_retI X hw hr hlk rfl dX9_cut_43
      clear hf
      have hf := ey5
      clear ey5
      refine lv_if_eq (tgt := 38) X.1.1 X.1.2.1 dX9_cut_29 (by decide) (fun c_4 => ?_) (fun c_4 => ?_)
      · skip
        rw [if_pos c_4] at hf
        refine lv_lload X.1.1 X.1.2.1 dX9_cut_38 (lv_at hl 0 rfl) ?_
        cases hf
        exact Jy5 _ _ _ hw (lv_sub hl [] rfl)
      · skip
        rw [if_neg c_4] at hf
        refine lv_lload X.1.1 X.1.2.1 dX9_cut_32 (lv_at hl 0 rfl) ?_
        refine lv_lneg X.1.1 X.1.2.1 dX9_cut_34 ?_
        refine lv_goto (tgt := 40) X.1.1 X.1.2.1 dX9_cut_35 (by decide) ?_
        cases hf
        exact Jy5 _ _ _ hw (lv_sub hl [] rfl)
    · skip
      rw [if_neg c_2] at hf
      refine lv_ldc (v := (2000000 : Int32)) X.1.1 X.1.2.1 X.1.2.2.2.1 (X.1.2.2.2.2 _ uc_X9_86) dX9_cut_12 ?_
      cases hf
      exact r_retI X hw hr hlk rfl dX9_cut_14
  · skip
    rw [if_neg c_1] at hf
    refine lv_iconst (v := (0 : Int32)) X.1.1 X.1.2.1 dX9_cut_4 (by decide) ?_
    cases hf
    exact r_retI X hw hr hlk rfl dX9_cut_5
/-! X9_sizeOf -/
def f_X9_sizeOf (h : Hs) (p1 : Int32) (M : Mm) : Option Int32 :=
  if ¬ p1 = 0 then
    if ¬ p1 = (1 : Int32) then
      if p1 = (2 : Int32) then
        some (4 : Int32)
      else
        if ¬ p1 = (4 : Int32) then
          some (8 : Int32)
        else
          some (4 : Int32)
    else
      some (2 : Int32)
  else
    some (1 : Int32)
set_option maxHeartbeats 4000000 in
set_option maxRecDepth 100000 in
theorem c_X9_sizeOf {l : Launch} {D : va_G} {cy : Nat → ClassId} {h : Hs} {p1 : Int32} {M : Mm} {z : Int32} (hf : f_X9_sizeOf h p1 M = some z) : CtI l D cy yX9_sizeOf (wu yX9_sizeOf cX9_sizeOf 1 (some .int)) ({ frames := 0, cells := 0, slots := 0, locals := 0 }) [.int p1] h M z M := by
  refine enterI (cc := cX9_sizeOf) (maxL := 1) (ret := (some .int)) (by decide) (Nat.le_of_ble_eq_true rfl) ?_
  intro p e s m args below meth c A ls X hw hr hlk hl
  have hl : lv_has ls 1 [(0, .int p1)] := hl
  unfold f_X9_sizeOf at hf
  refine lv_iload_n X.1.1 X.1.2.1 dX9_sizeOf_0 rfl (lv_at hl 0 rfl) ?_
  refine lv_if_ne (tgt := 8) X.1.1 X.1.2.1 dX9_sizeOf_1 (by decide) (fun c_1 => ?_) (fun c_1 => ?_)
  · skip
    rw [if_pos c_1] at hf
    refine lv_iload_n X.1.1 X.1.2.1 dX9_sizeOf_8 rfl (lv_at hl 0 rfl) ?_
    refine lv_iconst (v := (1 : Int32)) X.1.1 X.1.2.1 dX9_sizeOf_9 (by decide) ?_
    refine lv_icmp_ne (tgt := 17) X.1.1 X.1.2.1 dX9_sizeOf_10 (by decide) (fun c_2 => ?_) (fun c_2 => ?_)
    · skip
      rw [if_pos c_2] at hf
      refine lv_iload_n X.1.1 X.1.2.1 dX9_sizeOf_17 rfl (lv_at hl 0 rfl) ?_
      refine lv_iconst (v := (2 : Int32)) X.1.1 X.1.2.1 dX9_sizeOf_18 (by decide) ?_
      refine lv_icmp_eq (tgt := 27) X.1.1 X.1.2.1 dX9_sizeOf_19 (by decide) (fun c_3 => ?_) (fun c_3 => ?_)
      · skip
        rw [if_pos c_3] at hf
        refine lv_iconst (v := (4 : Int32)) X.1.1 X.1.2.1 dX9_sizeOf_27 (by decide) ?_
        refine lv_goto (tgt := 33) X.1.1 X.1.2.1 dX9_sizeOf_28 (by decide) ?_
        cases hf
        exact r_retI X hw hr hlk rfl dX9_sizeOf_33
      · skip
        rw [if_neg c_3] at hf
        refine lv_iload_n X.1.1 X.1.2.1 dX9_sizeOf_22 rfl (lv_at hl 0 rfl) ?_
        refine lv_iconst (v := (4 : Int32)) X.1.1 X.1.2.1 dX9_sizeOf_23 (by decide) ?_
        refine lv_icmp_ne (tgt := 31) X.1.1 X.1.2.1 dX9_sizeOf_24 (by decide) (fun c_4 => ?_) (fun c_4 => ?_)
        · skip
          rw [if_pos c_4] at hf
          refine lv_bipush (v := (8 : Int32)) X.1.1 X.1.2.1 dX9_sizeOf_31 (by decide) ?_
          cases hf
          exact r_retI X hw hr hlk rfl dX9_sizeOf_33
        · skip
          rw [if_neg (fun z => z c_4)] at hf
          refine lv_iconst (v := (4 : Int32)) X.1.1 X.1.2.1 dX9_sizeOf_27 (by decide) ?_
          refine lv_goto (tgt := 33) X.1.1 X.1.2.1 dX9_sizeOf_28 (by decide) ?_
          cases hf
          exact r_retI X hw hr hlk rfl dX9_sizeOf_33
    · skip
      rw [if_neg (fun z => z c_2)] at hf
      refine lv_iconst (v := (2 : Int32)) X.1.1 X.1.2.1 dX9_sizeOf_13 (by decide) ?_
      refine lv_goto (tgt := 33) X.1.1 X.1.2.1 dX9_sizeOf_14 (by decide) ?_
      cases hf
      exact r_retI X hw hr hlk rfl dX9_sizeOf_33
  · skip
    rw [if_neg (fun z => z c_1)] at hf
    refine lv_iconst (v := (1 : Int32)) X.1.1 X.1.2.1 dX9_sizeOf_4 (by decide) ?_
    refine lv_goto (tgt := 33) X.1.1 X.1.2.1 dX9_sizeOf_5 (by decide) ?_
    cases hf
    exact r_retI X hw hr hlk rfl dX9_sizeOf_33
/-! X9_number -/
def f_X9_number (h : Hs) (a0 : Nat) (p1 : Int32) (p2 : Int32) (M : Mm) : Option Int32 :=
  (f_X9_sizeOf h p2 M).bind fun z1 =>
  gd (ok h a0 9) <|
  (f_X9_bits h a0 p1 z1 M).bind fun z2 =>
  if p2 = (0 : Int32) then
    some z2.toInt32.toInt8.toInt32
  else
    if p2 = (1 : Int32) then
      some z2.toInt32.toInt16.toInt32
    else
      if p2 = (2 : Int32) then
        (f_X9_reading h z2.toInt32.toInt64 M).bind fun z6 =>
        some z6
      else
        if p2 = (3 : Int32) then
          (f_X9_reading h z2 M).bind fun z8 =>
          some z8
        else
          if p2 = (4 : Int32) then
            Option.bind (
              if ¬ ((z2 >>> ((31 : Int32).toInt64 &&& 63)) &&& (1 : Int64)) = (1 : Int64) then
                some (0 : Int32)
              else
                some (1 : Int32)
              ) fun y11 =>
            (f_X9_cut h y11 ((((z2 >>> ((23 : Int32).toInt64 &&& 63)) &&& (255 : Int64)).toInt32) - (127 : Int32)) (z2 &&& (8388607 : Int64)) (23 : Int32) M).bind fun z12 =>
            some z12
          else
            Option.bind (
              if (0 : Int64) ≤ z2 then
                some (0 : Int32)
              else
                some (1 : Int32)
              ) fun y14 =>
            (f_X9_cut h y14 ((((z2 >>> ((52 : Int32).toInt64 &&& 63)) &&& (2047 : Int64)).toInt32) - (1023 : Int32)) (z2 &&& (4503599627370495 : Int64)) (52 : Int32) M).bind fun z15 =>
            some z15
set_option maxHeartbeats 4000000 in
set_option maxRecDepth 100000 in
theorem c_X9_number {l : Launch} {D : va_G} {cy : Nat → ClassId} {h : Hs} {a0 : Nat} {p1 : Int32} {p2 : Int32} {M : Mm} {z : Int32} (hf : f_X9_number h a0 p1 p2 M = some z) : CtI l D cy yX9_number (wu yX9_number cX9_number 6 (some .int)) ({ frames := 2, cells := 0, slots := 0, locals := 47 }) [.ref a0, .int p1, .int p2] h M z M := by
  refine enterI (cc := cX9_number) (maxL := 6) (ret := (some .int)) (by decide) (Nat.le_of_ble_eq_true rfl) ?_
  intro p e s m args below meth c A ls X hw hr hlk hl
  have hl : lv_has ls 6 [(0, .ref a0), (1, .int p1), (2, .int p2)] := hl
  unfold f_X9_number at hf
  refine lv_iload_n X.1.1 X.1.2.1 dX9_number_0 rfl (lv_at hl 2 rfl) ?_
  obtain ⟨z1, ez1, hf⟩ := obd hf
  refine r_callSI (As := [.int p2]) (rest := []) X hw (c_X9_sizeOf ez1) (va_cwS 1 X.1.2.2.2.2 (guS um_X9_98 ut_X9_sizeOf un_X9 uo_X9_sizeOf) rfl rfl rfl (by decide +kernel) ⟨Nat.le_of_ble_eq_true rfl, Nat.le_of_ble_eq_true rfl⟩) rfl hl.1 rfl (Nat.le_of_ble_eq_true rfl) dX9_number_1 ⟨Nat.zero_le _, Nat.zero_le _⟩ (fun H locs hw => ?_)
  refine lv_istore_n (lv' := [(3, .int z1), (0, .ref a0), (1, .int p1), (2, .int p2)]) X.1.1 X.1.2.1 dX9_number_4 rfl hl (by decide) rfl (fun ls hl => ?_)
  refine lv_aload_n X.1.1 X.1.2.1 dX9_number_5 rfl (lv_at hl 1 rfl) ?_
  refine lv_iload_n X.1.1 X.1.2.1 dX9_number_6 rfl (lv_at hl 2 rfl) ?_
  refine lv_iload_n X.1.1 X.1.2.1 dX9_number_7 rfl (lv_at hl 0 rfl) ?_
  obtain ⟨g_a0, hf⟩ := ogd hf
  obtain ⟨z2, ez2, hf⟩ := obd hf
  refine r_callVL (As := [.int p1, .int z1]) (rest := []) X hw (c_X9_bits ez2) (cwV 2 X.1.2.2.2.2 (guV um_X9_101 ui_X9_bits us_X9_bits un_X9 uo_X9_bits) rfl rfl rfl (by decide +kernel) ⟨Nat.le_of_ble_eq_true rfl, Nat.le_of_ble_eq_true rfl⟩) g_a0 (by decide) rfl rfl hl.1 rfl (Nat.le_of_ble_eq_true rfl) dX9_number_8 ⟨Nat.zero_le _, Nat.zero_le _⟩ (fun H locs hw => ?_)
  refine lv_lstore (lv' := [(4, .long z2), (3, .int z1), (0, .ref a0), (1, .int p1), (2, .int p2)]) X.1.1 X.1.2.1 dX9_number_11 hl (by decide) rfl (fun ls hl => ?_)
  refine lv_iload_n X.1.1 X.1.2.1 dX9_number_13 rfl (lv_at hl 4 rfl) ?_
  by_cases c_3 : p2 = (0 : Int32)
  · rw [if_pos c_3] at hf
    refine lv_tableIn (off := 34) (tgt := 48) X.1.1 X.1.2.1 dX9_number_14 (by rw [c_3]; decide) (by rw [c_3]; decide) (by rw [c_3]; decide) (by decide) ?_
    refine lv_lload X.1.1 X.1.2.1 dX9_number_48 (lv_at hl 0 rfl) ?_
    refine lv_l2i X.1.1 X.1.2.1 dX9_number_50 rfl ?_
    refine lv_i2b X.1.1 X.1.2.1 dX9_number_51 rfl ?_
    cases hf
    exact r_retI X hw hr hlk rfl dX9_number_52
  · rw [if_neg c_3] at hf
    by_cases c_4 : p2 = (1 : Int32)
    · rw [if_pos c_4] at hf
      refine lv_tableIn (off := 39) (tgt := 53) X.1.1 X.1.2.1 dX9_number_14 (by rw [c_4]; decide) (by rw [c_4]; decide) (by rw [c_4]; decide) (by decide) ?_
      refine lv_lload X.1.1 X.1.2.1 dX9_number_53 (lv_at hl 0 rfl) ?_
      refine lv_l2i X.1.1 X.1.2.1 dX9_number_55 rfl ?_
      refine lv_i2s X.1.1 X.1.2.1 dX9_number_56 rfl ?_
      cases hf
      exact r_retI X hw hr hlk rfl dX9_number_57
    · rw [if_neg c_4] at hf
      by_cases c_5 : p2 = (2 : Int32)
      · rw [if_pos c_5] at hf
        refine lv_tableIn (off := 44) (tgt := 58) X.1.1 X.1.2.1 dX9_number_14 (by rw [c_5]; decide) (by rw [c_5]; decide) (by rw [c_5]; decide) (by decide) ?_
        refine lv_lload X.1.1 X.1.2.1 dX9_number_58 (lv_at hl 0 rfl) ?_
        refine lv_l2i X.1.1 X.1.2.1 dX9_number_60 rfl ?_
        refine lv_i2l X.1.1 X.1.2.1 dX9_number_61 rfl ?_
        obtain ⟨z6, ez6, hf⟩ := obd hf
        refine r_callSI (As := [.long z2.toInt32.toInt64]) (rest := []) X hw (c_X9_reading ez6) (va_cwS 1 X.1.2.2.2.2 (guS um_X9_94 ut_X9_reading un_X9 uo_X9_reading) rfl rfl rfl (by decide +kernel) ⟨Nat.le_of_ble_eq_true rfl, Nat.le_of_ble_eq_true rfl⟩) rfl hl.1 rfl (Nat.le_of_ble_eq_true rfl) dX9_number_62 ⟨Nat.zero_le _, Nat.zero_le _⟩ (fun H locs hw => ?_)
        cases hf
        exact r_retI X hw hr hlk rfl dX9_number_65
      · rw [if_neg c_5] at hf
        by_cases c_7 : p2 = (3 : Int32)
        · rw [if_pos c_7] at hf
          refine lv_tableIn (off := 52) (tgt := 66) X.1.1 X.1.2.1 dX9_number_14 (by rw [c_7]; decide) (by rw [c_7]; decide) (by rw [c_7]; decide) (by decide) ?_
          refine lv_lload X.1.1 X.1.2.1 dX9_number_66 (lv_at hl 0 rfl) ?_
          obtain ⟨z8, ez8, hf⟩ := obd hf
          refine r_callSI (As := [.long z2]) (rest := []) X hw (c_X9_reading ez8) (va_cwS 1 X.1.2.2.2.2 (guS um_X9_94 ut_X9_reading un_X9 uo_X9_reading) rfl rfl rfl (by decide +kernel) ⟨Nat.le_of_ble_eq_true rfl, Nat.le_of_ble_eq_true rfl⟩) rfl hl.1 rfl (Nat.le_of_ble_eq_true rfl) dX9_number_68 ⟨Nat.zero_le _, Nat.zero_le _⟩ (fun H locs hw => ?_)
          cases hf
          exact r_retI X hw hr hlk rfl dX9_number_71
        · rw [if_neg c_7] at hf
          by_cases c_9 : p2 = (4 : Int32)
          · rw [if_pos c_9] at hf
            refine lv_tableIn (off := 58) (tgt := 72) X.1.1 X.1.2.1 dX9_number_14 (by rw [c_9]; decide) (by rw [c_9]; decide) (by rw [c_9]; decide) (by decide) ?_
            refine lv_lload X.1.1 X.1.2.1 dX9_number_72 (lv_at hl 0 rfl) ?_
            refine lv_bipush (v := (31 : Int32)) X.1.1 X.1.2.1 dX9_number_74 (by decide) ?_
            refine lv_lshr X.1.1 X.1.2.1 dX9_number_76 rfl ?_
            refine lv_lconst (v := (1 : Int64)) X.1.1 X.1.2.1 dX9_number_77 (by decide) ?_
            refine lv_land X.1.1 X.1.2.1 dX9_number_78 ?_
            refine lv_lconst (v := (1 : Int64)) X.1.1 X.1.2.1 dX9_number_79 (by decide) ?_
            refine W.lcmp X.1.1 X.1.2.1 dX9_number_80 ?_
            obtain ⟨y11, ey11, hf⟩ := obd hf
            have Jy11 : ∀ (H : Heap) (locs : List Loc) (ls : Array Slot), Wd D cy A s.heap h M H locs → lv_has ls 6 [(4, .long z2)] → W p l e ({ frames := 2, cells := 0, slots := 0, locals := 47 } : Room) s m args below meth c H locs 0 0 (QI below D cy A h args s z M) (F0 m 89 ls [.int y11]) := by
              intro H locs ls hw hl
              refine lv_lload X.1.1 X.1.2.1 dX9_number_89 (lv_at hl 0 rfl) ?_
              refine lv_bipush (v := (23 : Int32)) X.1.1 X.1.2.1 dX9_number_91 (by decide) ?_
              refine lv_lshr X.1.1 X.1.2.1 dX9_number_93 rfl ?_
              refine lv_ldc2 (v := (255 : Int64)) X.1.1 X.1.2.1 X.1.2.2.2.1 (X.1.2.2.2.2 _ uk_X9_105) dX9_number_94 ?_
              refine lv_land X.1.1 X.1.2.1 dX9_number_97 ?_
              refine lv_l2i X.1.1 X.1.2.1 dX9_number_98 rfl ?_
              refine lv_bipush (v := (127 : Int32)) X.1.1 X.1.2.1 dX9_number_99 (by decide) ?_
              refine lv_isub X.1.1 X.1.2.1 dX9_number_101 ?_
              refine lv_lload X.1.1 X.1.2.1 dX9_number_102 (lv_at hl 0 rfl) ?_
              refine lv_ldc2 (v := (8388607 : Int64)) X.1.1 X.1.2.1 X.1.2.2.2.1 (X.1.2.2.2.2 _ uk_X9_107) dX9_number_104 ?_
              refine lv_land X.1.1 X.1.2.1 dX9_number_107 ?_
              refine lv_bipush (v := (23 : Int32)) X.1.1 X.1.2.1 dX9_number_108 (by decide) ?_
              obtain ⟨z12, ez12, hf⟩ := obd hf
              refine r_callSI (As := [.int y11, .int ((((z2 >>> ((23 : Int32).toInt64 &&& 63)) &&& (255 : Int64)).toInt32) - (127 : Int32)), .long (z2 &&& (8388607 : Int64)), .int (23 : Int32)]) (rest := []) X hw (c_X9_cut ez12) (va_cwS 4 X.1.2.2.2.2 (guS um_X9_109 ut_X9_cut un_X9 uo_X9_cut) rfl rfl rfl (by decide +kernel) ⟨Nat.le_of_ble_eq_true rfl, Nat.le_of_ble_eq_true rfl⟩) rfl hl.1 rfl (Nat.le_of_ble_eq_true rfl) dX9_number_110 ⟨Nat.zero_le _, Nat.zero_le _⟩ (fun H locs hw => ?_)
              cases hf
              exact r_retI X hw hr hlk rfl dX9_number_113
            clear hf
            have hf := ey11
            clear ey11
            refine lv_if_ne (tgt := 88) X.1.1 X.1.2.1 dX9_number_81 (by decide) (fun c_10 => ?_) (fun c_10 => ?_)
            · skip
              rw [lg_cmp_eq] at c_10
              rw [if_pos c_10] at hf
              refine lv_iconst (v := (0 : Int32)) X.1.1 X.1.2.1 dX9_number_88 (by decide) ?_
              cases hf
              exact Jy11 _ _ _ hw (lv_sub hl [0] rfl)
            · skip
              rw [lg_cmp_eq] at c_10
              rw [if_neg (fun z => z c_10)] at hf
              refine lv_iconst (v := (1 : Int32)) X.1.1 X.1.2.1 dX9_number_84 (by decide) ?_
              refine lv_goto (tgt := 89) X.1.1 X.1.2.1 dX9_number_85 (by decide) ?_
              cases hf
              exact Jy11 _ _ _ hw (lv_sub hl [0] rfl)
          · rw [if_neg c_9] at hf
            refine lv_tableOut (tgt := 114) X.1.1 X.1.2.1 dX9_number_14 (by have q : p2.toInt < 0 ∨ 4 < p2.toInt ∨ p2.toInt = 0 ∨ p2.toInt = 1 ∨ p2.toInt = 2 ∨ p2.toInt = 3 ∨ p2.toInt = 4 := (by omega); rcases q with q | q | q | q | q | q | q; exact Or.inl q; exact Or.inr q; exact absurd ((sw_eq q).trans (by decide)) c_3; exact absurd ((sw_eq q).trans (by decide)) c_4; exact absurd ((sw_eq q).trans (by decide)) c_5; exact absurd ((sw_eq q).trans (by decide)) c_7; exact absurd ((sw_eq q).trans (by decide)) c_9) (by decide) ?_
            refine lv_lload X.1.1 X.1.2.1 dX9_number_114 (lv_at hl 0 rfl) ?_
            refine lv_lconst (v := (0 : Int64)) X.1.1 X.1.2.1 dX9_number_116 (by decide) ?_
            refine W.lcmp X.1.1 X.1.2.1 dX9_number_117 ?_
            obtain ⟨y14, ey14, hf⟩ := obd hf
            have Jy14 : ∀ (H : Heap) (locs : List Loc) (ls : Array Slot), Wd D cy A s.heap h M H locs → lv_has ls 6 [(4, .long z2)] → W p l e ({ frames := 2, cells := 0, slots := 0, locals := 47 } : Room) s m args below meth c H locs 0 0 (QI below D cy A h args s z M) (F0 m 126 ls [.int y14]) := by
              intro H locs ls hw hl
              refine lv_lload X.1.1 X.1.2.1 dX9_number_126 (lv_at hl 0 rfl) ?_
              refine lv_bipush (v := (52 : Int32)) X.1.1 X.1.2.1 dX9_number_128 (by decide) ?_
              refine lv_lshr X.1.1 X.1.2.1 dX9_number_130 rfl ?_
              refine lv_ldc2 (v := (2047 : Int64)) X.1.1 X.1.2.1 X.1.2.2.2.1 (X.1.2.2.2.2 _ uk_X9_113) dX9_number_131 ?_
              refine lv_land X.1.1 X.1.2.1 dX9_number_134 ?_
              refine lv_l2i X.1.1 X.1.2.1 dX9_number_135 rfl ?_
              refine lv_sipush (v := (1023 : Int32)) X.1.1 X.1.2.1 dX9_number_136 (by decide) ?_
              refine lv_isub X.1.1 X.1.2.1 dX9_number_139 ?_
              refine lv_lload X.1.1 X.1.2.1 dX9_number_140 (lv_at hl 0 rfl) ?_
              refine lv_ldc2 (v := (4503599627370495 : Int64)) X.1.1 X.1.2.1 X.1.2.2.2.1 (X.1.2.2.2.2 _ uk_X9_115) dX9_number_142 ?_
              refine lv_land X.1.1 X.1.2.1 dX9_number_145 ?_
              refine lv_bipush (v := (52 : Int32)) X.1.1 X.1.2.1 dX9_number_146 (by decide) ?_
              obtain ⟨z15, ez15, hf⟩ := obd hf
              refine r_callSI (As := [.int y14, .int ((((z2 >>> ((52 : Int32).toInt64 &&& 63)) &&& (2047 : Int64)).toInt32) - (1023 : Int32)), .long (z2 &&& (4503599627370495 : Int64)), .int (52 : Int32)]) (rest := []) X hw (c_X9_cut ez15) (va_cwS 4 X.1.2.2.2.2 (guS um_X9_109 ut_X9_cut un_X9 uo_X9_cut) rfl rfl rfl (by decide +kernel) ⟨Nat.le_of_ble_eq_true rfl, Nat.le_of_ble_eq_true rfl⟩) rfl hl.1 rfl (Nat.le_of_ble_eq_true rfl) dX9_number_148 ⟨Nat.zero_le _, Nat.zero_le _⟩ (fun H locs hw => ?_)
              cases hf
              exact r_retI X hw hr hlk rfl dX9_number_151
            clear hf
            have hf := ey14
            clear ey14
            refine lv_if_ge (tgt := 125) X.1.1 X.1.2.1 dX9_number_118 (by decide) (fun c_13 => ?_) (fun c_13 => ?_)
            · skip
              rw [lg_cmp_ge] at c_13
              rw [if_pos c_13] at hf
              refine lv_iconst (v := (0 : Int32)) X.1.1 X.1.2.1 dX9_number_125 (by decide) ?_
              cases hf
              exact Jy14 _ _ _ hw (lv_sub hl [0] rfl)
            · skip
              rw [lg_cmp_ge] at c_13
              rw [if_neg c_13] at hf
              refine lv_iconst (v := (1 : Int32)) X.1.1 X.1.2.1 dX9_number_121 (by decide) ?_
              refine lv_goto (tgt := 126) X.1.1 X.1.2.1 dX9_number_122 (by decide) ?_
              cases hf
              exact Jy14 _ _ _ hw (lv_sub hl [0] rfl)
/-! X9_read -/
def lp_X9_read_89 (h : Hs) (w6 : Int32) (w5 : Int32) (w4 : Int32) (w3 : Int32) (w1 : Int32) (w2 : Int32) (a0 : Nat) (q11 : Nat) : Nat → Int32 → Mm → Option (Int32 × Mm)
  | 0, _, _ => none
  | n + 1, v7, M =>
    if w5 ≤ v7 then
      some (v7, M)
    else
      lt_ (w6 + v7) fun x17 =>
      gd (inb ((404 : Int32) * w1) (zN h q11)) <|
      Option.bind (
        if ¬ (zI M q11 ((404 : Int32) * w1).toNatClampNeg) = (3 : Int32) then
          some (0 : Int32)
        else
          gd (inb (((404 : Int32) * w1) + (1 : Int32)) (zN h q11)) <|
          if x17 < (zI M q11 (((404 : Int32) * w1) + (1 : Int32)).toNatClampNeg) then
            some (0 : Int32)
          else
            gd (inb (((404 : Int32) * w1) + (2 : Int32)) (zN h q11)) <|
            if (zI M q11 (((404 : Int32) * w1) + (2 : Int32)).toNatClampNeg) < x17 then
              some (0 : Int32)
            else
              some (1 : Int32)
        ) fun y24 =>
      Option.bind (
        if y24 = 0 then
          if (w4 * (v7 + (1 : Int32))) ≤ w3 then
            (f_X9_number h a0 (w4 * v7) w2 M).bind fun z27 =>
            some z27
          else
            some (2000000 : Int32)
        else
          some (3000000 : Int32)
        ) fun y28 =>
      gd (inb ((((404 : Int32) * w1) + (4 : Int32)) + x17) (zN h q11)) <|
      lt_ (sI M q11 ((((404 : Int32) * w1) + (4 : Int32)) + x17).toNatClampNeg y28) fun M30 =>
      lt_ (v7 + (1 : Int32)) fun x31 =>
      lp_X9_read_89 h w6 w5 w4 w3 w1 w2 a0 q11 n x31 M30
set_option maxHeartbeats 4000000 in
set_option maxRecDepth 100000 in
theorem wlp_X9_read_89 {l : Launch} {D : va_G} {cy : Nat → ClassId} {h : Hs} {w6 : Int32} {w5 : Int32} {w4 : Int32} {w3 : Int32} {w1 : Int32} {w2 : Int32} {a0 : Nat} {q11 : Nat} {p : Program} {e : Env} {s : State} {m : MethodId} {args : Array Value} {below : List Frame} {meth : Method} {c : Code} {A : Nat → Prop} (X : Cx p s m args c cX9_read 10 gtbl RX9 D cy A) {Q : State → Prop} (g_a0 : ok h a0 9) (g_q11 : ok h q11 11) (eq11 : zR h a0 1 = some q11) : ∀ (n : Nat) (v7 : Int32) (M : Mm) (z : (Int32 × Mm)) (H : Heap) (locs : List Loc) (ls : Array Slot), lp_X9_read_89 h w6 w5 w4 w3 w1 w2 a0 q11 n v7 M = some z → Wd D cy A s.heap h M H locs → lv_has ls 10 [(7, .int v7), (6, .int w6), (5, .int w5), (4, .int w4), (3, .int w3), (0, .ref a0), (1, .int w1), (2, .int w2)] → (∀ x : (Int32 × Mm), z = x → ∀ (H : Heap) (locs : List Loc) (ls : Array Slot), Wd D cy A s.heap h x.2 H locs → lv_has ls 10 [(7, .int x.1), (6, .int w6), (5, .int w5), (4, .int w4), (3, .int w3), (0, .ref a0), (1, .int w1), (2, .int w2)] → W p l e ({ frames := 3, cells := 0, slots := 0, locals := 72 } : Room) s m args below meth c H locs 0 0 Q (F0 m 215 ls [])) → W p l e ({ frames := 3, cells := 0, slots := 0, locals := 72 } : Room) s m args below meth c H locs 0 0 Q (F0 m 89 ls []) := by
  intro n
  induction n with
  | zero => intro v7 M z H locs ls hf hw hl kx; exact absurd hf (by intro q; cases q)
  | succ n ih =>
    intro v7 M z H locs ls hf hw hl kx
    unfold lp_X9_read_89 at hf
    refine lv_iload X.1.1 X.1.2.1 dX9_read_89 (lv_at hl 0 rfl) ?_
    refine lv_iload X.1.1 X.1.2.1 dX9_read_91 (lv_at hl 2 rfl) ?_
    refine lv_icmp_ge (tgt := 215) X.1.1 X.1.2.1 dX9_read_93 (by decide) (fun c_16 => ?_) (fun c_16 => ?_)
    · skip
      rw [if_pos c_16] at hf
      cases hf
      exact kx _ rfl _ _ _ hw (lv_sub hl [0, 1, 2, 3, 4, 5, 6, 7] rfl)
    · skip
      rw [if_neg c_16] at hf
      refine lv_iload X.1.1 X.1.2.1 dX9_read_96 (lv_at hl 1 rfl) ?_
      refine lv_iload X.1.1 X.1.2.1 dX9_read_98 (lv_at hl 0 rfl) ?_
      refine lv_iadd X.1.1 X.1.2.1 dX9_read_100 ?_
      refine lv_topi (fun x17 ex17 => ?_)
      have hf := oltE ex17 hf
      refine lv_istore (lv' := [(8, .int x17), (7, .int v7), (6, .int w6), (5, .int w5), (4, .int w4), (3, .int w3), (0, .ref a0), (1, .int w1), (2, .int w2)]) X.1.1 X.1.2.1 dX9_read_101 hl (by decide) rfl (fun ls hl => ?_)
      refine lv_aload_n X.1.1 X.1.2.1 dX9_read_103 rfl (lv_at hl 6 rfl) ?_
      refine r_getq (k := 9) (j := 1) X hw rfl inX9 g_a0 rfl (by decide) (by decide) uf_X9_13 rfl dX9_read_104 eq11 ?_
      refine lv_sipush (v := (404 : Int32)) X.1.1 X.1.2.1 dX9_read_107 (by decide) ?_
      refine lv_iload_n X.1.1 X.1.2.1 dX9_read_110 rfl (lv_at hl 7 rfl) ?_
      refine lv_imul X.1.1 X.1.2.1 dX9_read_111 ?_
      obtain ⟨i_18, hf⟩ := ogd hf
      refine r_iald X hw g_q11 i_18 dX9_read_112 ?_
      refine lv_iconst (v := (3 : Int32)) X.1.1 X.1.2.1 dX9_read_113 (by decide) ?_
      obtain ⟨y24, ey24, hf⟩ := obd hf
      have Jy24 : ∀ (H : Heap) (locs : List Loc) (ls : Array Slot), Wd D cy A s.heap h M H locs → lv_has ls 10 [(8, .int x17), (7, .int v7), (6, .int w6), (5, .int w5), (4, .int w4), (3, .int w3), (0, .ref a0), (1, .int w1), (2, .int w2)] → W p l e ({ frames := 3, cells := 0, slots := 0, locals := 72 } : Room) s m args below meth c H locs 0 0 Q (F0 m 156 ls [.int y24]) := by
        intro H locs ls hw hl
        refine lv_istore (lv' := [(9, .int y24), (8, .int x17), (7, .int v7), (6, .int w6), (5, .int w5), (4, .int w4), (3, .int w3), (0, .ref a0), (1, .int w1), (2, .int w2)]) X.1.1 X.1.2.1 dX9_read_156 hl (by decide) rfl (fun ls hl => ?_)
        refine lv_aload_n X.1.1 X.1.2.1 dX9_read_158 rfl (lv_at hl 7 rfl) ?_
        refine r_getq (k := 9) (j := 1) X hw rfl inX9 g_a0 rfl (by decide) (by decide) uf_X9_13 rfl dX9_read_159 eq11 ?_
        refine lv_sipush (v := (404 : Int32)) X.1.1 X.1.2.1 dX9_read_162 (by decide) ?_
        refine lv_iload_n X.1.1 X.1.2.1 dX9_read_165 rfl (lv_at hl 8 rfl) ?_
        refine lv_imul X.1.1 X.1.2.1 dX9_read_166 ?_
        refine lv_iconst (v := (4 : Int32)) X.1.1 X.1.2.1 dX9_read_167 (by decide) ?_
        refine lv_iadd X.1.1 X.1.2.1 dX9_read_168 ?_
        refine lv_iload X.1.1 X.1.2.1 dX9_read_169 (lv_at hl 1 rfl) ?_
        refine lv_iadd X.1.1 X.1.2.1 dX9_read_171 ?_
        refine lv_iload X.1.1 X.1.2.1 dX9_read_172 (lv_at hl 0 rfl) ?_
        obtain ⟨y28, ey28, hf⟩ := obd hf
        have Jy28 : ∀ (H : Heap) (locs : List Loc) (ls : Array Slot), Wd D cy A s.heap h M H locs → lv_has ls 10 [(7, .int v7), (6, .int w6), (5, .int w5), (4, .int w4), (3, .int w3), (0, .ref a0), (1, .int w1), (2, .int w2)] → W p l e ({ frames := 3, cells := 0, slots := 0, locals := 72 } : Room) s m args below meth c H locs 0 0 Q (F0 m 208 ls [.int y28, .int ((((404 : Int32) * w1) + (4 : Int32)) + x17), .ref q11]) := by
          intro H locs ls hw hl
          obtain ⟨i_29, hf⟩ := ogd hf
          refine r_iast X hw g_q11 i_29 dX9_read_208 (fun H locs hw => ?_)
          obtain ⟨M30, eM30, hf⟩ := olt hf
          rw [← eM30] at hw
          obtain ⟨x31, ex31, hf⟩ := olt hf
          refine lv_iinc (v := x31) (lv' := [(7, .int x31), (6, .int w6), (5, .int w5), (4, .int w4), (3, .int w3), (0, .ref a0), (1, .int w1), (2, .int w2)]) X.1.1 X.1.2.1 dX9_read_209 hl (k := 0) rfl (by rw [ex31]; rfl) (by decide) rfl (fun ls hl => ?_)
          refine lv_goto (tgt := 89) X.1.1 X.1.2.1 dX9_read_212 (by decide) ?_
          exact ih _ _ _ _ _ _ hf hw (lv_sub hl [0, 1, 2, 3, 4, 5, 6, 7] rfl) kx
        clear hf
        have hf := ey28
        clear ey28
        refine lv_if_eq (tgt := 182) X.1.1 X.1.2.1 dX9_read_174 (by decide) (fun c_25 => ?_) (fun c_25 => ?_)
        · skip
          rw [if_pos c_25] at hf
          refine lv_iload X.1.1 X.1.2.1 dX9_read_182 (lv_at hl 5 rfl) ?_
          refine lv_iload X.1.1 X.1.2.1 dX9_read_184 (lv_at hl 2 rfl) ?_
          refine lv_iconst (v := (1 : Int32)) X.1.1 X.1.2.1 dX9_read_186 (by decide) ?_
          refine lv_iadd X.1.1 X.1.2.1 dX9_read_187 ?_
          refine lv_imul X.1.1 X.1.2.1 dX9_read_188 ?_
          refine lv_iload_n X.1.1 X.1.2.1 dX9_read_189 rfl (lv_at hl 6 rfl) ?_
          refine lv_icmp_le (tgt := 198) X.1.1 X.1.2.1 dX9_read_190 (by decide) (fun c_26 => ?_) (fun c_26 => ?_)
          · skip
            rw [if_pos c_26] at hf
            refine lv_aload_n X.1.1 X.1.2.1 dX9_read_198 rfl (lv_at hl 7 rfl) ?_
            refine lv_iload X.1.1 X.1.2.1 dX9_read_199 (lv_at hl 5 rfl) ?_
            refine lv_iload X.1.1 X.1.2.1 dX9_read_201 (lv_at hl 2 rfl) ?_
            refine lv_imul X.1.1 X.1.2.1 dX9_read_203 ?_
            refine lv_iload_n X.1.1 X.1.2.1 dX9_read_204 rfl (lv_at hl 9 rfl) ?_
            obtain ⟨z27, ez27, hf⟩ := obd hf
            refine r_callVI (As := [.int (w4 * v7), .int w2]) (rest := [.int ((((404 : Int32) * w1) + (4 : Int32)) + x17), .ref q11]) X hw (c_X9_number ez27) (cwV 2 X.1.2.2.2.2 (guV um_X9_117 ui_X9_number us_X9_number un_X9 uo_X9_number) rfl rfl rfl (by decide +kernel) ⟨Nat.le_of_ble_eq_true rfl, Nat.le_of_ble_eq_true rfl⟩) g_a0 (by decide) rfl rfl hl.1 rfl (Nat.le_of_ble_eq_true rfl) dX9_read_205 ⟨Nat.zero_le _, Nat.zero_le _⟩ (fun H locs hw => ?_)
            cases hf
            exact Jy28 _ _ _ hw (lv_sub hl [2, 3, 4, 5, 6, 7, 8, 9] rfl)
          · skip
            rw [if_neg c_26] at hf
            refine lv_ldc (v := (2000000 : Int32)) X.1.1 X.1.2.1 X.1.2.2.2.1 (X.1.2.2.2.2 _ uc_X9_86) dX9_read_193 ?_
            refine lv_goto (tgt := 208) X.1.1 X.1.2.1 dX9_read_195 (by decide) ?_
            cases hf
            exact Jy28 _ _ _ hw (lv_sub hl [2, 3, 4, 5, 6, 7, 8, 9] rfl)
        · skip
          rw [if_neg c_25] at hf
          refine lv_ldc (v := (3000000 : Int32)) X.1.1 X.1.2.1 X.1.2.2.2.1 (X.1.2.2.2.2 _ uc_X9_89) dX9_read_177 ?_
          refine lv_goto (tgt := 208) X.1.1 X.1.2.1 dX9_read_179 (by decide) ?_
          cases hf
          exact Jy28 _ _ _ hw (lv_sub hl [2, 3, 4, 5, 6, 7, 8, 9] rfl)
      clear hf
      have hf := ey24
      clear ey24
      refine lv_icmp_ne (tgt := 155) X.1.1 X.1.2.1 dX9_read_114 (by decide) (fun c_19 => ?_) (fun c_19 => ?_)
      · skip
        rw [if_pos c_19] at hf
        refine lv_iconst (v := (0 : Int32)) X.1.1 X.1.2.1 dX9_read_155 (by decide) ?_
        cases hf
        exact Jy24 _ _ _ hw (lv_sub hl [0, 1, 2, 3, 4, 5, 6, 7, 8] rfl)
      · skip
        rw [if_neg (fun z => z c_19)] at hf
        refine lv_iload X.1.1 X.1.2.1 dX9_read_117 (lv_at hl 0 rfl) ?_
        refine lv_aload_n X.1.1 X.1.2.1 dX9_read_119 rfl (lv_at hl 6 rfl) ?_
        refine r_getq (k := 9) (j := 1) X hw rfl inX9 g_a0 rfl (by decide) (by decide) uf_X9_13 rfl dX9_read_120 eq11 ?_
        refine lv_sipush (v := (404 : Int32)) X.1.1 X.1.2.1 dX9_read_123 (by decide) ?_
        refine lv_iload_n X.1.1 X.1.2.1 dX9_read_126 rfl (lv_at hl 7 rfl) ?_
        refine lv_imul X.1.1 X.1.2.1 dX9_read_127 ?_
        refine lv_iconst (v := (1 : Int32)) X.1.1 X.1.2.1 dX9_read_128 (by decide) ?_
        refine lv_iadd X.1.1 X.1.2.1 dX9_read_129 ?_
        obtain ⟨i_20, hf⟩ := ogd hf
        refine r_iald X hw g_q11 i_20 dX9_read_130 ?_
        refine lv_icmp_lt (tgt := 155) X.1.1 X.1.2.1 dX9_read_131 (by decide) (fun c_21 => ?_) (fun c_21 => ?_)
        · skip
          rw [if_pos c_21] at hf
          refine lv_iconst (v := (0 : Int32)) X.1.1 X.1.2.1 dX9_read_155 (by decide) ?_
          cases hf
          exact Jy24 _ _ _ hw (lv_sub hl [0, 1, 2, 3, 4, 5, 6, 7, 8] rfl)
        · skip
          rw [if_neg c_21] at hf
          refine lv_iload X.1.1 X.1.2.1 dX9_read_134 (lv_at hl 0 rfl) ?_
          refine lv_aload_n X.1.1 X.1.2.1 dX9_read_136 rfl (lv_at hl 6 rfl) ?_
          refine r_getq (k := 9) (j := 1) X hw rfl inX9 g_a0 rfl (by decide) (by decide) uf_X9_13 rfl dX9_read_137 eq11 ?_
          refine lv_sipush (v := (404 : Int32)) X.1.1 X.1.2.1 dX9_read_140 (by decide) ?_
          refine lv_iload_n X.1.1 X.1.2.1 dX9_read_143 rfl (lv_at hl 7 rfl) ?_
          refine lv_imul X.1.1 X.1.2.1 dX9_read_144 ?_
          refine lv_iconst (v := (2 : Int32)) X.1.1 X.1.2.1 dX9_read_145 (by decide) ?_
          refine lv_iadd X.1.1 X.1.2.1 dX9_read_146 ?_
          obtain ⟨i_22, hf⟩ := ogd hf
          refine r_iald X hw g_q11 i_22 dX9_read_147 ?_
          refine lv_icmp_gt (tgt := 155) X.1.1 X.1.2.1 dX9_read_148 (by decide) (fun c_23 => ?_) (fun c_23 => ?_)
          · skip
            rw [if_pos c_23] at hf
            refine lv_iconst (v := (0 : Int32)) X.1.1 X.1.2.1 dX9_read_155 (by decide) ?_
            cases hf
            exact Jy24 _ _ _ hw (lv_sub hl [0, 1, 2, 3, 4, 5, 6, 7, 8] rfl)
          · skip
            rw [if_neg c_23] at hf
            refine lv_iconst (v := (1 : Int32)) X.1.1 X.1.2.1 dX9_read_151 (by decide) ?_
            refine lv_goto (tgt := 156) X.1.1 X.1.2.1 dX9_read_152 (by decide) ?_
            cases hf
            exact Jy24 _ _ _ hw (lv_sub hl [0, 1, 2, 3, 4, 5, 6, 7, 8] rfl)
def f_X9_read (h : Hs) (a0 : Nat) (p1 : Int32) (p2 : Int32) (M : Mm) : Option (Int32 × Mm) :=
  gd (ok h a0 9) <|
  lt_ (sI M a0 0 (0 : Int32)) fun M1 =>
  lt_ (zI M1 a0 7) fun x2 =>
  lt_ (sI M1 a0 7 (0 : Int32)) fun M3 =>
  (f_X9_isOwn h a0 p1 M3).bind fun z4 =>
  if ¬ z4 = 0 then
    if p2 < 0 then
      some ((-2 : Int32), M3)
    else
      if p2 ≤ (5 : Int32) then
        (f_X9_sizeOf h p2 M3).bind fun z8 =>
        gd (¬ z8 = 0) <|
        lt_ (((x2 + z8) - (1 : Int32)) / z8) fun x10 =>
        dq (zR h a0 1) fun q11 =>
        gd (ok h q11 11) <|
        gd (inb (((404 : Int32) * p1) + (3 : Int32)) (zN h q11)) <|
        lt_ (zI M3 q11 (((404 : Int32) * p1) + (3 : Int32)).toNatClampNeg) fun x13 =>
        if (x13 + x10) ≤ (400 : Int32) then
          (f_X9_act h a0 M3).bind fun z15 =>
          (lp_X9_read_89 h x13 x10 z8 x2 p1 p2 a0 q11 fuel (0 : Int32) z15).bind fun z32 =>
          gd (inb (((404 : Int32) * p1) + (3 : Int32)) (zN h q11)) <|
          lt_ (sI z32.2 q11 (((404 : Int32) * p1) + (3 : Int32)).toNatClampNeg (x13 + x10)) fun M34 =>
          some (x13 + x10, M34)
        else
          some ((-3 : Int32), M3)
      else
        some ((-2 : Int32), M3)
  else
    some ((-1 : Int32), M3)
set_option maxHeartbeats 4000000 in
set_option maxRecDepth 100000 in
theorem c_X9_read {l : Launch} {D : va_G} {cy : Nat → ClassId} {h : Hs} {a0 : Nat} {p1 : Int32} {p2 : Int32} {M : Mm} {z : (Int32 × Mm)} (hf : f_X9_read h a0 p1 p2 M = some z) : CtI l D cy yX9_read (wu yX9_read cX9_read 10 (some .int)) ({ frames := 3, cells := 0, slots := 0, locals := 72 }) [.ref a0, .int p1, .int p2] h M z.1 z.2 := by
  refine enterI (cc := cX9_read) (maxL := 10) (ret := (some .int)) (by decide) (Nat.le_of_ble_eq_true rfl) ?_
  intro p e s m args below meth c A ls X hw hr hlk hl
  have hl : lv_has ls 10 [(0, .ref a0), (1, .int p1), (2, .int p2)] := hl
  unfold f_X9_read at hf
  refine lv_aload_n X.1.1 X.1.2.1 dX9_read_0 rfl (lv_at hl 0 rfl) ?_
  refine lv_iconst (v := (0 : Int32)) X.1.1 X.1.2.1 dX9_read_1 (by decide) ?_
  obtain ⟨g_a0, hf⟩ := ogd hf
  refine r_puti (k := 9) (j := 0) X hw rfl inX9 tyX9_ok nmX9 g_a0 rfl (by decide) (by decide) uf_X9_1 rfl rfl rfl rfl dX9_read_2 (fun H locs hw => ?_)
  obtain ⟨M1, eM1, hf⟩ := olt hf
  rw [← eM1] at hw
  refine lv_aload_n X.1.1 X.1.2.1 dX9_read_5 rfl (lv_at hl 0 rfl) ?_
  refine r_geti (k := 9) (j := 7) X hw rfl inX9 g_a0 rfl (by decide) (by decide) uf_X9_64 rfl dX9_read_6 ?_
  refine lv_topi (fun x2 ex2 => ?_)
  have hf := oltE ex2 hf
  refine lv_istore_n (lv' := [(3, .int x2), (0, .ref a0), (1, .int p1), (2, .int p2)]) X.1.1 X.1.2.1 dX9_read_9 rfl hl (by decide) rfl (fun ls hl => ?_)
  refine lv_aload_n X.1.1 X.1.2.1 dX9_read_10 rfl (lv_at hl 1 rfl) ?_
  refine lv_iconst (v := (0 : Int32)) X.1.1 X.1.2.1 dX9_read_11 (by decide) ?_
  refine r_puti (k := 9) (j := 7) X hw rfl inX9 tyX9_ok nmX9 g_a0 rfl (by decide) (by decide) uf_X9_64 rfl rfl rfl rfl dX9_read_12 (fun H locs hw => ?_)
  obtain ⟨M3, eM3, hf⟩ := olt hf
  rw [← eM3] at hw
  refine lv_aload_n X.1.1 X.1.2.1 dX9_read_15 rfl (lv_at hl 1 rfl) ?_
  refine lv_iload_n X.1.1 X.1.2.1 dX9_read_16 rfl (lv_at hl 2 rfl) ?_
  obtain ⟨z4, ez4, hf⟩ := obd hf
  refine r_callVI (As := [.int p1]) (rest := []) X hw (c_X9_isOwn ez4) (cwV 1 X.1.2.2.2.2 (guV um_X9_83 ui_X9_isOwn us_X9_isOwn un_X9 uo_X9_isOwn) rfl rfl rfl (by decide +kernel) ⟨Nat.le_of_ble_eq_true rfl, Nat.le_of_ble_eq_true rfl⟩) g_a0 (by decide) rfl rfl hl.1 rfl (Nat.le_of_ble_eq_true rfl) dX9_read_17 ⟨Nat.zero_le _, Nat.zero_le _⟩ (fun H locs hw => ?_)
  refine lv_if_ne (tgt := 25) X.1.1 X.1.2.1 dX9_read_20 (by decide) (fun c_5 => ?_) (fun c_5 => ?_)
  · skip
    rw [if_pos c_5] at hf
    refine lv_iload_n X.1.1 X.1.2.1 dX9_read_25 rfl (lv_at hl 3 rfl) ?_
    refine lv_if_lt (tgt := 34) X.1.1 X.1.2.1 dX9_read_26 (by decide) (fun c_6 => ?_) (fun c_6 => ?_)
    · skip
      rw [if_pos c_6] at hf
      refine lv_bipush (v := (-2 : Int32)) X.1.1 X.1.2.1 dX9_read_34 (by decide) ?_
      cases hf
      exact r_retI (v := (-2 : Int32)) X hw hr hlk rfl dX9_read_36
    · skip
      rw [if_neg c_6] at hf
      refine lv_iload_n X.1.1 X.1.2.1 dX9_read_29 rfl (lv_at hl 3 rfl) ?_
      refine lv_iconst (v := (5 : Int32)) X.1.1 X.1.2.1 dX9_read_30 (by decide) ?_
      refine lv_icmp_le (tgt := 37) X.1.1 X.1.2.1 dX9_read_31 (by decide) (fun c_7 => ?_) (fun c_7 => ?_)
      · skip
        rw [if_pos c_7] at hf
        refine lv_iload_n X.1.1 X.1.2.1 dX9_read_37 rfl (lv_at hl 3 rfl) ?_
        obtain ⟨z8, ez8, hf⟩ := obd hf
        refine r_callSI (As := [.int p2]) (rest := []) X hw (c_X9_sizeOf ez8) (va_cwS 1 X.1.2.2.2.2 (guS um_X9_98 ut_X9_sizeOf un_X9 uo_X9_sizeOf) rfl rfl rfl (by decide +kernel) ⟨Nat.le_of_ble_eq_true rfl, Nat.le_of_ble_eq_true rfl⟩) rfl hl.1 rfl (Nat.le_of_ble_eq_true rfl) dX9_read_38 ⟨Nat.zero_le _, Nat.zero_le _⟩ (fun H locs hw => ?_)
        refine lv_istore (lv' := [(4, .int z8), (3, .int x2), (0, .ref a0), (1, .int p1), (2, .int p2)]) X.1.1 X.1.2.1 dX9_read_41 hl (by decide) rfl (fun ls hl => ?_)
        refine lv_iload_n X.1.1 X.1.2.1 dX9_read_43 rfl (lv_at hl 1 rfl) ?_
        refine lv_iload X.1.1 X.1.2.1 dX9_read_44 (lv_at hl 0 rfl) ?_
        refine lv_iadd X.1.1 X.1.2.1 dX9_read_46 ?_
        refine lv_iconst (v := (1 : Int32)) X.1.1 X.1.2.1 dX9_read_47 (by decide) ?_
        refine lv_isub X.1.1 X.1.2.1 dX9_read_48 ?_
        refine lv_iload X.1.1 X.1.2.1 dX9_read_49 (lv_at hl 0 rfl) ?_
        obtain ⟨n_9, hf⟩ := ogd hf
        refine lv_idiv X.1.1 X.1.2.1 dX9_read_51 n_9 ?_
        refine lv_topi (fun x10 ex10 => ?_)
        have hf := oltE ex10 hf
        refine lv_istore (lv' := [(5, .int x10), (4, .int z8), (3, .int x2), (0, .ref a0), (1, .int p1), (2, .int p2)]) X.1.1 X.1.2.1 dX9_read_52 hl (by decide) rfl (fun ls hl => ?_)
        refine lv_aload_n X.1.1 X.1.2.1 dX9_read_54 rfl (lv_at hl 3 rfl) ?_
        obtain ⟨q11, eq11, hf⟩ := odq hf
        refine r_getq (k := 9) (j := 1) X hw rfl inX9 g_a0 rfl (by decide) (by decide) uf_X9_13 rfl dX9_read_55 eq11 ?_
        refine lv_sipush (v := (404 : Int32)) X.1.1 X.1.2.1 dX9_read_58 (by decide) ?_
        refine lv_iload_n X.1.1 X.1.2.1 dX9_read_61 rfl (lv_at hl 4 rfl) ?_
        refine lv_imul X.1.1 X.1.2.1 dX9_read_62 ?_
        refine lv_iconst (v := (3 : Int32)) X.1.1 X.1.2.1 dX9_read_63 (by decide) ?_
        refine lv_iadd X.1.1 X.1.2.1 dX9_read_64 ?_
        obtain ⟨g_q11, hf⟩ := ogd hf
        obtain ⟨i_12, hf⟩ := ogd hf
        refine r_iald X hw g_q11 i_12 dX9_read_65 ?_
        refine lv_topi (fun x13 ex13 => ?_)
        have hf := oltE ex13 hf
        refine lv_istore (lv' := [(6, .int x13), (5, .int x10), (4, .int z8), (3, .int x2), (0, .ref a0), (1, .int p1), (2, .int p2)]) X.1.1 X.1.2.1 dX9_read_66 hl (by decide) rfl (fun ls hl => ?_)
        refine lv_iload X.1.1 X.1.2.1 dX9_read_68 (lv_at hl 0 rfl) ?_
        refine lv_iload X.1.1 X.1.2.1 dX9_read_70 (lv_at hl 1 rfl) ?_
        refine lv_iadd X.1.1 X.1.2.1 dX9_read_72 ?_
        refine lv_sipush (v := (400 : Int32)) X.1.1 X.1.2.1 dX9_read_73 (by decide) ?_
        refine lv_icmp_le (tgt := 82) X.1.1 X.1.2.1 dX9_read_76 (by decide) (fun c_14 => ?_) (fun c_14 => ?_)
        · skip
          rw [if_pos c_14] at hf
          refine lv_aload_n X.1.1 X.1.2.1 dX9_read_82 rfl (lv_at hl 4 rfl) ?_
          obtain ⟨z15, ez15, hf⟩ := obd hf
          refine r_callVV (As := []) (rest := []) X hw (c_X9_act ez15) (cwV 0 X.1.2.2.2.2 (guV um_X9_76 ui_X9_act us_X9_act un_X9 uo_X9_act) rfl rfl rfl (by decide +kernel) ⟨Nat.le_of_ble_eq_true rfl, Nat.le_of_ble_eq_true rfl⟩) g_a0 (by decide) rfl rfl hl.1 rfl (Nat.le_of_ble_eq_true rfl) dX9_read_83 ⟨Nat.zero_le _, Nat.zero_le _⟩ (fun H locs hw => ?_)
          refine lv_iconst (v := (0 : Int32)) X.1.1 X.1.2.1 dX9_read_86 (by decide) ?_
          refine lv_istore (lv' := [(7, .int (0 : Int32)), (6, .int x13), (5, .int x10), (4, .int z8), (3, .int x2), (0, .ref a0), (1, .int p1), (2, .int p2)]) X.1.1 X.1.2.1 dX9_read_87 hl (by decide) rfl (fun ls hl => ?_)
          obtain ⟨z32, ez32, hf⟩ := obd hf
          refine wlp_X9_read_89 X g_a0 g_q11 eq11 fuel _ _ _ _ _ _ ez32 hw (lv_sub hl [0, 1, 2, 3, 4, 5, 6, 7] rfl) (fun x ex H locs ls hw hl => ?_)
          subst ex
          refine lv_aload_n X.1.1 X.1.2.1 dX9_read_215 rfl (lv_at hl 5 rfl) ?_
          refine r_getq (k := 9) (j := 1) X hw rfl inX9 g_a0 rfl (by decide) (by decide) uf_X9_13 rfl dX9_read_216 eq11 ?_
          refine lv_sipush (v := (404 : Int32)) X.1.1 X.1.2.1 dX9_read_219 (by decide) ?_
          refine lv_iload_n X.1.1 X.1.2.1 dX9_read_222 rfl (lv_at hl 6 rfl) ?_
          refine lv_imul X.1.1 X.1.2.1 dX9_read_223 ?_
          refine lv_iconst (v := (3 : Int32)) X.1.1 X.1.2.1 dX9_read_224 (by decide) ?_
          refine lv_iadd X.1.1 X.1.2.1 dX9_read_225 ?_
          refine lv_iload X.1.1 X.1.2.1 dX9_read_226 (lv_at hl 1 rfl) ?_
          refine lv_iload X.1.1 X.1.2.1 dX9_read_228 (lv_at hl 2 rfl) ?_
          refine lv_iadd X.1.1 X.1.2.1 dX9_read_230 ?_
          obtain ⟨i_33, hf⟩ := ogd hf
          refine r_iast X hw g_q11 i_33 dX9_read_231 (fun H locs hw => ?_)
          obtain ⟨M34, eM34, hf⟩ := olt hf
          rw [← eM34] at hw
          refine lv_iload X.1.1 X.1.2.1 dX9_read_232 (lv_at hl 1 rfl) ?_
          refine lv_iload X.1.1 X.1.2.1 dX9_read_234 (lv_at hl 2 rfl) ?_
          refine lv_iadd X.1.1 X.1.2.1 dX9_read_236 ?_
          cases hf
          exact r_retI (v := x13 + x10) X hw hr hlk rfl dX9_read_237
        · skip
          rw [if_neg c_14] at hf
          refine lv_bipush (v := (-3 : Int32)) X.1.1 X.1.2.1 dX9_read_79 (by decide) ?_
          cases hf
          exact r_retI (v := (-3 : Int32)) X hw hr hlk rfl dX9_read_81
      · skip
        rw [if_neg c_7] at hf
        refine lv_bipush (v := (-2 : Int32)) X.1.1 X.1.2.1 dX9_read_34 (by decide) ?_
        cases hf
        exact r_retI (v := (-2 : Int32)) X hw hr hlk rfl dX9_read_36
  · skip
    rw [if_neg (fun z => z c_5)] at hf
    refine lv_iconst (v := (-1 : Int32)) X.1.1 X.1.2.1 dX9_read_23 (by decide) ?_
    cases hf
    exact r_retI (v := (-1 : Int32)) X hw hr hlk rfl dX9_read_24
/-! X9_tear -/
def lp_X9_tear_43 (h : Hs) (w1 : Int32) (w3 : Int32) (a0 : Nat) : Nat → Int32 → Int32 → Mm → Option (Int32 × Int32 × Mm)
  | 0, _, _, _ => none
  | n + 1, v4, v5, M =>
    if w3 < v5 then
      some (v4, v5, M)
    else
      dq (zR h a0 1) fun q10 =>
      gd (ok h q10 11) <|
      gd (inb ((((404 : Int32) * w1) + (4 : Int32)) + v5) (zN h q10)) <|
      lt_ (zI M q10 ((((404 : Int32) * w1) + (4 : Int32)) + v5).toNatClampNeg) fun x12 =>
      Option.bind (
        if (2000000 : Int32) ≤ x12 then
          some (0 : Int32)
        else
          some (1 : Int32)
        ) fun y14 =>
      lt_ (v4 + y14) fun x15 =>
      Option.bind (
        if x12 = (3000000 : Int32) then
          some M
        else
          gd (inb ((((404 : Int32) * w1) + (4 : Int32)) + v5) (zN h q10)) <|
          lt_ (sI M q10 ((((404 : Int32) * w1) + (4 : Int32)) + v5).toNatClampNeg (2000000 : Int32)) fun M18 =>
          some M18
        ) fun y19 =>
      lt_ (v5 + (1 : Int32)) fun x20 =>
      lp_X9_tear_43 h w1 w3 a0 n x15 x20 y19
set_option maxHeartbeats 4000000 in
set_option maxRecDepth 100000 in
theorem wlp_X9_tear_43 {l : Launch} {D : va_G} {cy : Nat → ClassId} {h : Hs} {w1 : Int32} {w3 : Int32} {a0 : Nat} {p : Program} {e : Env} {s : State} {m : MethodId} {args : Array Value} {below : List Frame} {meth : Method} {c : Code} {A : Nat → Prop} (X : Cx p s m args c cX9_tear 7 gtbl RX9 D cy A) {Q : State → Prop} (g_a0 : ok h a0 9) : ∀ (n : Nat) (v4 : Int32) (v5 : Int32) (M : Mm) (z : (Int32 × Int32 × Mm)) (H : Heap) (locs : List Loc) (ls : Array Slot), lp_X9_tear_43 h w1 w3 a0 n v4 v5 M = some z → Wd D cy A s.heap h M H locs → lv_has ls 7 [(4, .int v4), (5, .int v5), (0, .ref a0), (1, .int w1), (3, .int w3)] → (∀ x : (Int32 × Int32 × Mm), z = x → ∀ (H : Heap) (locs : List Loc) (ls : Array Slot), Wd D cy A s.heap h x.2.2 H locs → lv_has ls 7 [(4, .int x.1), (5, .int x.2.1), (0, .ref a0), (1, .int w1), (3, .int w3)] → W p l e ({ frames := 4, cells := 0, slots := 0, locals := 87 } : Room) s m args below meth c H locs 0 0 Q (F0 m 113 ls [])) → W p l e ({ frames := 4, cells := 0, slots := 0, locals := 87 } : Room) s m args below meth c H locs 0 0 Q (F0 m 43 ls []) := by
  intro n
  induction n with
  | zero => intro v4 v5 M z H locs ls hf hw hl kx; exact absurd hf (by intro q; cases q)
  | succ n ih =>
    intro v4 v5 M z H locs ls hf hw hl kx
    unfold lp_X9_tear_43 at hf
    refine lv_iload X.1.1 X.1.2.1 dX9_tear_43 (lv_at hl 1 rfl) ?_
    refine lv_iload_n X.1.1 X.1.2.1 dX9_tear_45 rfl (lv_at hl 4 rfl) ?_
    refine lv_icmp_gt (tgt := 113) X.1.1 X.1.2.1 dX9_tear_46 (by decide) (fun c_9 => ?_) (fun c_9 => ?_)
    · skip
      rw [if_pos c_9] at hf
      cases hf
      exact kx _ rfl _ _ _ hw (lv_sub hl [0, 1, 2, 3, 4] rfl)
    · skip
      rw [if_neg c_9] at hf
      refine lv_aload_n X.1.1 X.1.2.1 dX9_tear_49 rfl (lv_at hl 2 rfl) ?_
      obtain ⟨q10, eq10, hf⟩ := odq hf
      refine r_getq (k := 9) (j := 1) X hw rfl inX9 g_a0 rfl (by decide) (by decide) uf_X9_13 rfl dX9_tear_50 eq10 ?_
      refine lv_sipush (v := (404 : Int32)) X.1.1 X.1.2.1 dX9_tear_53 (by decide) ?_
      refine lv_iload_n X.1.1 X.1.2.1 dX9_tear_56 rfl (lv_at hl 3 rfl) ?_
      refine lv_imul X.1.1 X.1.2.1 dX9_tear_57 ?_
      refine lv_iconst (v := (4 : Int32)) X.1.1 X.1.2.1 dX9_tear_58 (by decide) ?_
      refine lv_iadd X.1.1 X.1.2.1 dX9_tear_59 ?_
      refine lv_iload X.1.1 X.1.2.1 dX9_tear_60 (lv_at hl 1 rfl) ?_
      refine lv_iadd X.1.1 X.1.2.1 dX9_tear_62 ?_
      obtain ⟨g_q10, hf⟩ := ogd hf
      obtain ⟨i_11, hf⟩ := ogd hf
      refine r_iald X hw g_q10 i_11 dX9_tear_63 ?_
      refine lv_topi (fun x12 ex12 => ?_)
      have hf := oltE ex12 hf
      refine lv_istore (lv' := [(6, .int x12), (4, .int v4), (5, .int v5), (0, .ref a0), (1, .int w1), (3, .int w3)]) X.1.1 X.1.2.1 dX9_tear_64 hl (by decide) rfl (fun ls hl => ?_)
      refine lv_iload X.1.1 X.1.2.1 dX9_tear_66 (lv_at hl 1 rfl) ?_
      refine lv_iload X.1.1 X.1.2.1 dX9_tear_68 (lv_at hl 0 rfl) ?_
      refine lv_ldc (v := (2000000 : Int32)) X.1.1 X.1.2.1 X.1.2.2.2.1 (X.1.2.2.2.2 _ uc_X9_86) dX9_tear_70 ?_
      obtain ⟨y14, ey14, hf⟩ := obd hf
      have Jy14 : ∀ (H : Heap) (locs : List Loc) (ls : Array Slot), Wd D cy A s.heap h M H locs → lv_has ls 7 [(6, .int x12), (5, .int v5), (0, .ref a0), (1, .int w1), (3, .int w3)] → W p l e ({ frames := 4, cells := 0, slots := 0, locals := 87 } : Room) s m args below meth c H locs 0 0 Q (F0 m 80 ls [.int y14, .int v4]) := by
        intro H locs ls hw hl
        refine lv_iadd X.1.1 X.1.2.1 dX9_tear_80 ?_
        refine lv_topi (fun x15 ex15 => ?_)
        have hf := oltE ex15 hf
        refine lv_istore (lv' := [(4, .int x15), (6, .int x12), (5, .int v5), (0, .ref a0), (1, .int w1), (3, .int w3)]) X.1.1 X.1.2.1 dX9_tear_81 hl (by decide) rfl (fun ls hl => ?_)
        refine lv_iload X.1.1 X.1.2.1 dX9_tear_83 (lv_at hl 1 rfl) ?_
        refine lv_ldc (v := (3000000 : Int32)) X.1.1 X.1.2.1 X.1.2.2.2.1 (X.1.2.2.2.2 _ uc_X9_89) dX9_tear_85 ?_
        obtain ⟨y19, ey19, hf⟩ := obd hf
        have Jy19 : ∀ (H : Heap) (locs : List Loc) (ls : Array Slot), Wd D cy A s.heap h y19 H locs → lv_has ls 7 [(4, .int x15), (5, .int v5), (0, .ref a0), (1, .int w1), (3, .int w3)] → W p l e ({ frames := 4, cells := 0, slots := 0, locals := 87 } : Room) s m args below meth c H locs 0 0 Q (F0 m 107 ls []) := by
          intro H locs ls hw hl
          obtain ⟨x20, ex20, hf⟩ := olt hf
          refine lv_iinc (v := x20) (lv' := [(5, .int x20), (4, .int x15), (0, .ref a0), (1, .int w1), (3, .int w3)]) X.1.1 X.1.2.1 dX9_tear_107 hl (k := 1) rfl (by rw [ex20]; rfl) (by decide) rfl (fun ls hl => ?_)
          refine lv_goto (tgt := 43) X.1.1 X.1.2.1 dX9_tear_110 (by decide) ?_
          exact ih _ _ _ _ _ _ _ hf hw (lv_sub hl [1, 0, 2, 3, 4] rfl) kx
        clear hf
        have hf := ey19
        clear ey19
        refine lv_icmp_eq (tgt := 107) X.1.1 X.1.2.1 dX9_tear_87 (by decide) (fun c_16 => ?_) (fun c_16 => ?_)
        · skip
          rw [if_pos c_16] at hf
          cases hf
          exact Jy19 _ _ _ hw (lv_sub hl [0, 2, 3, 4, 5] rfl)
        · skip
          rw [if_neg c_16] at hf
          refine lv_aload_n X.1.1 X.1.2.1 dX9_tear_90 rfl (lv_at hl 3 rfl) ?_
          refine r_getq (k := 9) (j := 1) X hw rfl inX9 g_a0 rfl (by decide) (by decide) uf_X9_13 rfl dX9_tear_91 eq10 ?_
          refine lv_sipush (v := (404 : Int32)) X.1.1 X.1.2.1 dX9_tear_94 (by decide) ?_
          refine lv_iload_n X.1.1 X.1.2.1 dX9_tear_97 rfl (lv_at hl 4 rfl) ?_
          refine lv_imul X.1.1 X.1.2.1 dX9_tear_98 ?_
          refine lv_iconst (v := (4 : Int32)) X.1.1 X.1.2.1 dX9_tear_99 (by decide) ?_
          refine lv_iadd X.1.1 X.1.2.1 dX9_tear_100 ?_
          refine lv_iload X.1.1 X.1.2.1 dX9_tear_101 (lv_at hl 2 rfl) ?_
          refine lv_iadd X.1.1 X.1.2.1 dX9_tear_103 ?_
          refine lv_ldc (v := (2000000 : Int32)) X.1.1 X.1.2.1 X.1.2.2.2.1 (X.1.2.2.2.2 _ uc_X9_86) dX9_tear_104 ?_
          obtain ⟨i_17, hf⟩ := ogd hf
          refine r_iast X hw g_q10 i_17 dX9_tear_106 (fun H locs hw => ?_)
          obtain ⟨M18, eM18, hf⟩ := olt hf
          rw [← eM18] at hw
          cases hf
          exact Jy19 _ _ _ hw (lv_sub hl [0, 2, 3, 4, 5] rfl)
      clear hf
      have hf := ey14
      clear ey14
      refine lv_icmp_ge (tgt := 79) X.1.1 X.1.2.1 dX9_tear_72 (by decide) (fun c_13 => ?_) (fun c_13 => ?_)
      · skip
        rw [if_pos c_13] at hf
        refine lv_iconst (v := (0 : Int32)) X.1.1 X.1.2.1 dX9_tear_79 (by decide) ?_
        cases hf
        exact Jy14 _ _ _ hw (lv_sub hl [0, 2, 3, 4, 5] rfl)
      · skip
        rw [if_neg c_13] at hf
        refine lv_iconst (v := (1 : Int32)) X.1.1 X.1.2.1 dX9_tear_75 (by decide) ?_
        refine lv_goto (tgt := 80) X.1.1 X.1.2.1 dX9_tear_76 (by decide) ?_
        cases hf
        exact Jy14 _ _ _ hw (lv_sub hl [0, 2, 3, 4, 5] rfl)
def f_X9_tear (h : Hs) (a0 : Nat) (p1 : Int32) (p2 : Int32) (p3 : Int32) (M : Mm) : Option (Int32 × Mm) :=
  gd (ok h a0 9) <|
  lt_ (sI M a0 0 (0 : Int32)) fun M1 =>
  (f_X9_isOwn h a0 p1 M1).bind fun z2 =>
  if z2 = 0 then
    some ((-1 : Int32), M1)
  else
    if p2 < 0 then
      some ((-1 : Int32), M1)
    else
      if p3 < p2 then
        some ((-1 : Int32), M1)
      else
        (f_X9_spans h a0 p1 M1).bind fun z6 =>
        if p3 < z6 then
          (f_X9_act h a0 M1).bind fun z8 =>
          (lp_X9_tear_43 h p1 p3 a0 fuel (0 : Int32) p2 z8).bind fun z21 =>
          some (z21.1, z21.2.2)
        else
          some ((-1 : Int32), M1)
set_option maxHeartbeats 4000000 in
set_option maxRecDepth 100000 in
theorem c_X9_tear {l : Launch} {D : va_G} {cy : Nat → ClassId} {h : Hs} {a0 : Nat} {p1 : Int32} {p2 : Int32} {p3 : Int32} {M : Mm} {z : (Int32 × Mm)} (hf : f_X9_tear h a0 p1 p2 p3 M = some z) : CtI l D cy yX9_tear (wu yX9_tear cX9_tear 7 (some .int)) ({ frames := 4, cells := 0, slots := 0, locals := 87 }) [.ref a0, .int p1, .int p2, .int p3] h M z.1 z.2 := by
  refine enterI (cc := cX9_tear) (maxL := 7) (ret := (some .int)) (by decide) (Nat.le_of_ble_eq_true rfl) ?_
  intro p e s m args below meth c A ls X hw hr hlk hl
  have hl : lv_has ls 7 [(0, .ref a0), (1, .int p1), (2, .int p2), (3, .int p3)] := hl
  unfold f_X9_tear at hf
  refine lv_aload_n X.1.1 X.1.2.1 dX9_tear_0 rfl (lv_at hl 0 rfl) ?_
  refine lv_iconst (v := (0 : Int32)) X.1.1 X.1.2.1 dX9_tear_1 (by decide) ?_
  obtain ⟨g_a0, hf⟩ := ogd hf
  refine r_puti (k := 9) (j := 0) X hw rfl inX9 tyX9_ok nmX9 g_a0 rfl (by decide) (by decide) uf_X9_1 rfl rfl rfl rfl dX9_tear_2 (fun H locs hw => ?_)
  obtain ⟨M1, eM1, hf⟩ := olt hf
  rw [← eM1] at hw
  refine lv_aload_n X.1.1 X.1.2.1 dX9_tear_5 rfl (lv_at hl 0 rfl) ?_
  refine lv_iload_n X.1.1 X.1.2.1 dX9_tear_6 rfl (lv_at hl 1 rfl) ?_
  obtain ⟨z2, ez2, hf⟩ := obd hf
  refine r_callVI (As := [.int p1]) (rest := []) X hw (c_X9_isOwn ez2) (cwV 1 X.1.2.2.2.2 (guV um_X9_83 ui_X9_isOwn us_X9_isOwn un_X9 uo_X9_isOwn) rfl rfl rfl (by decide +kernel) ⟨Nat.le_of_ble_eq_true rfl, Nat.le_of_ble_eq_true rfl⟩) g_a0 (by decide) rfl rfl hl.1 rfl (Nat.le_of_ble_eq_true rfl) dX9_tear_7 ⟨Nat.zero_le _, Nat.zero_le _⟩ (fun H locs hw => ?_)
  refine lv_if_eq (tgt := 31) X.1.1 X.1.2.1 dX9_tear_10 (by decide) (fun c_3 => ?_) (fun c_3 => ?_)
  · skip
    rw [if_pos c_3] at hf
    refine lv_iconst (v := (-1 : Int32)) X.1.1 X.1.2.1 dX9_tear_31 (by decide) ?_
    cases hf
    exact r_retI (v := (-1 : Int32)) X hw hr hlk rfl dX9_tear_32
  · skip
    rw [if_neg c_3] at hf
    refine lv_iload_n X.1.1 X.1.2.1 dX9_tear_13 rfl (lv_at hl 2 rfl) ?_
    refine lv_if_lt (tgt := 31) X.1.1 X.1.2.1 dX9_tear_14 (by decide) (fun c_4 => ?_) (fun c_4 => ?_)
    · skip
      rw [if_pos c_4] at hf
      refine lv_iconst (v := (-1 : Int32)) X.1.1 X.1.2.1 dX9_tear_31 (by decide) ?_
      cases hf
      exact r_retI (v := (-1 : Int32)) X hw hr hlk rfl dX9_tear_32
    · skip
      rw [if_neg c_4] at hf
      refine lv_iload_n X.1.1 X.1.2.1 dX9_tear_17 rfl (lv_at hl 2 rfl) ?_
      refine lv_iload_n X.1.1 X.1.2.1 dX9_tear_18 rfl (lv_at hl 3 rfl) ?_
      refine lv_icmp_gt (tgt := 31) X.1.1 X.1.2.1 dX9_tear_19 (by decide) (fun c_5 => ?_) (fun c_5 => ?_)
      · skip
        rw [if_pos c_5] at hf
        refine lv_iconst (v := (-1 : Int32)) X.1.1 X.1.2.1 dX9_tear_31 (by decide) ?_
        cases hf
        exact r_retI (v := (-1 : Int32)) X hw hr hlk rfl dX9_tear_32
      · skip
        rw [if_neg c_5] at hf
        refine lv_iload_n X.1.1 X.1.2.1 dX9_tear_22 rfl (lv_at hl 3 rfl) ?_
        refine lv_aload_n X.1.1 X.1.2.1 dX9_tear_23 rfl (lv_at hl 0 rfl) ?_
        refine lv_iload_n X.1.1 X.1.2.1 dX9_tear_24 rfl (lv_at hl 1 rfl) ?_
        obtain ⟨z6, ez6, hf⟩ := obd hf
        refine r_callVI (As := [.int p1]) (rest := [.int p3]) X hw (c_X9_spans ez6) (cwV 1 X.1.2.2.2.2 (guV um_X9_121 ui_X9_spans us_X9_spans un_X9 uo_X9_spans) rfl rfl rfl (by decide +kernel) ⟨Nat.le_of_ble_eq_true rfl, Nat.le_of_ble_eq_true rfl⟩) g_a0 (by decide) rfl rfl hl.1 rfl (Nat.le_of_ble_eq_true rfl) dX9_tear_25 ⟨Nat.zero_le _, Nat.zero_le _⟩ (fun H locs hw => ?_)
        refine lv_icmp_lt (tgt := 33) X.1.1 X.1.2.1 dX9_tear_28 (by decide) (fun c_7 => ?_) (fun c_7 => ?_)
        · skip
          rw [if_pos c_7] at hf
          refine lv_aload_n X.1.1 X.1.2.1 dX9_tear_33 rfl (lv_at hl 0 rfl) ?_
          obtain ⟨z8, ez8, hf⟩ := obd hf
          refine r_callVV (As := []) (rest := []) X hw (c_X9_act ez8) (cwV 0 X.1.2.2.2.2 (guV um_X9_76 ui_X9_act us_X9_act un_X9 uo_X9_act) rfl rfl rfl (by decide +kernel) ⟨Nat.le_of_ble_eq_true rfl, Nat.le_of_ble_eq_true rfl⟩) g_a0 (by decide) rfl rfl hl.1 rfl (Nat.le_of_ble_eq_true rfl) dX9_tear_34 ⟨Nat.zero_le _, Nat.zero_le _⟩ (fun H locs hw => ?_)
          refine lv_iconst (v := (0 : Int32)) X.1.1 X.1.2.1 dX9_tear_37 (by decide) ?_
          refine lv_istore (lv' := [(4, .int (0 : Int32)), (0, .ref a0), (1, .int p1), (2, .int p2), (3, .int p3)]) X.1.1 X.1.2.1 dX9_tear_38 hl (by decide) rfl (fun ls hl => ?_)
          refine lv_iload_n X.1.1 X.1.2.1 dX9_tear_40 rfl (lv_at hl 3 rfl) ?_
          refine lv_istore (lv' := [(5, .int p2), (4, .int (0 : Int32)), (0, .ref a0), (1, .int p1), (2, .int p2), (3, .int p3)]) X.1.1 X.1.2.1 dX9_tear_41 hl (by decide) rfl (fun ls hl => ?_)
          obtain ⟨z21, ez21, hf⟩ := obd hf
          refine wlp_X9_tear_43 X g_a0 fuel _ _ _ _ _ _ _ ez21 hw (lv_sub hl [1, 0, 2, 3, 5] rfl) (fun x ex H locs ls hw hl => ?_)
          subst ex
          refine lv_iload X.1.1 X.1.2.1 dX9_tear_113 (lv_at hl 0 rfl) ?_
          cases hf
          exact r_retI (v := z21.1) X hw hr hlk rfl dX9_tear_115
        · skip
          rw [if_neg c_7] at hf
          refine lv_iconst (v := (-1 : Int32)) X.1.1 X.1.2.1 dX9_tear_31 (by decide) ?_
          cases hf
          exact r_retI (v := (-1 : Int32)) X hw hr hlk rfl dX9_tear_32
/-! X9_fill -/
def f_X9_fill (h : Hs) (a0 : Nat) (p1 : Int32) (p2 : Int32) (p3 : Int32) (M : Mm) : Option (Int32 × Mm) :=
  gd (ok h a0 9) <|
  lt_ (sI M a0 0 (0 : Int32)) fun M1 =>
  (f_X9_isOwn h a0 p1 M1).bind fun z2 =>
  if z2 = 0 then
    some ((0 : Int32), M1)
  else
    if p2 < 0 then
      some ((0 : Int32), M1)
    else
      (f_X9_spans h a0 p1 M1).bind fun z5 =>
      if z5 ≤ p2 then
        some ((0 : Int32), M1)
      else
        dq (zR h a0 1) fun q7 =>
        gd (ok h q7 11) <|
        gd (inb ((((404 : Int32) * p1) + (4 : Int32)) + p2) (zN h q7)) <|
        if ¬ (zI M1 q7 ((((404 : Int32) * p1) + (4 : Int32)) + p2).toNatClampNeg) = (2000000 : Int32) then
          some ((0 : Int32), M1)
        else
          if p3 < (-1000000 : Int32) then
            some ((0 : Int32), M1)
          else
            if p3 ≤ (1000000 : Int32) then
              (f_X9_act h a0 M1).bind fun z12 =>
              gd (inb ((((404 : Int32) * p1) + (4 : Int32)) + p2) (zN h q7)) <|
              lt_ (sI z12 q7 ((((404 : Int32) * p1) + (4 : Int32)) + p2).toNatClampNeg p3) fun M14 =>
              some ((1 : Int32), M14)
            else
              some ((0 : Int32), M1)
set_option maxHeartbeats 4000000 in
set_option maxRecDepth 100000 in
theorem c_X9_fill {l : Launch} {D : va_G} {cy : Nat → ClassId} {h : Hs} {a0 : Nat} {p1 : Int32} {p2 : Int32} {p3 : Int32} {M : Mm} {z : (Int32 × Mm)} (hf : f_X9_fill h a0 p1 p2 p3 M = some z) : CtI l D cy yX9_fill (wu yX9_fill cX9_fill 4 (some .boolean)) ({ frames := 4, cells := 0, slots := 0, locals := 87 }) [.ref a0, .int p1, .int p2, .int p3] h M z.1 z.2 := by
  refine enterI (cc := cX9_fill) (maxL := 4) (ret := (some .boolean)) (by decide) (Nat.le_of_ble_eq_true rfl) ?_
  intro p e s m args below meth c A ls X hw hr hlk hl
  have hl : lv_has ls 4 [(0, .ref a0), (1, .int p1), (2, .int p2), (3, .int p3)] := hl
  unfold f_X9_fill at hf
  refine lv_aload_n X.1.1 X.1.2.1 dX9_fill_0 rfl (lv_at hl 0 rfl) ?_
  refine lv_iconst (v := (0 : Int32)) X.1.1 X.1.2.1 dX9_fill_1 (by decide) ?_
  obtain ⟨g_a0, hf⟩ := ogd hf
  refine r_puti (k := 9) (j := 0) X hw rfl inX9 tyX9_ok nmX9 g_a0 rfl (by decide) (by decide) uf_X9_1 rfl rfl rfl rfl dX9_fill_2 (fun H locs hw => ?_)
  obtain ⟨M1, eM1, hf⟩ := olt hf
  rw [← eM1] at hw
  refine lv_aload_n X.1.1 X.1.2.1 dX9_fill_5 rfl (lv_at hl 0 rfl) ?_
  refine lv_iload_n X.1.1 X.1.2.1 dX9_fill_6 rfl (lv_at hl 1 rfl) ?_
  obtain ⟨z2, ez2, hf⟩ := obd hf
  refine r_callVI (As := [.int p1]) (rest := []) X hw (c_X9_isOwn ez2) (cwV 1 X.1.2.2.2.2 (guV um_X9_83 ui_X9_isOwn us_X9_isOwn un_X9 uo_X9_isOwn) rfl rfl rfl (by decide +kernel) ⟨Nat.le_of_ble_eq_true rfl, Nat.le_of_ble_eq_true rfl⟩) g_a0 (by decide) rfl rfl hl.1 rfl (Nat.le_of_ble_eq_true rfl) dX9_fill_7 ⟨Nat.zero_le _, Nat.zero_le _⟩ (fun H locs hw => ?_)
  refine lv_if_eq (tgt := 57) X.1.1 X.1.2.1 dX9_fill_10 (by decide) (fun c_3 => ?_) (fun c_3 => ?_)
  · skip
    rw [if_pos c_3] at hf
    refine lv_iconst (v := (0 : Int32)) X.1.1 X.1.2.1 dX9_fill_57 (by decide) ?_
    cases hf
    exact r_retI (v := (0 : Int32)) X hw hr hlk rfl dX9_fill_58
  · skip
    rw [if_neg c_3] at hf
    refine lv_iload_n X.1.1 X.1.2.1 dX9_fill_13 rfl (lv_at hl 2 rfl) ?_
    refine lv_if_lt (tgt := 57) X.1.1 X.1.2.1 dX9_fill_14 (by decide) (fun c_4 => ?_) (fun c_4 => ?_)
    · skip
      rw [if_pos c_4] at hf
      refine lv_iconst (v := (0 : Int32)) X.1.1 X.1.2.1 dX9_fill_57 (by decide) ?_
      cases hf
      exact r_retI (v := (0 : Int32)) X hw hr hlk rfl dX9_fill_58
    · skip
      rw [if_neg c_4] at hf
      refine lv_iload_n X.1.1 X.1.2.1 dX9_fill_17 rfl (lv_at hl 2 rfl) ?_
      refine lv_aload_n X.1.1 X.1.2.1 dX9_fill_18 rfl (lv_at hl 0 rfl) ?_
      refine lv_iload_n X.1.1 X.1.2.1 dX9_fill_19 rfl (lv_at hl 1 rfl) ?_
      obtain ⟨z5, ez5, hf⟩ := obd hf
      refine r_callVI (As := [.int p1]) (rest := [.int p2]) X hw (c_X9_spans ez5) (cwV 1 X.1.2.2.2.2 (guV um_X9_121 ui_X9_spans us_X9_spans un_X9 uo_X9_spans) rfl rfl rfl (by decide +kernel) ⟨Nat.le_of_ble_eq_true rfl, Nat.le_of_ble_eq_true rfl⟩) g_a0 (by decide) rfl rfl hl.1 rfl (Nat.le_of_ble_eq_true rfl) dX9_fill_20 ⟨Nat.zero_le _, Nat.zero_le _⟩ (fun H locs hw => ?_)
      refine lv_icmp_ge (tgt := 57) X.1.1 X.1.2.1 dX9_fill_23 (by decide) (fun c_6 => ?_) (fun c_6 => ?_)
      · skip
        rw [if_pos c_6] at hf
        refine lv_iconst (v := (0 : Int32)) X.1.1 X.1.2.1 dX9_fill_57 (by decide) ?_
        cases hf
        exact r_retI (v := (0 : Int32)) X hw hr hlk rfl dX9_fill_58
      · skip
        rw [if_neg c_6] at hf
        refine lv_aload_n X.1.1 X.1.2.1 dX9_fill_26 rfl (lv_at hl 0 rfl) ?_
        obtain ⟨q7, eq7, hf⟩ := odq hf
        refine r_getq (k := 9) (j := 1) X hw rfl inX9 g_a0 rfl (by decide) (by decide) uf_X9_13 rfl dX9_fill_27 eq7 ?_
        refine lv_sipush (v := (404 : Int32)) X.1.1 X.1.2.1 dX9_fill_30 (by decide) ?_
        refine lv_iload_n X.1.1 X.1.2.1 dX9_fill_33 rfl (lv_at hl 1 rfl) ?_
        refine lv_imul X.1.1 X.1.2.1 dX9_fill_34 ?_
        refine lv_iconst (v := (4 : Int32)) X.1.1 X.1.2.1 dX9_fill_35 (by decide) ?_
        refine lv_iadd X.1.1 X.1.2.1 dX9_fill_36 ?_
        refine lv_iload_n X.1.1 X.1.2.1 dX9_fill_37 rfl (lv_at hl 2 rfl) ?_
        refine lv_iadd X.1.1 X.1.2.1 dX9_fill_38 ?_
        obtain ⟨g_q7, hf⟩ := ogd hf
        obtain ⟨i_8, hf⟩ := ogd hf
        refine r_iald X hw g_q7 i_8 dX9_fill_39 ?_
        refine lv_ldc (v := (2000000 : Int32)) X.1.1 X.1.2.1 X.1.2.2.2.1 (X.1.2.2.2.2 _ uc_X9_86) dX9_fill_40 ?_
        refine lv_icmp_ne (tgt := 57) X.1.1 X.1.2.1 dX9_fill_42 (by decide) (fun c_9 => ?_) (fun c_9 => ?_)
        · skip
          rw [if_pos c_9] at hf
          refine lv_iconst (v := (0 : Int32)) X.1.1 X.1.2.1 dX9_fill_57 (by decide) ?_
          cases hf
          exact r_retI (v := (0 : Int32)) X hw hr hlk rfl dX9_fill_58
        · skip
          rw [if_neg (fun z => z c_9)] at hf
          refine lv_iload_n X.1.1 X.1.2.1 dX9_fill_45 rfl (lv_at hl 3 rfl) ?_
          refine lv_ldc (v := (-1000000 : Int32)) X.1.1 X.1.2.1 X.1.2.2.2.1 (X.1.2.2.2.2 _ uc_X9_88) dX9_fill_46 ?_
          refine lv_icmp_lt (tgt := 57) X.1.1 X.1.2.1 dX9_fill_48 (by decide) (fun c_10 => ?_) (fun c_10 => ?_)
          · skip
            rw [if_pos c_10] at hf
            refine lv_iconst (v := (0 : Int32)) X.1.1 X.1.2.1 dX9_fill_57 (by decide) ?_
            cases hf
            exact r_retI (v := (0 : Int32)) X hw hr hlk rfl dX9_fill_58
          · skip
            rw [if_neg c_10] at hf
            refine lv_iload_n X.1.1 X.1.2.1 dX9_fill_51 rfl (lv_at hl 3 rfl) ?_
            refine lv_ldc (v := (1000000 : Int32)) X.1.1 X.1.2.1 X.1.2.2.2.1 (X.1.2.2.2.2 _ uc_X9_87) dX9_fill_52 ?_
            refine lv_icmp_le (tgt := 59) X.1.1 X.1.2.1 dX9_fill_54 (by decide) (fun c_11 => ?_) (fun c_11 => ?_)
            · skip
              rw [if_pos c_11] at hf
              refine lv_aload_n X.1.1 X.1.2.1 dX9_fill_59 rfl (lv_at hl 0 rfl) ?_
              obtain ⟨z12, ez12, hf⟩ := obd hf
              refine r_callVV (As := []) (rest := []) X hw (c_X9_act ez12) (cwV 0 X.1.2.2.2.2 (guV um_X9_76 ui_X9_act us_X9_act un_X9 uo_X9_act) rfl rfl rfl (by decide +kernel) ⟨Nat.le_of_ble_eq_true rfl, Nat.le_of_ble_eq_true rfl⟩) g_a0 (by decide) rfl rfl hl.1 rfl (Nat.le_of_ble_eq_true rfl) dX9_fill_60 ⟨Nat.zero_le _, Nat.zero_le _⟩ (fun H locs hw => ?_)
              refine lv_aload_n X.1.1 X.1.2.1 dX9_fill_63 rfl (lv_at hl 0 rfl) ?_
              refine r_getq (k := 9) (j := 1) X hw rfl inX9 g_a0 rfl (by decide) (by decide) uf_X9_13 rfl dX9_fill_64 eq7 ?_
              refine lv_sipush (v := (404 : Int32)) X.1.1 X.1.2.1 dX9_fill_67 (by decide) ?_
              refine lv_iload_n X.1.1 X.1.2.1 dX9_fill_70 rfl (lv_at hl 1 rfl) ?_
              refine lv_imul X.1.1 X.1.2.1 dX9_fill_71 ?_
              refine lv_iconst (v := (4 : Int32)) X.1.1 X.1.2.1 dX9_fill_72 (by decide) ?_
              refine lv_iadd X.1.1 X.1.2.1 dX9_fill_73 ?_
              refine lv_iload_n X.1.1 X.1.2.1 dX9_fill_74 rfl (lv_at hl 2 rfl) ?_
              refine lv_iadd X.1.1 X.1.2.1 dX9_fill_75 ?_
              refine lv_iload_n X.1.1 X.1.2.1 dX9_fill_76 rfl (lv_at hl 3 rfl) ?_
              obtain ⟨i_13, hf⟩ := ogd hf
              refine r_iast X hw g_q7 i_13 dX9_fill_77 (fun H locs hw => ?_)
              obtain ⟨M14, eM14, hf⟩ := olt hf
              rw [← eM14] at hw
              refine lv_iconst (v := (1 : Int32)) X.1.1 X.1.2.1 dX9_fill_78 (by decide) ?_
              cases hf
              exact r_retI (v := (1 : Int32)) X hw hr hlk rfl dX9_fill_79
            · skip
              rw [if_neg c_11] at hf
              refine lv_iconst (v := (0 : Int32)) X.1.1 X.1.2.1 dX9_fill_57 (by decide) ?_
              cases hf
              exact r_retI (v := (0 : Int32)) X hw hr hlk rfl dX9_fill_58
/-! X9_turnsOf -/
def lp_X9_turnsOf_37 (h : Hs) (w4 : Int32) (w5 : Int32) (w2 : Int32) (p1 : Nat) (p3 : Nat) (M : Mm) : Nat → Int32 → Option Int32
  | 0, _ => none
  | n + 1, v6 =>
    if w2 ≤ v6 then
      some v6
    else
      gd (ok h p1 11) <|
      gd (inb v6 (zN h p1)) <|
      gd (inb w5 (zN h p1)) <|
      if ¬ (zI M p1 v6.toNatClampNeg) = (zI M p1 w5.toNatClampNeg) then
        some v6
      else
        lt_ (v6 + (1 : Int32)) fun x7 =>
        lp_X9_turnsOf_37 h w4 w5 w2 p1 p3 M n x7
set_option maxHeartbeats 4000000 in
set_option maxRecDepth 100000 in
theorem wlp_X9_turnsOf_37 {l : Launch} {D : va_G} {cy : Nat → ClassId} {h : Hs} {w4 : Int32} {w5 : Int32} {w2 : Int32} {p1 : Nat} {p3 : Nat} {M : Mm} {p : Program} {e : Env} {s : State} {m : MethodId} {args : Array Value} {below : List Frame} {meth : Method} {c : Code} {A : Nat → Prop} (X : Cx p s m args c cX9_turnsOf 10 gtbl RX9 D cy A) {Q : State → Prop} : ∀ (n : Nat) (v6 : Int32) (z : Int32) (H : Heap) (locs : List Loc) (ls : Array Slot), lp_X9_turnsOf_37 h w4 w5 w2 p1 p3 M n v6 = some z → Wd D cy A s.heap h M H locs → lv_has ls 10 [(6, .int v6), (4, .int w4), (5, .int w5), (1, .ref p1), (2, .int w2), (3, .ref p3)] → (∀ x : Int32, z = x → ∀ (H : Heap) (locs : List Loc) (ls : Array Slot), Wd D cy A s.heap h M H locs → lv_has ls 10 [(6, .int x), (4, .int w4), (5, .int w5), (1, .ref p1), (2, .int w2), (3, .ref p3)] → W p l e ({ frames := 0, cells := 0, slots := 0, locals := 0 } : Room) s m args below meth c H locs 0 0 Q (F0 m 60 ls [])) → W p l e ({ frames := 0, cells := 0, slots := 0, locals := 0 } : Room) s m args below meth c H locs 0 0 Q (F0 m 37 ls []) := by
  intro n
  induction n with
  | zero => intro v6 z H locs ls hf hw hl kx; exact absurd hf (by intro q; cases q)
  | succ n ih =>
    intro v6 z H locs ls hf hw hl kx
    unfold lp_X9_turnsOf_37 at hf
    refine lv_iload X.1.1 X.1.2.1 dX9_turnsOf_37 (lv_at hl 0 rfl) ?_
    refine lv_iload_n X.1.1 X.1.2.1 dX9_turnsOf_39 rfl (lv_at hl 4 rfl) ?_
    refine lv_icmp_ge (tgt := 60) X.1.1 X.1.2.1 dX9_turnsOf_40 (by decide) (fun c_3 => ?_) (fun c_3 => ?_)
    · skip
      rw [if_pos c_3] at hf
      cases hf
      exact kx _ rfl _ _ _ hw (lv_sub hl [0, 1, 2, 3, 4, 5] rfl)
    · skip
      rw [if_neg c_3] at hf
      refine lv_aload_n X.1.1 X.1.2.1 dX9_turnsOf_43 rfl (lv_at hl 3 rfl) ?_
      refine lv_iload X.1.1 X.1.2.1 dX9_turnsOf_44 (lv_at hl 0 rfl) ?_
      obtain ⟨g_p1, hf⟩ := ogd hf
      obtain ⟨i_4, hf⟩ := ogd hf
      refine r_iald X hw g_p1 i_4 dX9_turnsOf_46 ?_
      refine lv_aload_n X.1.1 X.1.2.1 dX9_turnsOf_47 rfl (lv_at hl 3 rfl) ?_
      refine lv_iload X.1.1 X.1.2.1 dX9_turnsOf_48 (lv_at hl 2 rfl) ?_
      obtain ⟨i_5, hf⟩ := ogd hf
      refine r_iald X hw g_p1 i_5 dX9_turnsOf_50 ?_
      refine lv_icmp_ne (tgt := 60) X.1.1 X.1.2.1 dX9_turnsOf_51 (by decide) (fun c_6 => ?_) (fun c_6 => ?_)
      · skip
        rw [if_pos c_6] at hf
        cases hf
        exact kx _ rfl _ _ _ hw (lv_sub hl [0, 1, 2, 3, 4, 5] rfl)
      · skip
        rw [if_neg (fun z => z c_6)] at hf
        obtain ⟨x7, ex7, hf⟩ := olt hf
        refine lv_iinc (v := x7) (lv' := [(6, .int x7), (4, .int w4), (5, .int w5), (1, .ref p1), (2, .int w2), (3, .ref p3)]) X.1.1 X.1.2.1 dX9_turnsOf_54 hl (k := 0) rfl (by rw [ex7]; rfl) (by decide) rfl (fun ls hl => ?_)
        refine lv_goto (tgt := 37) X.1.1 X.1.2.1 dX9_turnsOf_57 (by decide) ?_
        exact ih _ _ _ _ _ hf hw (lv_sub hl [0, 1, 2, 3, 4, 5] rfl) kx
def lp_X9_turnsOf_37b (h : Hs) (w4 : Int32) (w5 : Int32) (w2 : Int32) (p1 : Nat) (p3 : Nat) (M : Mm) : Nat → Int32 → Option Int32
  | 0, _ => none
  | n + 1, v6 =>
    if w2 ≤ v6 then
      some v6
    else
      gd (inb v6 (zN h p1)) <|
      gd (inb w5 (zN h p1)) <|
      if ¬ (zI M p1 v6.toNatClampNeg) = (zI M p1 w5.toNatClampNeg) then
        some v6
      else
        lt_ (v6 + (1 : Int32)) fun x52 =>
        lp_X9_turnsOf_37b h w4 w5 w2 p1 p3 M n x52
set_option maxHeartbeats 4000000 in
set_option maxRecDepth 100000 in
theorem wlp_X9_turnsOf_37b {l : Launch} {D : va_G} {cy : Nat → ClassId} {h : Hs} {w4 : Int32} {w5 : Int32} {w2 : Int32} {p1 : Nat} {p3 : Nat} {M : Mm} {p : Program} {e : Env} {s : State} {m : MethodId} {args : Array Value} {below : List Frame} {meth : Method} {c : Code} {A : Nat → Prop} (X : Cx p s m args c cX9_turnsOf 10 gtbl RX9 D cy A) {Q : State → Prop} (g_p1 : ok h p1 11) : ∀ (n : Nat) (v6 : Int32) (z : Int32) (H : Heap) (locs : List Loc) (ls : Array Slot), lp_X9_turnsOf_37b h w4 w5 w2 p1 p3 M n v6 = some z → Wd D cy A s.heap h M H locs → lv_has ls 10 [(6, .int v6), (4, .int w4), (5, .int w5), (1, .ref p1), (2, .int w2), (3, .ref p3)] → (∀ x : Int32, z = x → ∀ (H : Heap) (locs : List Loc) (ls : Array Slot), Wd D cy A s.heap h M H locs → lv_has ls 10 [(6, .int x), (4, .int w4), (5, .int w5), (1, .ref p1), (2, .int w2), (3, .ref p3)] → W p l e ({ frames := 0, cells := 0, slots := 0, locals := 0 } : Room) s m args below meth c H locs 0 0 Q (F0 m 60 ls [])) → W p l e ({ frames := 0, cells := 0, slots := 0, locals := 0 } : Room) s m args below meth c H locs 0 0 Q (F0 m 37 ls []) := by
  intro n
  induction n with
  | zero => intro v6 z H locs ls hf hw hl kx; exact absurd hf (by intro q; cases q)
  | succ n ih =>
    intro v6 z H locs ls hf hw hl kx
    unfold lp_X9_turnsOf_37b at hf
    refine lv_iload X.1.1 X.1.2.1 dX9_turnsOf_37 (lv_at hl 0 rfl) ?_
    refine lv_iload_n X.1.1 X.1.2.1 dX9_turnsOf_39 rfl (lv_at hl 4 rfl) ?_
    refine lv_icmp_ge (tgt := 60) X.1.1 X.1.2.1 dX9_turnsOf_40 (by decide) (fun c_48 => ?_) (fun c_48 => ?_)
    · skip
      rw [if_pos c_48] at hf
      cases hf
      exact kx _ rfl _ _ _ hw (lv_sub hl [0, 1, 2, 3, 4, 5] rfl)
    · skip
      rw [if_neg c_48] at hf
      refine lv_aload_n X.1.1 X.1.2.1 dX9_turnsOf_43 rfl (lv_at hl 3 rfl) ?_
      refine lv_iload X.1.1 X.1.2.1 dX9_turnsOf_44 (lv_at hl 0 rfl) ?_
      obtain ⟨i_49, hf⟩ := ogd hf
      refine r_iald X hw g_p1 i_49 dX9_turnsOf_46 ?_
      refine lv_aload_n X.1.1 X.1.2.1 dX9_turnsOf_47 rfl (lv_at hl 3 rfl) ?_
      refine lv_iload X.1.1 X.1.2.1 dX9_turnsOf_48 (lv_at hl 2 rfl) ?_
      obtain ⟨i_50, hf⟩ := ogd hf
      refine r_iald X hw g_p1 i_50 dX9_turnsOf_50 ?_
      refine lv_icmp_ne (tgt := 60) X.1.1 X.1.2.1 dX9_turnsOf_51 (by decide) (fun c_51 => ?_) (fun c_51 => ?_)
      · skip
        rw [if_pos c_51] at hf
        cases hf
        exact kx _ rfl _ _ _ hw (lv_sub hl [0, 1, 2, 3, 4, 5] rfl)
      · skip
        rw [if_neg (fun z => z c_51)] at hf
        obtain ⟨x52, ex52, hf⟩ := olt hf
        refine lv_iinc (v := x52) (lv' := [(6, .int x52), (4, .int w4), (5, .int w5), (1, .ref p1), (2, .int w2), (3, .ref p3)]) X.1.1 X.1.2.1 dX9_turnsOf_54 hl (k := 0) rfl (by rw [ex52]; rfl) (by decide) rfl (fun ls hl => ?_)
        refine lv_goto (tgt := 37) X.1.1 X.1.2.1 dX9_turnsOf_57 (by decide) ?_
        exact ih _ _ _ _ _ hf hw (lv_sub hl [0, 1, 2, 3, 4, 5] rfl) kx
def lp_X9_turnsOf_6 (h : Hs) (w2 : Int32) (p1 : Nat) (p3 : Nat) : Nat → Int32 → Int32 → Mm → Option (Int32 × Int32 × Mm)
  | 0, _, _, _ => none
  | n + 1, v4, v5, M =>
    if w2 ≤ v5 then
      some (v4, v5, M)
    else
      if v5 ≤ 0 then
        (lp_X9_turnsOf_37 h v4 v5 w2 p1 p3 M fuel v5).bind fun z8 =>
        Option.bind (
          if v4 = 0 then
            some (1 : Int32)
          else
            if ¬ z8 = w2 then
              some (0 : Int32)
            else
              some (1 : Int32)
          ) fun y11 =>
        Option.bind (
          if ¬ y11 = 0 then
            some (0 : Int32)
          else
            gd (ok h p1 11) <|
            gd (inb v5 (zN h p1)) <|
            gd (inb (v5 - (1 : Int32)) (zN h p1)) <|
            if (zI M p1 v5.toNatClampNeg) ≤ (zI M p1 (v5 - (1 : Int32)).toNatClampNeg) then
              some (0 : Int32)
            else
              gd (inb v5 (zN h p1)) <|
              gd (inb z8 (zN h p1)) <|
              if (zI M p1 v5.toNatClampNeg) ≤ (zI M p1 z8.toNatClampNeg) then
                some (0 : Int32)
              else
                some (1 : Int32)
          ) fun y19 =>
        Option.bind (
          if ¬ y11 = 0 then
            some (0 : Int32)
          else
            gd (ok h p1 11) <|
            gd (inb v5 (zN h p1)) <|
            gd (inb (v5 - (1 : Int32)) (zN h p1)) <|
            if (zI M p1 (v5 - (1 : Int32)).toNatClampNeg) ≤ (zI M p1 v5.toNatClampNeg) then
              some (0 : Int32)
            else
              gd (inb v5 (zN h p1)) <|
              gd (inb z8 (zN h p1)) <|
              if (zI M p1 z8.toNatClampNeg) ≤ (zI M p1 v5.toNatClampNeg) then
                some (0 : Int32)
              else
                some (1 : Int32)
          ) fun y27 =>
        Option.bind (
          if ¬ y11 = 0 then
            gd (ok h p1 11) <|
            gd (inb v5 (zN h p1)) <|
            gd (ok h p3 11) <|
            gd (inb v4 (zN h p3)) <|
            lt_ (sI M p3 v4.toNatClampNeg (zI M p1 v5.toNatClampNeg)) fun M31 =>
            lt_ (v4 + (1 : Int32)) fun x32 =>
            some (x32, M31)
          else
            if ¬ y19 = 0 then
              gd (ok h p1 11) <|
              gd (inb v5 (zN h p1)) <|
              gd (ok h p3 11) <|
              gd (inb v4 (zN h p3)) <|
              lt_ (sI M p3 v4.toNatClampNeg (zI M p1 v5.toNatClampNeg)) fun M36 =>
              lt_ (v4 + (1 : Int32)) fun x37 =>
              some (x37, M36)
            else
              if ¬ y27 = 0 then
                gd (ok h p1 11) <|
                gd (inb v5 (zN h p1)) <|
                gd (ok h p3 11) <|
                gd (inb v4 (zN h p3)) <|
                lt_ (sI M p3 v4.toNatClampNeg (zI M p1 v5.toNatClampNeg)) fun M41 =>
                lt_ (v4 + (1 : Int32)) fun x42 =>
                some (x42, M41)
              else
                some (v4, M)
          ) fun y43 =>
        lt_ (v5 + (1 : Int32)) fun x44 =>
        lp_X9_turnsOf_6 h w2 p1 p3 n y43.1 x44 y43.2
      else
        gd (ok h p1 11) <|
        gd (inb v5 (zN h p1)) <|
        gd (inb (v5 - (1 : Int32)) (zN h p1)) <|
        if ¬ (zI M p1 v5.toNatClampNeg) = (zI M p1 (v5 - (1 : Int32)).toNatClampNeg) then
          (lp_X9_turnsOf_37b h v4 v5 w2 p1 p3 M fuel v5).bind fun z53 =>
          Option.bind (
            if v4 = 0 then
              some (1 : Int32)
            else
              if ¬ z53 = w2 then
                some (0 : Int32)
              else
                some (1 : Int32)
            ) fun y56 =>
          Option.bind (
            if ¬ y56 = 0 then
              some (0 : Int32)
            else
              gd (inb v5 (zN h p1)) <|
              gd (inb (v5 - (1 : Int32)) (zN h p1)) <|
              if (zI M p1 v5.toNatClampNeg) ≤ (zI M p1 (v5 - (1 : Int32)).toNatClampNeg) then
                some (0 : Int32)
              else
                gd (inb v5 (zN h p1)) <|
                gd (inb z53 (zN h p1)) <|
                if (zI M p1 v5.toNatClampNeg) ≤ (zI M p1 z53.toNatClampNeg) then
                  some (0 : Int32)
                else
                  some (1 : Int32)
            ) fun y64 =>
          Option.bind (
            if ¬ y56 = 0 then
              some (0 : Int32)
            else
              gd (inb v5 (zN h p1)) <|
              gd (inb (v5 - (1 : Int32)) (zN h p1)) <|
              if (zI M p1 (v5 - (1 : Int32)).toNatClampNeg) ≤ (zI M p1 v5.toNatClampNeg) then
                some (0 : Int32)
              else
                gd (inb v5 (zN h p1)) <|
                gd (inb z53 (zN h p1)) <|
                if (zI M p1 z53.toNatClampNeg) ≤ (zI M p1 v5.toNatClampNeg) then
                  some (0 : Int32)
                else
                  some (1 : Int32)
            ) fun y72 =>
          Option.bind (
            if ¬ y56 = 0 then
              gd (inb v5 (zN h p1)) <|
              gd (ok h p3 11) <|
              gd (inb v4 (zN h p3)) <|
              lt_ (sI M p3 v4.toNatClampNeg (zI M p1 v5.toNatClampNeg)) fun M76 =>
              lt_ (v4 + (1 : Int32)) fun x77 =>
              some (x77, M76)
            else
              if ¬ y64 = 0 then
                gd (inb v5 (zN h p1)) <|
                gd (ok h p3 11) <|
                gd (inb v4 (zN h p3)) <|
                lt_ (sI M p3 v4.toNatClampNeg (zI M p1 v5.toNatClampNeg)) fun M81 =>
                lt_ (v4 + (1 : Int32)) fun x82 =>
                some (x82, M81)
              else
                if ¬ y72 = 0 then
                  gd (inb v5 (zN h p1)) <|
                  gd (ok h p3 11) <|
                  gd (inb v4 (zN h p3)) <|
                  lt_ (sI M p3 v4.toNatClampNeg (zI M p1 v5.toNatClampNeg)) fun M86 =>
                  lt_ (v4 + (1 : Int32)) fun x87 =>
                  some (x87, M86)
                else
                  some (v4, M)
            ) fun y88 =>
          lt_ (v5 + (1 : Int32)) fun x89 =>
          lp_X9_turnsOf_6 h w2 p1 p3 n y88.1 x89 y88.2
        else
          lt_ (v5 + (1 : Int32)) fun x90 =>
          lp_X9_turnsOf_6 h w2 p1 p3 n v4 x90 M
set_option maxHeartbeats 4000000 in
set_option maxRecDepth 100000 in
theorem wlp_X9_turnsOf_6 {l : Launch} {D : va_G} {cy : Nat → ClassId} {h : Hs} {w2 : Int32} {p1 : Nat} {p3 : Nat} {p : Program} {e : Env} {s : State} {m : MethodId} {args : Array Value} {below : List Frame} {meth : Method} {c : Code} {A : Nat → Prop} (X : Cx p s m args c cX9_turnsOf 10 gtbl RX9 D cy A) {Q : State → Prop} : ∀ (n : Nat) (v4 : Int32) (v5 : Int32) (M : Mm) (z : (Int32 × Int32 × Mm)) (H : Heap) (locs : List Loc) (ls : Array Slot), lp_X9_turnsOf_6 h w2 p1 p3 n v4 v5 M = some z → Wd D cy A s.heap h M H locs → lv_has ls 10 [(4, .int v4), (5, .int v5), (1, .ref p1), (2, .int w2), (3, .ref p3)] → (∀ x : (Int32 × Int32 × Mm), z = x → ∀ (H : Heap) (locs : List Loc) (ls : Array Slot), Wd D cy A s.heap h x.2.2 H locs → lv_has ls 10 [(4, .int x.1), (5, .int x.2.1), (1, .ref p1), (2, .int w2), (3, .ref p3)] → W p l e ({ frames := 0, cells := 0, slots := 0, locals := 0 } : Room) s m args below meth c H locs 0 0 Q (F0 m 185 ls [])) → W p l e ({ frames := 0, cells := 0, slots := 0, locals := 0 } : Room) s m args below meth c H locs 0 0 Q (F0 m 6 ls []) := by
  intro n
  induction n with
  | zero => intro v4 v5 M z H locs ls hf hw hl kx; exact absurd hf (by intro q; cases q)
  | succ n ih =>
    intro v4 v5 M z H locs ls hf hw hl kx
    unfold lp_X9_turnsOf_6 at hf
    refine lv_iload X.1.1 X.1.2.1 dX9_turnsOf_6 (lv_at hl 1 rfl) ?_
    refine lv_iload_n X.1.1 X.1.2.1 dX9_turnsOf_8 rfl (lv_at hl 3 rfl) ?_
    refine lv_icmp_ge (tgt := 185) X.1.1 X.1.2.1 dX9_turnsOf_9 (by decide) (fun c_1 => ?_) (fun c_1 => ?_)
    · skip
      rw [if_pos c_1] at hf
      cases hf
      exact kx _ rfl _ _ _ hw (lv_sub hl [0, 1, 2, 3, 4] rfl)
    · skip
      rw [if_neg c_1] at hf
      refine lv_iload X.1.1 X.1.2.1 dX9_turnsOf_12 (lv_at hl 1 rfl) ?_
      refine lv_if_le (tgt := 33) X.1.1 X.1.2.1 dX9_turnsOf_14 (by decide) (fun c_2 => ?_) (fun c_2 => ?_)
      · skip
        rw [if_pos c_2] at hf
        refine lv_iload X.1.1 X.1.2.1 dX9_turnsOf_33 (lv_at hl 1 rfl) ?_
        refine lv_istore (lv' := [(6, .int v5), (4, .int v4), (5, .int v5), (1, .ref p1), (2, .int w2), (3, .ref p3)]) X.1.1 X.1.2.1 dX9_turnsOf_35 hl (by decide) rfl (fun ls hl => ?_)
        obtain ⟨z8, ez8, hf⟩ := obd hf
        refine wlp_X9_turnsOf_37 X fuel _ _ _ _ _ ez8 hw (lv_sub hl [0, 1, 2, 3, 4, 5] rfl) (fun x ex H locs ls hw hl => ?_)
        subst ex
        refine lv_iload X.1.1 X.1.2.1 dX9_turnsOf_60 (lv_at hl 1 rfl) ?_
        obtain ⟨y11, ey11, hf⟩ := obd hf
        have Jy11 : ∀ (H : Heap) (locs : List Loc) (ls : Array Slot), Wd D cy A s.heap h M H locs → lv_has ls 10 [(6, .int z8), (4, .int v4), (5, .int v5), (1, .ref p1), (2, .int w2), (3, .ref p3)] → W p l e ({ frames := 0, cells := 0, slots := 0, locals := 0 } : Room) s m args below meth c H locs 0 0 Q (F0 m 76 ls [.int y11]) := by
          intro H locs ls hw hl
          refine lv_istore (lv' := [(7, .int y11), (6, .int z8), (4, .int v4), (5, .int v5), (1, .ref p1), (2, .int w2), (3, .ref p3)]) X.1.1 X.1.2.1 dX9_turnsOf_76 hl (by decide) rfl (fun ls hl => ?_)
          refine lv_iload X.1.1 X.1.2.1 dX9_turnsOf_78 (lv_at hl 0 rfl) ?_
          obtain ⟨y19, ey19, hf⟩ := obd hf
          have Jy19 : ∀ (H : Heap) (locs : List Loc) (ls : Array Slot), Wd D cy A s.heap h M H locs → lv_has ls 10 [(7, .int y11), (6, .int z8), (4, .int v4), (5, .int v5), (1, .ref p1), (2, .int w2), (3, .ref p3)] → W p l e ({ frames := 0, cells := 0, slots := 0, locals := 0 } : Room) s m args below meth c H locs 0 0 Q (F0 m 112 ls [.int y19]) := by
            intro H locs ls hw hl
            refine lv_istore (lv' := [(8, .int y19), (7, .int y11), (6, .int z8), (4, .int v4), (5, .int v5), (1, .ref p1), (2, .int w2), (3, .ref p3)]) X.1.1 X.1.2.1 dX9_turnsOf_112 hl (by decide) rfl (fun ls hl => ?_)
            refine lv_iload X.1.1 X.1.2.1 dX9_turnsOf_114 (lv_at hl 1 rfl) ?_
            obtain ⟨y27, ey27, hf⟩ := obd hf
            have Jy27 : ∀ (H : Heap) (locs : List Loc) (ls : Array Slot), Wd D cy A s.heap h M H locs → lv_has ls 10 [(8, .int y19), (7, .int y11), (4, .int v4), (5, .int v5), (1, .ref p1), (2, .int w2), (3, .ref p3)] → W p l e ({ frames := 0, cells := 0, slots := 0, locals := 0 } : Room) s m args below meth c H locs 0 0 Q (F0 m 148 ls [.int y27]) := by
              intro H locs ls hw hl
              refine lv_istore (lv' := [(9, .int y27), (8, .int y19), (7, .int y11), (4, .int v4), (5, .int v5), (1, .ref p1), (2, .int w2), (3, .ref p3)]) X.1.1 X.1.2.1 dX9_turnsOf_148 hl (by decide) rfl (fun ls hl => ?_)
              refine lv_iload X.1.1 X.1.2.1 dX9_turnsOf_150 (lv_at hl 2 rfl) ?_
              obtain ⟨y43, ey43, hf⟩ := obd hf
              have Jy43 : ∀ (H : Heap) (locs : List Loc) (ls : Array Slot), Wd D cy A s.heap h y43.2 H locs → lv_has ls 10 [(4, .int y43.1), (5, .int v5), (1, .ref p1), (2, .int w2), (3, .ref p3)] → W p l e ({ frames := 0, cells := 0, slots := 0, locals := 0 } : Room) s m args below meth c H locs 0 0 Q (F0 m 179 ls []) := by
                intro H locs ls hw hl
                obtain ⟨x44, ex44, hf⟩ := olt hf
                refine lv_iinc (v := x44) (lv' := [(5, .int x44), (4, .int y43.1), (1, .ref p1), (2, .int w2), (3, .ref p3)]) X.1.1 X.1.2.1 dX9_turnsOf_179 hl (k := 1) rfl (by rw [ex44]; rfl) (by decide) rfl (fun ls hl => ?_)
                refine lv_goto (tgt := 6) X.1.1 X.1.2.1 dX9_turnsOf_182 (by decide) ?_
                exact ih _ _ _ _ _ _ _ hf hw (lv_sub hl [1, 0, 2, 3, 4] rfl) kx
              clear hf
              have hf := ey43
              clear ey43
              refine lv_if_ne (tgt := 168) X.1.1 X.1.2.1 dX9_turnsOf_152 (by decide) (fun c_28 => ?_) (fun c_28 => ?_)
              · skip
                rw [if_pos c_28] at hf
                refine lv_aload_n X.1.1 X.1.2.1 dX9_turnsOf_168 rfl (lv_at hl 7 rfl) ?_
                refine lv_iload X.1.1 X.1.2.1 dX9_turnsOf_169 (lv_at hl 3 rfl) ?_
                refine lv_aload_n X.1.1 X.1.2.1 dX9_turnsOf_171 rfl (lv_at hl 5 rfl) ?_
                refine lv_iload X.1.1 X.1.2.1 dX9_turnsOf_172 (lv_at hl 4 rfl) ?_
                obtain ⟨g_p1, hf⟩ := ogd hf
                obtain ⟨i_29, hf⟩ := ogd hf
                refine r_iald X hw g_p1 i_29 dX9_turnsOf_174 ?_
                obtain ⟨g_p3, hf⟩ := ogd hf
                obtain ⟨i_30, hf⟩ := ogd hf
                refine r_iast X hw g_p3 i_30 dX9_turnsOf_175 (fun H locs hw => ?_)
                obtain ⟨M31, eM31, hf⟩ := olt hf
                rw [← eM31] at hw
                obtain ⟨x32, ex32, hf⟩ := olt hf
                refine lv_iinc (v := x32) (lv' := [(4, .int x32), (9, .int y27), (8, .int y19), (7, .int y11), (5, .int v5), (1, .ref p1), (2, .int w2), (3, .ref p3)]) X.1.1 X.1.2.1 dX9_turnsOf_176 hl (k := 3) rfl (by rw [ex32]; rfl) (by decide) rfl (fun ls hl => ?_)
                cases hf
                exact Jy43 _ _ _ hw (lv_sub hl [0, 4, 5, 6, 7] rfl)
              · skip
                rw [if_neg (fun z => z c_28)] at hf
                refine lv_iload X.1.1 X.1.2.1 dX9_turnsOf_155 (lv_at hl 1 rfl) ?_
                refine lv_if_ne (tgt := 168) X.1.1 X.1.2.1 dX9_turnsOf_157 (by decide) (fun c_33 => ?_) (fun c_33 => ?_)
                · skip
                  rw [if_pos c_33] at hf
                  refine lv_aload_n X.1.1 X.1.2.1 dX9_turnsOf_168 rfl (lv_at hl 7 rfl) ?_
                  refine lv_iload X.1.1 X.1.2.1 dX9_turnsOf_169 (lv_at hl 3 rfl) ?_
                  refine lv_aload_n X.1.1 X.1.2.1 dX9_turnsOf_171 rfl (lv_at hl 5 rfl) ?_
                  refine lv_iload X.1.1 X.1.2.1 dX9_turnsOf_172 (lv_at hl 4 rfl) ?_
                  obtain ⟨g_p1, hf⟩ := ogd hf
                  obtain ⟨i_34, hf⟩ := ogd hf
                  refine r_iald X hw g_p1 i_34 dX9_turnsOf_174 ?_
                  obtain ⟨g_p3, hf⟩ := ogd hf
                  obtain ⟨i_35, hf⟩ := ogd hf
                  refine r_iast X hw g_p3 i_35 dX9_turnsOf_175 (fun H locs hw => ?_)
                  obtain ⟨M36, eM36, hf⟩ := olt hf
                  rw [← eM36] at hw
                  obtain ⟨x37, ex37, hf⟩ := olt hf
                  refine lv_iinc (v := x37) (lv' := [(4, .int x37), (9, .int y27), (8, .int y19), (7, .int y11), (5, .int v5), (1, .ref p1), (2, .int w2), (3, .ref p3)]) X.1.1 X.1.2.1 dX9_turnsOf_176 hl (k := 3) rfl (by rw [ex37]; rfl) (by decide) rfl (fun ls hl => ?_)
                  cases hf
                  exact Jy43 _ _ _ hw (lv_sub hl [0, 4, 5, 6, 7] rfl)
                · skip
                  rw [if_neg (fun z => z c_33)] at hf
                  refine lv_iload X.1.1 X.1.2.1 dX9_turnsOf_160 (lv_at hl 0 rfl) ?_
                  refine lv_if_ne (tgt := 168) X.1.1 X.1.2.1 dX9_turnsOf_162 (by decide) (fun c_38 => ?_) (fun c_38 => ?_)
                  · skip
                    rw [if_pos c_38] at hf
                    refine lv_aload_n X.1.1 X.1.2.1 dX9_turnsOf_168 rfl (lv_at hl 7 rfl) ?_
                    refine lv_iload X.1.1 X.1.2.1 dX9_turnsOf_169 (lv_at hl 3 rfl) ?_
                    refine lv_aload_n X.1.1 X.1.2.1 dX9_turnsOf_171 rfl (lv_at hl 5 rfl) ?_
                    refine lv_iload X.1.1 X.1.2.1 dX9_turnsOf_172 (lv_at hl 4 rfl) ?_
                    obtain ⟨g_p1, hf⟩ := ogd hf
                    obtain ⟨i_39, hf⟩ := ogd hf
                    refine r_iald X hw g_p1 i_39 dX9_turnsOf_174 ?_
                    obtain ⟨g_p3, hf⟩ := ogd hf
                    obtain ⟨i_40, hf⟩ := ogd hf
                    refine r_iast X hw g_p3 i_40 dX9_turnsOf_175 (fun H locs hw => ?_)
                    obtain ⟨M41, eM41, hf⟩ := olt hf
                    rw [← eM41] at hw
                    obtain ⟨x42, ex42, hf⟩ := olt hf
                    refine lv_iinc (v := x42) (lv' := [(4, .int x42), (9, .int y27), (8, .int y19), (7, .int y11), (5, .int v5), (1, .ref p1), (2, .int w2), (3, .ref p3)]) X.1.1 X.1.2.1 dX9_turnsOf_176 hl (k := 3) rfl (by rw [ex42]; rfl) (by decide) rfl (fun ls hl => ?_)
                    cases hf
                    exact Jy43 _ _ _ hw (lv_sub hl [0, 4, 5, 6, 7] rfl)
                  · skip
                    rw [if_neg (fun z => z c_38)] at hf
                    refine lv_goto (tgt := 179) X.1.1 X.1.2.1 dX9_turnsOf_165 (by decide) ?_
                    cases hf
                    exact Jy43 _ _ _ hw (lv_sub hl [3, 4, 5, 6, 7] rfl)
            clear hf
            have hf := ey27
            clear ey27
            refine lv_if_ne (tgt := 147) X.1.1 X.1.2.1 dX9_turnsOf_116 (by decide) (fun c_20 => ?_) (fun c_20 => ?_)
            · skip
              rw [if_pos c_20] at hf
              refine lv_iconst (v := (0 : Int32)) X.1.1 X.1.2.1 dX9_turnsOf_147 (by decide) ?_
              cases hf
              exact Jy27 _ _ _ hw (lv_sub hl [0, 1, 3, 4, 5, 6, 7] rfl)
            · skip
              rw [if_neg (fun z => z c_20)] at hf
              refine lv_aload_n X.1.1 X.1.2.1 dX9_turnsOf_119 rfl (lv_at hl 5 rfl) ?_
              refine lv_iload X.1.1 X.1.2.1 dX9_turnsOf_120 (lv_at hl 4 rfl) ?_
              obtain ⟨g_p1, hf⟩ := ogd hf
              obtain ⟨i_21, hf⟩ := ogd hf
              refine r_iald X hw g_p1 i_21 dX9_turnsOf_122 ?_
              refine lv_aload_n X.1.1 X.1.2.1 dX9_turnsOf_123 rfl (lv_at hl 5 rfl) ?_
              refine lv_iload X.1.1 X.1.2.1 dX9_turnsOf_124 (lv_at hl 4 rfl) ?_
              refine lv_iconst (v := (1 : Int32)) X.1.1 X.1.2.1 dX9_turnsOf_126 (by decide) ?_
              refine lv_isub X.1.1 X.1.2.1 dX9_turnsOf_127 ?_
              obtain ⟨i_22, hf⟩ := ogd hf
              refine r_iald X hw g_p1 i_22 dX9_turnsOf_128 ?_
              refine lv_icmp_ge (tgt := 147) X.1.1 X.1.2.1 dX9_turnsOf_129 (by decide) (fun c_23 => ?_) (fun c_23 => ?_)
              · skip
                rw [if_pos c_23] at hf
                refine lv_iconst (v := (0 : Int32)) X.1.1 X.1.2.1 dX9_turnsOf_147 (by decide) ?_
                cases hf
                exact Jy27 _ _ _ hw (lv_sub hl [0, 1, 3, 4, 5, 6, 7] rfl)
              · skip
                rw [if_neg c_23] at hf
                refine lv_aload_n X.1.1 X.1.2.1 dX9_turnsOf_132 rfl (lv_at hl 5 rfl) ?_
                refine lv_iload X.1.1 X.1.2.1 dX9_turnsOf_133 (lv_at hl 4 rfl) ?_
                obtain ⟨i_24, hf⟩ := ogd hf
                refine r_iald X hw g_p1 i_24 dX9_turnsOf_135 ?_
                refine lv_aload_n X.1.1 X.1.2.1 dX9_turnsOf_136 rfl (lv_at hl 5 rfl) ?_
                refine lv_iload X.1.1 X.1.2.1 dX9_turnsOf_137 (lv_at hl 2 rfl) ?_
                obtain ⟨i_25, hf⟩ := ogd hf
                refine r_iald X hw g_p1 i_25 dX9_turnsOf_139 ?_
                refine lv_icmp_ge (tgt := 147) X.1.1 X.1.2.1 dX9_turnsOf_140 (by decide) (fun c_26 => ?_) (fun c_26 => ?_)
                · skip
                  rw [if_pos c_26] at hf
                  refine lv_iconst (v := (0 : Int32)) X.1.1 X.1.2.1 dX9_turnsOf_147 (by decide) ?_
                  cases hf
                  exact Jy27 _ _ _ hw (lv_sub hl [0, 1, 3, 4, 5, 6, 7] rfl)
                · skip
                  rw [if_neg c_26] at hf
                  refine lv_iconst (v := (1 : Int32)) X.1.1 X.1.2.1 dX9_turnsOf_143 (by decide) ?_
                  refine lv_goto (tgt := 148) X.1.1 X.1.2.1 dX9_turnsOf_144 (by decide) ?_
                  cases hf
                  exact Jy27 _ _ _ hw (lv_sub hl [0, 1, 3, 4, 5, 6, 7] rfl)
          clear hf
          have hf := ey19
          clear ey19
          refine lv_if_ne (tgt := 111) X.1.1 X.1.2.1 dX9_turnsOf_80 (by decide) (fun c_12 => ?_) (fun c_12 => ?_)
          · skip
            rw [if_pos c_12] at hf
            refine lv_iconst (v := (0 : Int32)) X.1.1 X.1.2.1 dX9_turnsOf_111 (by decide) ?_
            cases hf
            exact Jy19 _ _ _ hw (lv_sub hl [0, 1, 2, 3, 4, 5, 6] rfl)
          · skip
            rw [if_neg (fun z => z c_12)] at hf
            refine lv_aload_n X.1.1 X.1.2.1 dX9_turnsOf_83 rfl (lv_at hl 4 rfl) ?_
            refine lv_iload X.1.1 X.1.2.1 dX9_turnsOf_84 (lv_at hl 3 rfl) ?_
            obtain ⟨g_p1, hf⟩ := ogd hf
            obtain ⟨i_13, hf⟩ := ogd hf
            refine r_iald X hw g_p1 i_13 dX9_turnsOf_86 ?_
            refine lv_aload_n X.1.1 X.1.2.1 dX9_turnsOf_87 rfl (lv_at hl 4 rfl) ?_
            refine lv_iload X.1.1 X.1.2.1 dX9_turnsOf_88 (lv_at hl 3 rfl) ?_
            refine lv_iconst (v := (1 : Int32)) X.1.1 X.1.2.1 dX9_turnsOf_90 (by decide) ?_
            refine lv_isub X.1.1 X.1.2.1 dX9_turnsOf_91 ?_
            obtain ⟨i_14, hf⟩ := ogd hf
            refine r_iald X hw g_p1 i_14 dX9_turnsOf_92 ?_
            refine lv_icmp_le (tgt := 111) X.1.1 X.1.2.1 dX9_turnsOf_93 (by decide) (fun c_15 => ?_) (fun c_15 => ?_)
            · skip
              rw [if_pos c_15] at hf
              refine lv_iconst (v := (0 : Int32)) X.1.1 X.1.2.1 dX9_turnsOf_111 (by decide) ?_
              cases hf
              exact Jy19 _ _ _ hw (lv_sub hl [0, 1, 2, 3, 4, 5, 6] rfl)
            · skip
              rw [if_neg c_15] at hf
              refine lv_aload_n X.1.1 X.1.2.1 dX9_turnsOf_96 rfl (lv_at hl 4 rfl) ?_
              refine lv_iload X.1.1 X.1.2.1 dX9_turnsOf_97 (lv_at hl 3 rfl) ?_
              obtain ⟨i_16, hf⟩ := ogd hf
              refine r_iald X hw g_p1 i_16 dX9_turnsOf_99 ?_
              refine lv_aload_n X.1.1 X.1.2.1 dX9_turnsOf_100 rfl (lv_at hl 4 rfl) ?_
              refine lv_iload X.1.1 X.1.2.1 dX9_turnsOf_101 (lv_at hl 1 rfl) ?_
              obtain ⟨i_17, hf⟩ := ogd hf
              refine r_iald X hw g_p1 i_17 dX9_turnsOf_103 ?_
              refine lv_icmp_le (tgt := 111) X.1.1 X.1.2.1 dX9_turnsOf_104 (by decide) (fun c_18 => ?_) (fun c_18 => ?_)
              · skip
                rw [if_pos c_18] at hf
                refine lv_iconst (v := (0 : Int32)) X.1.1 X.1.2.1 dX9_turnsOf_111 (by decide) ?_
                cases hf
                exact Jy19 _ _ _ hw (lv_sub hl [0, 1, 2, 3, 4, 5, 6] rfl)
              · skip
                rw [if_neg c_18] at hf
                refine lv_iconst (v := (1 : Int32)) X.1.1 X.1.2.1 dX9_turnsOf_107 (by decide) ?_
                refine lv_goto (tgt := 112) X.1.1 X.1.2.1 dX9_turnsOf_108 (by decide) ?_
                cases hf
                exact Jy19 _ _ _ hw (lv_sub hl [0, 1, 2, 3, 4, 5, 6] rfl)
        clear hf
        have hf := ey11
        clear ey11
        refine lv_if_eq (tgt := 71) X.1.1 X.1.2.1 dX9_turnsOf_62 (by decide) (fun c_9 => ?_) (fun c_9 => ?_)
        · skip
          rw [if_pos c_9] at hf
          refine lv_iconst (v := (1 : Int32)) X.1.1 X.1.2.1 dX9_turnsOf_71 (by decide) ?_
          refine lv_goto (tgt := 76) X.1.1 X.1.2.1 dX9_turnsOf_72 (by decide) ?_
          cases hf
          exact Jy11 _ _ _ hw (lv_sub hl [0, 1, 2, 3, 4, 5] rfl)
        · skip
          rw [if_neg c_9] at hf
          refine lv_iload X.1.1 X.1.2.1 dX9_turnsOf_65 (lv_at hl 0 rfl) ?_
          refine lv_iload_n X.1.1 X.1.2.1 dX9_turnsOf_67 rfl (lv_at hl 4 rfl) ?_
          refine lv_icmp_ne (tgt := 75) X.1.1 X.1.2.1 dX9_turnsOf_68 (by decide) (fun c_10 => ?_) (fun c_10 => ?_)
          · skip
            rw [if_pos c_10] at hf
            refine lv_iconst (v := (0 : Int32)) X.1.1 X.1.2.1 dX9_turnsOf_75 (by decide) ?_
            cases hf
            exact Jy11 _ _ _ hw (lv_sub hl [0, 1, 2, 3, 4, 5] rfl)
          · skip
            rw [if_neg (fun z => z c_10)] at hf
            refine lv_iconst (v := (1 : Int32)) X.1.1 X.1.2.1 dX9_turnsOf_71 (by decide) ?_
            refine lv_goto (tgt := 76) X.1.1 X.1.2.1 dX9_turnsOf_72 (by decide) ?_
            cases hf
            exact Jy11 _ _ _ hw (lv_sub hl [0, 1, 2, 3, 4, 5] rfl)
      · skip
        rw [if_neg c_2] at hf
        refine lv_aload_n X.1.1 X.1.2.1 dX9_turnsOf_17 rfl (lv_at hl 2 rfl) ?_
        refine lv_iload X.1.1 X.1.2.1 dX9_turnsOf_18 (lv_at hl 1 rfl) ?_
        obtain ⟨g_p1, hf⟩ := ogd hf
        obtain ⟨i_45, hf⟩ := ogd hf
        refine r_iald X hw g_p1 i_45 dX9_turnsOf_20 ?_
        refine lv_aload_n X.1.1 X.1.2.1 dX9_turnsOf_21 rfl (lv_at hl 2 rfl) ?_
        refine lv_iload X.1.1 X.1.2.1 dX9_turnsOf_22 (lv_at hl 1 rfl) ?_
        refine lv_iconst (v := (1 : Int32)) X.1.1 X.1.2.1 dX9_turnsOf_24 (by decide) ?_
        refine lv_isub X.1.1 X.1.2.1 dX9_turnsOf_25 ?_
        obtain ⟨i_46, hf⟩ := ogd hf
        refine r_iald X hw g_p1 i_46 dX9_turnsOf_26 ?_
        refine lv_icmp_ne (tgt := 33) X.1.1 X.1.2.1 dX9_turnsOf_27 (by decide) (fun c_47 => ?_) (fun c_47 => ?_)
        · skip
          rw [if_pos c_47] at hf
          refine lv_iload X.1.1 X.1.2.1 dX9_turnsOf_33 (lv_at hl 1 rfl) ?_
          refine lv_istore (lv' := [(6, .int v5), (4, .int v4), (5, .int v5), (1, .ref p1), (2, .int w2), (3, .ref p3)]) X.1.1 X.1.2.1 dX9_turnsOf_35 hl (by decide) rfl (fun ls hl => ?_)
          obtain ⟨z53, ez53, hf⟩ := obd hf
          refine wlp_X9_turnsOf_37b X g_p1 fuel _ _ _ _ _ ez53 hw (lv_sub hl [0, 1, 2, 3, 4, 5] rfl) (fun x ex H locs ls hw hl => ?_)
          subst ex
          refine lv_iload X.1.1 X.1.2.1 dX9_turnsOf_60 (lv_at hl 1 rfl) ?_
          obtain ⟨y56, ey56, hf⟩ := obd hf
          have Jy56 : ∀ (H : Heap) (locs : List Loc) (ls : Array Slot), Wd D cy A s.heap h M H locs → lv_has ls 10 [(6, .int z53), (4, .int v4), (5, .int v5), (1, .ref p1), (2, .int w2), (3, .ref p3)] → W p l e ({ frames := 0, cells := 0, slots := 0, locals := 0 } : Room) s m args below meth c H locs 0 0 Q (F0 m 76 ls [.int y56]) := by
            intro H locs ls hw hl
            refine lv_istore (lv' := [(7, .int y56), (6, .int z53), (4, .int v4), (5, .int v5), (1, .ref p1), (2, .int w2), (3, .ref p3)]) X.1.1 X.1.2.1 dX9_turnsOf_76 hl (by decide) rfl (fun ls hl => ?_)
            refine lv_iload X.1.1 X.1.2.1 dX9_turnsOf_78 (lv_at hl 0 rfl) ?_
            obtain ⟨y64, ey64, hf⟩ := obd hf
            have Jy64 : ∀ (H : Heap) (locs : List Loc) (ls : Array Slot), Wd D cy A s.heap h M H locs → lv_has ls 10 [(7, .int y56), (6, .int z53), (4, .int v4), (5, .int v5), (1, .ref p1), (2, .int w2), (3, .ref p3)] → W p l e ({ frames := 0, cells := 0, slots := 0, locals := 0 } : Room) s m args below meth c H locs 0 0 Q (F0 m 112 ls [.int y64]) := by
              intro H locs ls hw hl
              refine lv_istore (lv' := [(8, .int y64), (7, .int y56), (6, .int z53), (4, .int v4), (5, .int v5), (1, .ref p1), (2, .int w2), (3, .ref p3)]) X.1.1 X.1.2.1 dX9_turnsOf_112 hl (by decide) rfl (fun ls hl => ?_)
              refine lv_iload X.1.1 X.1.2.1 dX9_turnsOf_114 (lv_at hl 1 rfl) ?_
              obtain ⟨y72, ey72, hf⟩ := obd hf
              have Jy72 : ∀ (H : Heap) (locs : List Loc) (ls : Array Slot), Wd D cy A s.heap h M H locs → lv_has ls 10 [(8, .int y64), (7, .int y56), (4, .int v4), (5, .int v5), (1, .ref p1), (2, .int w2), (3, .ref p3)] → W p l e ({ frames := 0, cells := 0, slots := 0, locals := 0 } : Room) s m args below meth c H locs 0 0 Q (F0 m 148 ls [.int y72]) := by
                intro H locs ls hw hl
                refine lv_istore (lv' := [(9, .int y72), (8, .int y64), (7, .int y56), (4, .int v4), (5, .int v5), (1, .ref p1), (2, .int w2), (3, .ref p3)]) X.1.1 X.1.2.1 dX9_turnsOf_148 hl (by decide) rfl (fun ls hl => ?_)
                refine lv_iload X.1.1 X.1.2.1 dX9_turnsOf_150 (lv_at hl 2 rfl) ?_
                obtain ⟨y88, ey88, hf⟩ := obd hf
                have Jy88 : ∀ (H : Heap) (locs : List Loc) (ls : Array Slot), Wd D cy A s.heap h y88.2 H locs → lv_has ls 10 [(4, .int y88.1), (5, .int v5), (1, .ref p1), (2, .int w2), (3, .ref p3)] → W p l e ({ frames := 0, cells := 0, slots := 0, locals := 0 } : Room) s m args below meth c H locs 0 0 Q (F0 m 179 ls []) := by
                  intro H locs ls hw hl
                  obtain ⟨x89, ex89, hf⟩ := olt hf
                  refine lv_iinc (v := x89) (lv' := [(5, .int x89), (4, .int y88.1), (1, .ref p1), (2, .int w2), (3, .ref p3)]) X.1.1 X.1.2.1 dX9_turnsOf_179 hl (k := 1) rfl (by rw [ex89]; rfl) (by decide) rfl (fun ls hl => ?_)
                  refine lv_goto (tgt := 6) X.1.1 X.1.2.1 dX9_turnsOf_182 (by decide) ?_
                  exact ih _ _ _ _ _ _ _ hf hw (lv_sub hl [1, 0, 2, 3, 4] rfl) kx
                clear hf
                have hf := ey88
                clear ey88
                refine lv_if_ne (tgt := 168) X.1.1 X.1.2.1 dX9_turnsOf_152 (by decide) (fun c_73 => ?_) (fun c_73 => ?_)
                · skip
                  rw [if_pos c_73] at hf
                  refine lv_aload_n X.1.1 X.1.2.1 dX9_turnsOf_168 rfl (lv_at hl 7 rfl) ?_
                  refine lv_iload X.1.1 X.1.2.1 dX9_turnsOf_169 (lv_at hl 3 rfl) ?_
                  refine lv_aload_n X.1.1 X.1.2.1 dX9_turnsOf_171 rfl (lv_at hl 5 rfl) ?_
                  refine lv_iload X.1.1 X.1.2.1 dX9_turnsOf_172 (lv_at hl 4 rfl) ?_
                  obtain ⟨i_74, hf⟩ := ogd hf
                  refine r_iald X hw g_p1 i_74 dX9_turnsOf_174 ?_
                  obtain ⟨g_p3, hf⟩ := ogd hf
                  obtain ⟨i_75, hf⟩ := ogd hf
                  refine r_iast X hw g_p3 i_75 dX9_turnsOf_175 (fun H locs hw => ?_)
                  obtain ⟨M76, eM76, hf⟩ := olt hf
                  rw [← eM76] at hw
                  obtain ⟨x77, ex77, hf⟩ := olt hf
                  refine lv_iinc (v := x77) (lv' := [(4, .int x77), (9, .int y72), (8, .int y64), (7, .int y56), (5, .int v5), (1, .ref p1), (2, .int w2), (3, .ref p3)]) X.1.1 X.1.2.1 dX9_turnsOf_176 hl (k := 3) rfl (by rw [ex77]; rfl) (by decide) rfl (fun ls hl => ?_)
                  cases hf
                  exact Jy88 _ _ _ hw (lv_sub hl [0, 4, 5, 6, 7] rfl)
                · skip
                  rw [if_neg (fun z => z c_73)] at hf
                  refine lv_iload X.1.1 X.1.2.1 dX9_turnsOf_155 (lv_at hl 1 rfl) ?_
                  refine lv_if_ne (tgt := 168) X.1.1 X.1.2.1 dX9_turnsOf_157 (by decide) (fun c_78 => ?_) (fun c_78 => ?_)
                  · skip
                    rw [if_pos c_78] at hf
                    refine lv_aload_n X.1.1 X.1.2.1 dX9_turnsOf_168 rfl (lv_at hl 7 rfl) ?_
                    refine lv_iload X.1.1 X.1.2.1 dX9_turnsOf_169 (lv_at hl 3 rfl) ?_
                    refine lv_aload_n X.1.1 X.1.2.1 dX9_turnsOf_171 rfl (lv_at hl 5 rfl) ?_
                    refine lv_iload X.1.1 X.1.2.1 dX9_turnsOf_172 (lv_at hl 4 rfl) ?_
                    obtain ⟨i_79, hf⟩ := ogd hf
                    refine r_iald X hw g_p1 i_79 dX9_turnsOf_174 ?_
                    obtain ⟨g_p3, hf⟩ := ogd hf
                    obtain ⟨i_80, hf⟩ := ogd hf
                    refine r_iast X hw g_p3 i_80 dX9_turnsOf_175 (fun H locs hw => ?_)
                    obtain ⟨M81, eM81, hf⟩ := olt hf
                    rw [← eM81] at hw
                    obtain ⟨x82, ex82, hf⟩ := olt hf
                    refine lv_iinc (v := x82) (lv' := [(4, .int x82), (9, .int y72), (8, .int y64), (7, .int y56), (5, .int v5), (1, .ref p1), (2, .int w2), (3, .ref p3)]) X.1.1 X.1.2.1 dX9_turnsOf_176 hl (k := 3) rfl (by rw [ex82]; rfl) (by decide) rfl (fun ls hl => ?_)
                    cases hf
                    exact Jy88 _ _ _ hw (lv_sub hl [0, 4, 5, 6, 7] rfl)
                  · skip
                    rw [if_neg (fun z => z c_78)] at hf
                    refine lv_iload X.1.1 X.1.2.1 dX9_turnsOf_160 (lv_at hl 0 rfl) ?_
                    refine lv_if_ne (tgt := 168) X.1.1 X.1.2.1 dX9_turnsOf_162 (by decide) (fun c_83 => ?_) (fun c_83 => ?_)
                    · skip
                      rw [if_pos c_83] at hf
                      refine lv_aload_n X.1.1 X.1.2.1 dX9_turnsOf_168 rfl (lv_at hl 7 rfl) ?_
                      refine lv_iload X.1.1 X.1.2.1 dX9_turnsOf_169 (lv_at hl 3 rfl) ?_
                      refine lv_aload_n X.1.1 X.1.2.1 dX9_turnsOf_171 rfl (lv_at hl 5 rfl) ?_
                      refine lv_iload X.1.1 X.1.2.1 dX9_turnsOf_172 (lv_at hl 4 rfl) ?_
                      obtain ⟨i_84, hf⟩ := ogd hf
                      refine r_iald X hw g_p1 i_84 dX9_turnsOf_174 ?_
                      obtain ⟨g_p3, hf⟩ := ogd hf
                      obtain ⟨i_85, hf⟩ := ogd hf
                      refine r_iast X hw g_p3 i_85 dX9_turnsOf_175 (fun H locs hw => ?_)
                      obtain ⟨M86, eM86, hf⟩ := olt hf
                      rw [← eM86] at hw
                      obtain ⟨x87, ex87, hf⟩ := olt hf
                      refine lv_iinc (v := x87) (lv' := [(4, .int x87), (9, .int y72), (8, .int y64), (7, .int y56), (5, .int v5), (1, .ref p1), (2, .int w2), (3, .ref p3)]) X.1.1 X.1.2.1 dX9_turnsOf_176 hl (k := 3) rfl (by rw [ex87]; rfl) (by decide) rfl (fun ls hl => ?_)
                      cases hf
                      exact Jy88 _ _ _ hw (lv_sub hl [0, 4, 5, 6, 7] rfl)
                    · skip
                      rw [if_neg (fun z => z c_83)] at hf
                      refine lv_goto (tgt := 179) X.1.1 X.1.2.1 dX9_turnsOf_165 (by decide) ?_
                      cases hf
                      exact Jy88 _ _ _ hw (lv_sub hl [3, 4, 5, 6, 7] rfl)
              clear hf
              have hf := ey72
              clear ey72
              refine lv_if_ne (tgt := 147) X.1.1 X.1.2.1 dX9_turnsOf_116 (by decide) (fun c_65 => ?_) (fun c_65 => ?_)
              · skip
                rw [if_pos c_65] at hf
                refine lv_iconst (v := (0 : Int32)) X.1.1 X.1.2.1 dX9_turnsOf_147 (by decide) ?_
                cases hf
                exact Jy72 _ _ _ hw (lv_sub hl [0, 1, 3, 4, 5, 6, 7] rfl)
              · skip
                rw [if_neg (fun z => z c_65)] at hf
                refine lv_aload_n X.1.1 X.1.2.1 dX9_turnsOf_119 rfl (lv_at hl 5 rfl) ?_
                refine lv_iload X.1.1 X.1.2.1 dX9_turnsOf_120 (lv_at hl 4 rfl) ?_
                obtain ⟨i_66, hf⟩ := ogd hf
                refine r_iald X hw g_p1 i_66 dX9_turnsOf_122 ?_
                refine lv_aload_n X.1.1 X.1.2.1 dX9_turnsOf_123 rfl (lv_at hl 5 rfl) ?_
                refine lv_iload X.1.1 X.1.2.1 dX9_turnsOf_124 (lv_at hl 4 rfl) ?_
                refine lv_iconst (v := (1 : Int32)) X.1.1 X.1.2.1 dX9_turnsOf_126 (by decide) ?_
                refine lv_isub X.1.1 X.1.2.1 dX9_turnsOf_127 ?_
                obtain ⟨i_67, hf⟩ := ogd hf
                refine r_iald X hw g_p1 i_67 dX9_turnsOf_128 ?_
                refine lv_icmp_ge (tgt := 147) X.1.1 X.1.2.1 dX9_turnsOf_129 (by decide) (fun c_68 => ?_) (fun c_68 => ?_)
                · skip
                  rw [if_pos c_68] at hf
                  refine lv_iconst (v := (0 : Int32)) X.1.1 X.1.2.1 dX9_turnsOf_147 (by decide) ?_
                  cases hf
                  exact Jy72 _ _ _ hw (lv_sub hl [0, 1, 3, 4, 5, 6, 7] rfl)
                · skip
                  rw [if_neg c_68] at hf
                  refine lv_aload_n X.1.1 X.1.2.1 dX9_turnsOf_132 rfl (lv_at hl 5 rfl) ?_
                  refine lv_iload X.1.1 X.1.2.1 dX9_turnsOf_133 (lv_at hl 4 rfl) ?_
                  obtain ⟨i_69, hf⟩ := ogd hf
                  refine r_iald X hw g_p1 i_69 dX9_turnsOf_135 ?_
                  refine lv_aload_n X.1.1 X.1.2.1 dX9_turnsOf_136 rfl (lv_at hl 5 rfl) ?_
                  refine lv_iload X.1.1 X.1.2.1 dX9_turnsOf_137 (lv_at hl 2 rfl) ?_
                  obtain ⟨i_70, hf⟩ := ogd hf
                  refine r_iald X hw g_p1 i_70 dX9_turnsOf_139 ?_
                  refine lv_icmp_ge (tgt := 147) X.1.1 X.1.2.1 dX9_turnsOf_140 (by decide) (fun c_71 => ?_) (fun c_71 => ?_)
                  · skip
                    rw [if_pos c_71] at hf
                    refine lv_iconst (v := (0 : Int32)) X.1.1 X.1.2.1 dX9_turnsOf_147 (by decide) ?_
                    cases hf
                    exact Jy72 _ _ _ hw (lv_sub hl [0, 1, 3, 4, 5, 6, 7] rfl)
                  · skip
                    rw [if_neg c_71] at hf
                    refine lv_iconst (v := (1 : Int32)) X.1.1 X.1.2.1 dX9_turnsOf_143 (by decide) ?_
                    refine lv_goto (tgt := 148) X.1.1 X.1.2.1 dX9_turnsOf_144 (by decide) ?_
                    cases hf
                    exact Jy72 _ _ _ hw (lv_sub hl [0, 1, 3, 4, 5, 6, 7] rfl)
            clear hf
            have hf := ey64
            clear ey64
            refine lv_if_ne (tgt := 111) X.1.1 X.1.2.1 dX9_turnsOf_80 (by decide) (fun c_57 => ?_) (fun c_57 => ?_)
            · skip
              rw [if_pos c_57] at hf
              refine lv_iconst (v := (0 : Int32)) X.1.1 X.1.2.1 dX9_turnsOf_111 (by decide) ?_
              cases hf
              exact Jy64 _ _ _ hw (lv_sub hl [0, 1, 2, 3, 4, 5, 6] rfl)
            · skip
              rw [if_neg (fun z => z c_57)] at hf
              refine lv_aload_n X.1.1 X.1.2.1 dX9_turnsOf_83 rfl (lv_at hl 4 rfl) ?_
              refine lv_iload X.1.1 X.1.2.1 dX9_turnsOf_84 (lv_at hl 3 rfl) ?_
              obtain ⟨i_58, hf⟩ := ogd hf
              refine r_iald X hw g_p1 i_58 dX9_turnsOf_86 ?_
              refine lv_aload_n X.1.1 X.1.2.1 dX9_turnsOf_87 rfl (lv_at hl 4 rfl) ?_
              refine lv_iload X.1.1 X.1.2.1 dX9_turnsOf_88 (lv_at hl 3 rfl) ?_
              refine lv_iconst (v := (1 : Int32)) X.1.1 X.1.2.1 dX9_turnsOf_90 (by decide) ?_
              refine lv_isub X.1.1 X.1.2.1 dX9_turnsOf_91 ?_
              obtain ⟨i_59, hf⟩ := ogd hf
              refine r_iald X hw g_p1 i_59 dX9_turnsOf_92 ?_
              refine lv_icmp_le (tgt := 111) X.1.1 X.1.2.1 dX9_turnsOf_93 (by decide) (fun c_60 => ?_) (fun c_60 => ?_)
              · skip
                rw [if_pos c_60] at hf
                refine lv_iconst (v := (0 : Int32)) X.1.1 X.1.2.1 dX9_turnsOf_111 (by decide) ?_
                cases hf
                exact Jy64 _ _ _ hw (lv_sub hl [0, 1, 2, 3, 4, 5, 6] rfl)
              · skip
                rw [if_neg c_60] at hf
                refine lv_aload_n X.1.1 X.1.2.1 dX9_turnsOf_96 rfl (lv_at hl 4 rfl) ?_
                refine lv_iload X.1.1 X.1.2.1 dX9_turnsOf_97 (lv_at hl 3 rfl) ?_
                obtain ⟨i_61, hf⟩ := ogd hf
                refine r_iald X hw g_p1 i_61 dX9_turnsOf_99 ?_
                refine lv_aload_n X.1.1 X.1.2.1 dX9_turnsOf_100 rfl (lv_at hl 4 rfl) ?_
                refine lv_iload X.1.1 X.1.2.1 dX9_turnsOf_101 (lv_at hl 1 rfl) ?_
                obtain ⟨i_62, hf⟩ := ogd hf
                refine r_iald X hw g_p1 i_62 dX9_turnsOf_103 ?_
                refine lv_icmp_le (tgt := 111) X.1.1 X.1.2.1 dX9_turnsOf_104 (by decide) (fun c_63 => ?_) (fun c_63 => ?_)
                · skip
                  rw [if_pos c_63] at hf
                  refine lv_iconst (v := (0 : Int32)) X.1.1 X.1.2.1 dX9_turnsOf_111 (by decide) ?_
                  cases hf
                  exact Jy64 _ _ _ hw (lv_sub hl [0, 1, 2, 3, 4, 5, 6] rfl)
                · skip
                  rw [if_neg c_63] at hf
                  refine lv_iconst (v := (1 : Int32)) X.1.1 X.1.2.1 dX9_turnsOf_107 (by decide) ?_
                  refine lv_goto (tgt := 112) X.1.1 X.1.2.1 dX9_turnsOf_108 (by decide) ?_
                  cases hf
                  exact Jy64 _ _ _ hw (lv_sub hl [0, 1, 2, 3, 4, 5, 6] rfl)
          clear hf
          have hf := ey56
          clear ey56
          refine lv_if_eq (tgt := 71) X.1.1 X.1.2.1 dX9_turnsOf_62 (by decide) (fun c_54 => ?_) (fun c_54 => ?_)
          · skip
            rw [if_pos c_54] at hf
            refine lv_iconst (v := (1 : Int32)) X.1.1 X.1.2.1 dX9_turnsOf_71 (by decide) ?_
            refine lv_goto (tgt := 76) X.1.1 X.1.2.1 dX9_turnsOf_72 (by decide) ?_
            cases hf
            exact Jy56 _ _ _ hw (lv_sub hl [0, 1, 2, 3, 4, 5] rfl)
          · skip
            rw [if_neg c_54] at hf
            refine lv_iload X.1.1 X.1.2.1 dX9_turnsOf_65 (lv_at hl 0 rfl) ?_
            refine lv_iload_n X.1.1 X.1.2.1 dX9_turnsOf_67 rfl (lv_at hl 4 rfl) ?_
            refine lv_icmp_ne (tgt := 75) X.1.1 X.1.2.1 dX9_turnsOf_68 (by decide) (fun c_55 => ?_) (fun c_55 => ?_)
            · skip
              rw [if_pos c_55] at hf
              refine lv_iconst (v := (0 : Int32)) X.1.1 X.1.2.1 dX9_turnsOf_75 (by decide) ?_
              cases hf
              exact Jy56 _ _ _ hw (lv_sub hl [0, 1, 2, 3, 4, 5] rfl)
            · skip
              rw [if_neg (fun z => z c_55)] at hf
              refine lv_iconst (v := (1 : Int32)) X.1.1 X.1.2.1 dX9_turnsOf_71 (by decide) ?_
              refine lv_goto (tgt := 76) X.1.1 X.1.2.1 dX9_turnsOf_72 (by decide) ?_
              cases hf
              exact Jy56 _ _ _ hw (lv_sub hl [0, 1, 2, 3, 4, 5] rfl)
        · skip
          rw [if_neg (fun z => z c_47)] at hf
          refine lv_goto (tgt := 179) X.1.1 X.1.2.1 dX9_turnsOf_30 (by decide) ?_
          obtain ⟨x90, ex90, hf⟩ := olt hf
          refine lv_iinc (v := x90) (lv' := [(5, .int x90), (4, .int v4), (1, .ref p1), (2, .int w2), (3, .ref p3)]) X.1.1 X.1.2.1 dX9_turnsOf_179 hl (k := 1) rfl (by rw [ex90]; rfl) (by decide) rfl (fun ls hl => ?_)
          refine lv_goto (tgt := 6) X.1.1 X.1.2.1 dX9_turnsOf_182 (by decide) ?_
          exact ih _ _ _ _ _ _ _ hf hw (lv_sub hl [1, 0, 2, 3, 4] rfl) kx
def f_X9_turnsOf (h : Hs) (a0 : Nat) (p1 : Nat) (p2 : Int32) (p3 : Nat) (M : Mm) : Option (Int32 × Mm) :=
  (lp_X9_turnsOf_6 h p2 p1 p3 fuel (0 : Int32) (0 : Int32) M).bind fun z91 =>
  some (z91.1, z91.2.2)
set_option maxHeartbeats 4000000 in
set_option maxRecDepth 100000 in
theorem c_X9_turnsOf {l : Launch} {D : va_G} {cy : Nat → ClassId} {h : Hs} {a0 : Nat} {p1 : Nat} {p2 : Int32} {p3 : Nat} {M : Mm} {z : (Int32 × Mm)} (hf : f_X9_turnsOf h a0 p1 p2 p3 M = some z) : CtI l D cy yX9_turnsOf (wu yX9_turnsOf cX9_turnsOf 10 (some .int)) ({ frames := 0, cells := 0, slots := 0, locals := 0 }) [.ref a0, .ref p1, .int p2, .ref p3] h M z.1 z.2 := by
  refine enterI (cc := cX9_turnsOf) (maxL := 10) (ret := (some .int)) (by decide) (Nat.le_of_ble_eq_true rfl) ?_
  intro p e s m args below meth c A ls X hw hr hlk hl
  have hl : lv_has ls 10 [(0, .ref a0), (1, .ref p1), (2, .int p2), (3, .ref p3)] := hl
  unfold f_X9_turnsOf at hf
  refine lv_iconst (v := (0 : Int32)) X.1.1 X.1.2.1 dX9_turnsOf_0 (by decide) ?_
  refine lv_istore (lv' := [(4, .int (0 : Int32)), (0, .ref a0), (1, .ref p1), (2, .int p2), (3, .ref p3)]) X.1.1 X.1.2.1 dX9_turnsOf_1 hl (by decide) rfl (fun ls hl => ?_)
  refine lv_iconst (v := (0 : Int32)) X.1.1 X.1.2.1 dX9_turnsOf_3 (by decide) ?_
  refine lv_istore (lv' := [(5, .int (0 : Int32)), (4, .int (0 : Int32)), (0, .ref a0), (1, .ref p1), (2, .int p2), (3, .ref p3)]) X.1.1 X.1.2.1 dX9_turnsOf_4 hl (by decide) rfl (fun ls hl => ?_)
  obtain ⟨z91, ez91, hf⟩ := obd hf
  refine wlp_X9_turnsOf_6 X fuel _ _ _ _ _ _ _ ez91 hw (lv_sub hl [1, 0, 3, 4, 5] rfl) (fun x ex H locs ls hw hl => ?_)
  subst ex
  refine lv_iload X.1.1 X.1.2.1 dX9_turnsOf_185 (lv_at hl 0 rfl) ?_
  cases hf
  exact r_retI (v := z91.1) X hw hr hlk rfl dX9_turnsOf_187
/-! X9_readRow -/
def lp_X9_readRow_30 (h : Hs) (w4 : Int32) (w3 : Int32) (w1 : Int32) (a0 : Nat) : Nat → Int32 → Mm → Option (Int32 × Mm)
  | 0, _, _ => none
  | n + 1, v5, M =>
    if w4 ≤ v5 then
      some (v5, M)
    else
      (f_X9_at h a0 w1 v5 M).bind fun z7 =>
      Option.bind (
        if z7 < (2000000 : Int32) then
          Option.bind (
            if ¬ (zI M a0 11) = 0 then
              dq (zR h a0 8) fun q10 =>
              gd (ok h q10 11) <|
              gd (inb ((zI M a0 11) - (1 : Int32)) (zN h q10)) <|
              some (zI M q10 ((zI M a0 11) - (1 : Int32)).toNatClampNeg)
            else
              some (0 : Int32)
            ) fun y12 =>
          Option.bind (
            if z7 ≤ y12 then
              some (y12 - z7)
            else
              some (z7 - y12)
            ) fun y14 =>
          if w3 = 0 then
            dq (zR h a0 8) fun q16 =>
            gd (ok h q16 11) <|
            gd (inb (zI M a0 11) (zN h q16)) <|
            lt_ (sI M q16 (zI M a0 11).toNatClampNeg z7) fun M18 =>
            lt_ (sI M18 a0 11 ((zI M18 a0 11) + (1 : Int32))) fun M19 =>
            some M19
          else
            if (zI M a0 11) ≤ 0 then
              dq (zR h a0 8) fun q21 =>
              gd (ok h q21 11) <|
              gd (inb (zI M a0 11) (zN h q21)) <|
              lt_ (sI M q21 (zI M a0 11).toNatClampNeg z7) fun M23 =>
              lt_ (sI M23 a0 11 ((zI M23 a0 11) + (1 : Int32))) fun M24 =>
              some M24
            else
              dq (zR h a0 1) fun q25 =>
              gd (ok h q25 11) <|
              gd (inb (((404 : Int32) * w1) + (1 : Int32)) (zN h q25)) <|
              if (zI M q25 (((404 : Int32) * w1) + (1 : Int32)).toNatClampNeg) ≤ y14 then
                dq (zR h a0 8) fun q28 =>
                gd (ok h q28 11) <|
                gd (inb (zI M a0 11) (zN h q28)) <|
                lt_ (sI M q28 (zI M a0 11).toNatClampNeg z7) fun M30 =>
                lt_ (sI M30 a0 11 ((zI M30 a0 11) + (1 : Int32))) fun M31 =>
                some M31
              else
                some M
        else
          some M
        ) fun y32 =>
      lt_ (v5 + (1 : Int32)) fun x33 =>
      lp_X9_readRow_30 h w4 w3 w1 a0 n x33 y32
set_option maxHeartbeats 4000000 in
set_option maxRecDepth 100000 in
theorem wlp_X9_readRow_30 {l : Launch} {D : va_G} {cy : Nat → ClassId} {h : Hs} {w4 : Int32} {w3 : Int32} {w1 : Int32} {a0 : Nat} {p : Program} {e : Env} {s : State} {m : MethodId} {args : Array Value} {below : List Frame} {meth : Method} {c : Code} {A : Nat → Prop} (X : Cx p s m args c cX9_readRow 9 gtbl RX9 D cy A) {Q : State → Prop} (g_a0 : ok h a0 9) : ∀ (n : Nat) (v5 : Int32) (M : Mm) (z : (Int32 × Mm)) (H : Heap) (locs : List Loc) (ls : Array Slot), lp_X9_readRow_30 h w4 w3 w1 a0 n v5 M = some z → Wd D cy A s.heap h M H locs → lv_has ls 9 [(5, .int v5), (4, .int w4), (3, .int w3), (0, .ref a0), (1, .int w1)] → (∀ x : (Int32 × Mm), z = x → ∀ (H : Heap) (locs : List Loc) (ls : Array Slot), Wd D cy A s.heap h x.2 H locs → lv_has ls 9 [(5, .int x.1), (4, .int w4), (3, .int w3), (0, .ref a0), (1, .int w1)] → W p l e ({ frames := 4, cells := 0, slots := 0, locals := 87 } : Room) s m args below meth c H locs 0 0 Q (F0 m 160 ls [])) → W p l e ({ frames := 4, cells := 0, slots := 0, locals := 87 } : Room) s m args below meth c H locs 0 0 Q (F0 m 30 ls []) := by
  intro n
  induction n with
  | zero => intro v5 M z H locs ls hf hw hl kx; exact absurd hf (by intro q; cases q)
  | succ n ih =>
    intro v5 M z H locs ls hf hw hl kx
    unfold lp_X9_readRow_30 at hf
    refine lv_iload X.1.1 X.1.2.1 dX9_readRow_30 (lv_at hl 0 rfl) ?_
    refine lv_iload X.1.1 X.1.2.1 dX9_readRow_32 (lv_at hl 1 rfl) ?_
    refine lv_icmp_ge (tgt := 160) X.1.1 X.1.2.1 dX9_readRow_34 (by decide) (fun c_6 => ?_) (fun c_6 => ?_)
    · skip
      rw [if_pos c_6] at hf
      cases hf
      exact kx _ rfl _ _ _ hw (lv_sub hl [0, 1, 2, 3, 4] rfl)
    · skip
      rw [if_neg c_6] at hf
      refine lv_aload_n X.1.1 X.1.2.1 dX9_readRow_37 rfl (lv_at hl 3 rfl) ?_
      refine lv_iload_n X.1.1 X.1.2.1 dX9_readRow_38 rfl (lv_at hl 4 rfl) ?_
      refine lv_iload X.1.1 X.1.2.1 dX9_readRow_39 (lv_at hl 0 rfl) ?_
      obtain ⟨z7, ez7, hf⟩ := obd hf
      refine r_callVI (As := [.int w1, .int v5]) (rest := []) X hw (c_X9_at ez7) (cwV 2 X.1.2.2.2.2 (guV um_X9_127 ui_X9_at us_X9_at un_X9 uo_X9_at) rfl rfl rfl (by decide +kernel) ⟨Nat.le_of_ble_eq_true rfl, Nat.le_of_ble_eq_true rfl⟩) g_a0 (by decide) rfl rfl hl.1 rfl (Nat.le_of_ble_eq_true rfl) dX9_readRow_41 ⟨Nat.zero_le _, Nat.zero_le _⟩ (fun H locs hw => ?_)
      refine lv_istore (lv' := [(6, .int z7), (5, .int v5), (4, .int w4), (3, .int w3), (0, .ref a0), (1, .int w1)]) X.1.1 X.1.2.1 dX9_readRow_44 hl (by decide) rfl (fun ls hl => ?_)
      refine lv_iload X.1.1 X.1.2.1 dX9_readRow_46 (lv_at hl 0 rfl) ?_
      refine lv_ldc (v := (2000000 : Int32)) X.1.1 X.1.2.1 X.1.2.2.2.1 (X.1.2.2.2.2 _ uc_X9_86) dX9_readRow_48 ?_
      obtain ⟨y32, ey32, hf⟩ := obd hf
      have Jy32 : ∀ (H : Heap) (locs : List Loc) (ls : Array Slot), Wd D cy A s.heap h y32 H locs → lv_has ls 9 [(5, .int v5), (4, .int w4), (3, .int w3), (0, .ref a0), (1, .int w1)] → W p l e ({ frames := 4, cells := 0, slots := 0, locals := 87 } : Room) s m args below meth c H locs 0 0 Q (F0 m 154 ls []) := by
        intro H locs ls hw hl
        obtain ⟨x33, ex33, hf⟩ := olt hf
        refine lv_iinc (v := x33) (lv' := [(5, .int x33), (4, .int w4), (3, .int w3), (0, .ref a0), (1, .int w1)]) X.1.1 X.1.2.1 dX9_readRow_154 hl (k := 0) rfl (by rw [ex33]; rfl) (by decide) rfl (fun ls hl => ?_)
        refine lv_goto (tgt := 30) X.1.1 X.1.2.1 dX9_readRow_157 (by decide) ?_
        exact ih _ _ _ _ _ _ hf hw (lv_sub hl [0, 1, 2, 3, 4] rfl) kx
      clear hf
      have hf := ey32
      clear ey32
      refine lv_icmp_lt (tgt := 56) X.1.1 X.1.2.1 dX9_readRow_50 (by decide) (fun c_8 => ?_) (fun c_8 => ?_)
      · skip
        rw [if_pos c_8] at hf
        refine lv_aload_n X.1.1 X.1.2.1 dX9_readRow_56 rfl (lv_at hl 4 rfl) ?_
        refine r_geti (k := 9) (j := 11) X hw rfl inX9 g_a0 rfl (by decide) (by decide) uf_X9_124 rfl dX9_readRow_57 ?_
        obtain ⟨y12, ey12, hf⟩ := obd hf
        have Jy12 : ∀ (H : Heap) (locs : List Loc) (ls : Array Slot), Wd D cy A s.heap h M H locs → lv_has ls 9 [(6, .int z7), (5, .int v5), (4, .int w4), (3, .int w3), (0, .ref a0), (1, .int w1)] → W p l e ({ frames := 4, cells := 0, slots := 0, locals := 87 } : Room) s m args below meth c H locs 0 0 Q (F0 m 78 ls [.int y12]) := by
          intro H locs ls hw hl
          refine lv_istore (lv' := [(7, .int y12), (6, .int z7), (5, .int v5), (4, .int w4), (3, .int w3), (0, .ref a0), (1, .int w1)]) X.1.1 X.1.2.1 dX9_readRow_78 hl (by decide) rfl (fun ls hl => ?_)
          refine lv_iload X.1.1 X.1.2.1 dX9_readRow_80 (lv_at hl 1 rfl) ?_
          refine lv_iload X.1.1 X.1.2.1 dX9_readRow_82 (lv_at hl 0 rfl) ?_
          obtain ⟨y14, ey14, hf⟩ := obd hf
          have Jy14 : ∀ (H : Heap) (locs : List Loc) (ls : Array Slot), Wd D cy A s.heap h M H locs → lv_has ls 9 [(6, .int z7), (5, .int v5), (4, .int w4), (3, .int w3), (0, .ref a0), (1, .int w1)] → W p l e ({ frames := 4, cells := 0, slots := 0, locals := 87 } : Room) s m args below meth c H locs 0 0 Q (F0 m 100 ls [.int y14]) := by
            intro H locs ls hw hl
            refine lv_istore (lv' := [(8, .int y14), (6, .int z7), (5, .int v5), (4, .int w4), (3, .int w3), (0, .ref a0), (1, .int w1)]) X.1.1 X.1.2.1 dX9_readRow_100 hl (by decide) rfl (fun ls hl => ?_)
            refine lv_iload_n X.1.1 X.1.2.1 dX9_readRow_102 rfl (lv_at hl 4 rfl) ?_
            refine lv_if_eq (tgt := 133) X.1.1 X.1.2.1 dX9_readRow_103 (by decide) (fun c_15 => ?_) (fun c_15 => ?_)
            · skip
              rw [if_pos c_15] at hf
              refine lv_aload_n X.1.1 X.1.2.1 dX9_readRow_133 rfl (lv_at hl 5 rfl) ?_
              obtain ⟨q16, eq16, hf⟩ := odq hf
              refine r_getq (k := 9) (j := 8) X hw rfl inX9 g_a0 rfl (by decide) (by decide) uf_X9_27 rfl dX9_readRow_134 eq16 ?_
              refine lv_aload_n X.1.1 X.1.2.1 dX9_readRow_137 rfl (lv_at hl 5 rfl) ?_
              refine r_geti (k := 9) (j := 11) X hw rfl inX9 g_a0 rfl (by decide) (by decide) uf_X9_124 rfl dX9_readRow_138 ?_
              refine lv_iload X.1.1 X.1.2.1 dX9_readRow_141 (lv_at hl 1 rfl) ?_
              obtain ⟨g_q16, hf⟩ := ogd hf
              obtain ⟨i_17, hf⟩ := ogd hf
              refine r_iast X hw g_q16 i_17 dX9_readRow_143 (fun H locs hw => ?_)
              obtain ⟨M18, eM18, hf⟩ := olt hf
              rw [← eM18] at hw
              refine lv_aload_n X.1.1 X.1.2.1 dX9_readRow_144 rfl (lv_at hl 5 rfl) ?_
              refine lv_dup X.1.1 X.1.2.1 dX9_readRow_145 rfl ?_
              refine r_geti (k := 9) (j := 11) X hw rfl inX9 g_a0 rfl (by decide) (by decide) uf_X9_124 rfl dX9_readRow_146 ?_
              refine lv_iconst (v := (1 : Int32)) X.1.1 X.1.2.1 dX9_readRow_149 (by decide) ?_
              refine lv_iadd X.1.1 X.1.2.1 dX9_readRow_150 ?_
              refine r_puti (k := 9) (j := 11) X hw rfl inX9 tyX9_ok nmX9 g_a0 rfl (by decide) (by decide) uf_X9_124 rfl rfl rfl rfl dX9_readRow_151 (fun H locs hw => ?_)
              obtain ⟨M19, eM19, hf⟩ := olt hf
              rw [← eM19] at hw
              cases hf
              exact Jy32 _ _ _ hw (lv_sub hl [2, 3, 4, 5, 6] rfl)
            · skip
              rw [if_neg c_15] at hf
              refine lv_aload_n X.1.1 X.1.2.1 dX9_readRow_106 rfl (lv_at hl 5 rfl) ?_
              refine r_geti (k := 9) (j := 11) X hw rfl inX9 g_a0 rfl (by decide) (by decide) uf_X9_124 rfl dX9_readRow_107 ?_
              refine lv_if_le (tgt := 133) X.1.1 X.1.2.1 dX9_readRow_110 (by decide) (fun c_20 => ?_) (fun c_20 => ?_)
              · skip
                rw [if_pos c_20] at hf
                refine lv_aload_n X.1.1 X.1.2.1 dX9_readRow_133 rfl (lv_at hl 5 rfl) ?_
                obtain ⟨q21, eq21, hf⟩ := odq hf
                refine r_getq (k := 9) (j := 8) X hw rfl inX9 g_a0 rfl (by decide) (by decide) uf_X9_27 rfl dX9_readRow_134 eq21 ?_
                refine lv_aload_n X.1.1 X.1.2.1 dX9_readRow_137 rfl (lv_at hl 5 rfl) ?_
                refine r_geti (k := 9) (j := 11) X hw rfl inX9 g_a0 rfl (by decide) (by decide) uf_X9_124 rfl dX9_readRow_138 ?_
                refine lv_iload X.1.1 X.1.2.1 dX9_readRow_141 (lv_at hl 1 rfl) ?_
                obtain ⟨g_q21, hf⟩ := ogd hf
                obtain ⟨i_22, hf⟩ := ogd hf
                refine r_iast X hw g_q21 i_22 dX9_readRow_143 (fun H locs hw => ?_)
                obtain ⟨M23, eM23, hf⟩ := olt hf
                rw [← eM23] at hw
                refine lv_aload_n X.1.1 X.1.2.1 dX9_readRow_144 rfl (lv_at hl 5 rfl) ?_
                refine lv_dup X.1.1 X.1.2.1 dX9_readRow_145 rfl ?_
                refine r_geti (k := 9) (j := 11) X hw rfl inX9 g_a0 rfl (by decide) (by decide) uf_X9_124 rfl dX9_readRow_146 ?_
                refine lv_iconst (v := (1 : Int32)) X.1.1 X.1.2.1 dX9_readRow_149 (by decide) ?_
                refine lv_iadd X.1.1 X.1.2.1 dX9_readRow_150 ?_
                refine r_puti (k := 9) (j := 11) X hw rfl inX9 tyX9_ok nmX9 g_a0 rfl (by decide) (by decide) uf_X9_124 rfl rfl rfl rfl dX9_readRow_151 (fun H locs hw => ?_)
                obtain ⟨M24, eM24, hf⟩ := olt hf
                rw [← eM24] at hw
                cases hf
                exact Jy32 _ _ _ hw (lv_sub hl [2, 3, 4, 5, 6] rfl)
              · skip
                rw [if_neg c_20] at hf
                refine lv_iload X.1.1 X.1.2.1 dX9_readRow_113 (lv_at hl 0 rfl) ?_
                refine lv_aload_n X.1.1 X.1.2.1 dX9_readRow_115 rfl (lv_at hl 5 rfl) ?_
                obtain ⟨q25, eq25, hf⟩ := odq hf
                refine r_getq (k := 9) (j := 1) X hw rfl inX9 g_a0 rfl (by decide) (by decide) uf_X9_13 rfl dX9_readRow_116 eq25 ?_
                refine lv_sipush (v := (404 : Int32)) X.1.1 X.1.2.1 dX9_readRow_119 (by decide) ?_
                refine lv_iload_n X.1.1 X.1.2.1 dX9_readRow_122 rfl (lv_at hl 6 rfl) ?_
                refine lv_imul X.1.1 X.1.2.1 dX9_readRow_123 ?_
                refine lv_iconst (v := (1 : Int32)) X.1.1 X.1.2.1 dX9_readRow_124 (by decide) ?_
                refine lv_iadd X.1.1 X.1.2.1 dX9_readRow_125 ?_
                obtain ⟨g_q25, hf⟩ := ogd hf
                obtain ⟨i_26, hf⟩ := ogd hf
                refine r_iald X hw g_q25 i_26 dX9_readRow_126 ?_
                refine lv_icmp_ge (tgt := 133) X.1.1 X.1.2.1 dX9_readRow_127 (by decide) (fun c_27 => ?_) (fun c_27 => ?_)
                · skip
                  rw [if_pos c_27] at hf
                  refine lv_aload_n X.1.1 X.1.2.1 dX9_readRow_133 rfl (lv_at hl 5 rfl) ?_
                  obtain ⟨q28, eq28, hf⟩ := odq hf
                  refine r_getq (k := 9) (j := 8) X hw rfl inX9 g_a0 rfl (by decide) (by decide) uf_X9_27 rfl dX9_readRow_134 eq28 ?_
                  refine lv_aload_n X.1.1 X.1.2.1 dX9_readRow_137 rfl (lv_at hl 5 rfl) ?_
                  refine r_geti (k := 9) (j := 11) X hw rfl inX9 g_a0 rfl (by decide) (by decide) uf_X9_124 rfl dX9_readRow_138 ?_
                  refine lv_iload X.1.1 X.1.2.1 dX9_readRow_141 (lv_at hl 1 rfl) ?_
                  obtain ⟨g_q28, hf⟩ := ogd hf
                  obtain ⟨i_29, hf⟩ := ogd hf
                  refine r_iast X hw g_q28 i_29 dX9_readRow_143 (fun H locs hw => ?_)
                  obtain ⟨M30, eM30, hf⟩ := olt hf
                  rw [← eM30] at hw
                  refine lv_aload_n X.1.1 X.1.2.1 dX9_readRow_144 rfl (lv_at hl 5 rfl) ?_
                  refine lv_dup X.1.1 X.1.2.1 dX9_readRow_145 rfl ?_
                  refine r_geti (k := 9) (j := 11) X hw rfl inX9 g_a0 rfl (by decide) (by decide) uf_X9_124 rfl dX9_readRow_146 ?_
                  refine lv_iconst (v := (1 : Int32)) X.1.1 X.1.2.1 dX9_readRow_149 (by decide) ?_
                  refine lv_iadd X.1.1 X.1.2.1 dX9_readRow_150 ?_
                  refine r_puti (k := 9) (j := 11) X hw rfl inX9 tyX9_ok nmX9 g_a0 rfl (by decide) (by decide) uf_X9_124 rfl rfl rfl rfl dX9_readRow_151 (fun H locs hw => ?_)
                  obtain ⟨M31, eM31, hf⟩ := olt hf
                  rw [← eM31] at hw
                  cases hf
                  exact Jy32 _ _ _ hw (lv_sub hl [2, 3, 4, 5, 6] rfl)
                · skip
                  rw [if_neg c_27] at hf
                  refine lv_goto (tgt := 154) X.1.1 X.1.2.1 dX9_readRow_130 (by decide) ?_
                  cases hf
                  exact Jy32 _ _ _ hw (lv_sub hl [2, 3, 4, 5, 6] rfl)
          clear hf
          have hf := ey14
          clear ey14
          refine lv_icmp_le (tgt := 95) X.1.1 X.1.2.1 dX9_readRow_84 (by decide) (fun c_13 => ?_) (fun c_13 => ?_)
          · skip
            rw [if_pos c_13] at hf
            refine lv_iload X.1.1 X.1.2.1 dX9_readRow_95 (lv_at hl 0 rfl) ?_
            refine lv_iload X.1.1 X.1.2.1 dX9_readRow_97 (lv_at hl 1 rfl) ?_
            refine lv_isub X.1.1 X.1.2.1 dX9_readRow_99 ?_
            cases hf
            exact Jy14 _ _ _ hw (lv_sub hl [1, 2, 3, 4, 5, 6] rfl)
          · skip
            rw [if_neg c_13] at hf
            refine lv_iload X.1.1 X.1.2.1 dX9_readRow_87 (lv_at hl 1 rfl) ?_
            refine lv_iload X.1.1 X.1.2.1 dX9_readRow_89 (lv_at hl 0 rfl) ?_
            refine lv_isub X.1.1 X.1.2.1 dX9_readRow_91 ?_
            refine lv_goto (tgt := 100) X.1.1 X.1.2.1 dX9_readRow_92 (by decide) ?_
            cases hf
            exact Jy14 _ _ _ hw (lv_sub hl [1, 2, 3, 4, 5, 6] rfl)
        clear hf
        have hf := ey12
        clear ey12
        refine lv_if_ne (tgt := 67) X.1.1 X.1.2.1 dX9_readRow_60 (by decide) (fun c_9 => ?_) (fun c_9 => ?_)
        · skip
          rw [if_pos c_9] at hf
          refine lv_aload_n X.1.1 X.1.2.1 dX9_readRow_67 rfl (lv_at hl 4 rfl) ?_
          obtain ⟨q10, eq10, hf⟩ := odq hf
          refine r_getq (k := 9) (j := 8) X hw rfl inX9 g_a0 rfl (by decide) (by decide) uf_X9_27 rfl dX9_readRow_68 eq10 ?_
          refine lv_aload_n X.1.1 X.1.2.1 dX9_readRow_71 rfl (lv_at hl 4 rfl) ?_
          refine r_geti (k := 9) (j := 11) X hw rfl inX9 g_a0 rfl (by decide) (by decide) uf_X9_124 rfl dX9_readRow_72 ?_
          refine lv_iconst (v := (1 : Int32)) X.1.1 X.1.2.1 dX9_readRow_75 (by decide) ?_
          refine lv_isub X.1.1 X.1.2.1 dX9_readRow_76 ?_
          obtain ⟨g_q10, hf⟩ := ogd hf
          obtain ⟨i_11, hf⟩ := ogd hf
          refine r_iald X hw g_q10 i_11 dX9_readRow_77 ?_
          cases hf
          exact Jy12 _ _ _ hw (lv_sub hl [0, 1, 2, 3, 4, 5] rfl)
        · skip
          rw [if_neg (fun z => z c_9)] at hf
          refine lv_iconst (v := (0 : Int32)) X.1.1 X.1.2.1 dX9_readRow_63 (by decide) ?_
          refine lv_goto (tgt := 78) X.1.1 X.1.2.1 dX9_readRow_64 (by decide) ?_
          cases hf
          exact Jy12 _ _ _ hw (lv_sub hl [0, 1, 2, 3, 4, 5] rfl)
      · skip
        rw [if_neg c_8] at hf
        refine lv_goto (tgt := 154) X.1.1 X.1.2.1 dX9_readRow_53 (by decide) ?_
        cases hf
        exact Jy32 _ _ _ hw (lv_sub hl [1, 2, 3, 4, 5] rfl)
def lp_X9_readRow_191 (h : Hs) (w5 : Int32) (a0 : Nat) (q37 : Nat) (q38 : Nat) : Nat → Int32 → Mm → Option (Int32 × Mm)
  | 0, _, _ => none
  | n + 1, v6, M =>
    if w5 ≤ v6 then
      some (v6, M)
    else
      gd (ok h q38 11) <|
      gd (inb v6 (zN h q38)) <|
      gd (ok h q37 11) <|
      gd (inb v6 (zN h q37)) <|
      lt_ (sI M q37 v6.toNatClampNeg (zI M q38 v6.toNatClampNeg)) fun M43 =>
      lt_ (v6 + (1 : Int32)) fun x44 =>
      lp_X9_readRow_191 h w5 a0 q37 q38 n x44 M43
set_option maxHeartbeats 4000000 in
set_option maxRecDepth 100000 in
theorem wlp_X9_readRow_191 {l : Launch} {D : va_G} {cy : Nat → ClassId} {h : Hs} {w5 : Int32} {a0 : Nat} {q37 : Nat} {q38 : Nat} {p : Program} {e : Env} {s : State} {m : MethodId} {args : Array Value} {below : List Frame} {meth : Method} {c : Code} {A : Nat → Prop} (X : Cx p s m args c cX9_readRow 9 gtbl RX9 D cy A) {Q : State → Prop} (g_a0 : ok h a0 9) (eq37 : zR h a0 8 = some q37) (eq38 : zR h a0 10 = some q38) : ∀ (n : Nat) (v6 : Int32) (M : Mm) (z : (Int32 × Mm)) (H : Heap) (locs : List Loc) (ls : Array Slot), lp_X9_readRow_191 h w5 a0 q37 q38 n v6 M = some z → Wd D cy A s.heap h M H locs → lv_has ls 9 [(6, .int v6), (5, .int w5), (0, .ref a0)] → (∀ x : (Int32 × Mm), z = x → ∀ (H : Heap) (locs : List Loc) (ls : Array Slot), Wd D cy A s.heap h x.2 H locs → lv_has ls 9 [(6, .int x.1), (5, .int w5), (0, .ref a0)] → W p l e ({ frames := 4, cells := 0, slots := 0, locals := 87 } : Room) s m args below meth c H locs 0 0 Q (F0 m 218 ls [])) → W p l e ({ frames := 4, cells := 0, slots := 0, locals := 87 } : Room) s m args below meth c H locs 0 0 Q (F0 m 191 ls []) := by
  intro n
  induction n with
  | zero => intro v6 M z H locs ls hf hw hl kx; exact absurd hf (by intro q; cases q)
  | succ n ih =>
    intro v6 M z H locs ls hf hw hl kx
    unfold lp_X9_readRow_191 at hf
    refine lv_iload X.1.1 X.1.2.1 dX9_readRow_191 (lv_at hl 0 rfl) ?_
    refine lv_iload X.1.1 X.1.2.1 dX9_readRow_193 (lv_at hl 1 rfl) ?_
    refine lv_icmp_ge (tgt := 218) X.1.1 X.1.2.1 dX9_readRow_195 (by decide) (fun c_40 => ?_) (fun c_40 => ?_)
    · skip
      rw [if_pos c_40] at hf
      cases hf
      exact kx _ rfl _ _ _ hw (lv_sub hl [0, 1, 2] rfl)
    · skip
      rw [if_neg c_40] at hf
      refine lv_aload_n X.1.1 X.1.2.1 dX9_readRow_198 rfl (lv_at hl 2 rfl) ?_
      refine r_getq (k := 9) (j := 8) X hw rfl inX9 g_a0 rfl (by decide) (by decide) uf_X9_27 rfl dX9_readRow_199 eq37 ?_
      refine lv_iload X.1.1 X.1.2.1 dX9_readRow_202 (lv_at hl 0 rfl) ?_
      refine lv_aload_n X.1.1 X.1.2.1 dX9_readRow_204 rfl (lv_at hl 2 rfl) ?_
      refine r_getq (k := 9) (j := 10) X hw rfl inX9 g_a0 rfl (by decide) (by decide) uf_X9_33 rfl dX9_readRow_205 eq38 ?_
      refine lv_iload X.1.1 X.1.2.1 dX9_readRow_208 (lv_at hl 0 rfl) ?_
      obtain ⟨g_q38, hf⟩ := ogd hf
      obtain ⟨i_41, hf⟩ := ogd hf
      refine r_iald X hw g_q38 i_41 dX9_readRow_210 ?_
      obtain ⟨g_q37, hf⟩ := ogd hf
      obtain ⟨i_42, hf⟩ := ogd hf
      refine r_iast X hw g_q37 i_42 dX9_readRow_211 (fun H locs hw => ?_)
      obtain ⟨M43, eM43, hf⟩ := olt hf
      rw [← eM43] at hw
      obtain ⟨x44, ex44, hf⟩ := olt hf
      refine lv_iinc (v := x44) (lv' := [(6, .int x44), (5, .int w5), (0, .ref a0)]) X.1.1 X.1.2.1 dX9_readRow_212 hl (k := 0) rfl (by rw [ex44]; rfl) (by decide) rfl (fun ls hl => ?_)
      refine lv_goto (tgt := 191) X.1.1 X.1.2.1 dX9_readRow_215 (by decide) ?_
      exact ih _ _ _ _ _ _ hf hw (lv_sub hl [0, 1, 2] rfl) kx
def f_X9_readRow (h : Hs) (a0 : Nat) (p1 : Int32) (p2 : Int32) (M : Mm) : Option Mm :=
  gd (ok h a0 9) <|
  lt_ (sI M a0 11 (0 : Int32)) fun M1 =>
  (f_X9_kindOf h a0 p1 M1).bind fun z2 =>
  Option.bind (
    if ¬ z2 = (1 : Int32) then
      some (0 : Int32)
    else
      some (1 : Int32)
    ) fun y4 =>
  (f_X9_spans h a0 p1 M1).bind fun z5 =>
  (lp_X9_readRow_30 h z5 y4 p1 a0 fuel p2 M1).bind fun z34 =>
  (f_X9_kindOf h a0 p1 z34.2).bind fun z35 =>
  if z35 = (2 : Int32) then
    dq (zR h a0 8) fun q37 =>
    dq (zR h a0 10) fun q38 =>
    (f_X9_turnsOf h a0 q37 (zI z34.2 a0 11) q38 z34.2).bind fun z39 =>
    (lp_X9_readRow_191 h z39.1 a0 q37 q38 fuel (0 : Int32) z39.2).bind fun z45 =>
    lt_ (sI z45.2 a0 11 z39.1) fun M46 =>
    some M46
  else
    some z34.2
set_option maxHeartbeats 4000000 in
set_option maxRecDepth 100000 in
theorem c_X9_readRow {l : Launch} {D : va_G} {cy : Nat → ClassId} {h : Hs} {a0 : Nat} {p1 : Int32} {p2 : Int32} {M : Mm} {z : Mm} (hf : f_X9_readRow h a0 p1 p2 M = some z) : CtV l D cy yX9_readRow (wu yX9_readRow cX9_readRow 9 none) ({ frames := 4, cells := 0, slots := 0, locals := 87 }) [.ref a0, .int p1, .int p2] h M z := by
  refine enterV (cc := cX9_readRow) (maxL := 9) (ret := none) (by decide) (Nat.le_of_ble_eq_true rfl) ?_
  intro p e s m args below meth c A ls X hw hr hlk hl
  have hl : lv_has ls 9 [(0, .ref a0), (1, .int p1), (2, .int p2)] := hl
  unfold f_X9_readRow at hf
  refine lv_aload_n X.1.1 X.1.2.1 dX9_readRow_0 rfl (lv_at hl 0 rfl) ?_
  refine lv_iconst (v := (0 : Int32)) X.1.1 X.1.2.1 dX9_readRow_1 (by decide) ?_
  obtain ⟨g_a0, hf⟩ := ogd hf
  refine r_puti (k := 9) (j := 11) X hw rfl inX9 tyX9_ok nmX9 g_a0 rfl (by decide) (by decide) uf_X9_124 rfl rfl rfl rfl dX9_readRow_2 (fun H locs hw => ?_)
  obtain ⟨M1, eM1, hf⟩ := olt hf
  rw [← eM1] at hw
  refine lv_aload_n X.1.1 X.1.2.1 dX9_readRow_5 rfl (lv_at hl 0 rfl) ?_
  refine lv_iload_n X.1.1 X.1.2.1 dX9_readRow_6 rfl (lv_at hl 1 rfl) ?_
  obtain ⟨z2, ez2, hf⟩ := obd hf
  refine r_callVI (As := [.int p1]) (rest := []) X hw (c_X9_kindOf ez2) (cwV 1 X.1.2.2.2.2 (guV um_X9_79 ui_X9_kindOf us_X9_kindOf un_X9 uo_X9_kindOf) rfl rfl rfl (by decide +kernel) ⟨Nat.le_of_ble_eq_true rfl, Nat.le_of_ble_eq_true rfl⟩) g_a0 (by decide) rfl rfl hl.1 rfl (Nat.le_of_ble_eq_true rfl) dX9_readRow_7 ⟨Nat.zero_le _, Nat.zero_le _⟩ (fun H locs hw => ?_)
  refine lv_iconst (v := (1 : Int32)) X.1.1 X.1.2.1 dX9_readRow_10 (by decide) ?_
  obtain ⟨y4, ey4, hf⟩ := obd hf
  have Jy4 : ∀ (H : Heap) (locs : List Loc) (ls : Array Slot), Wd D cy A s.heap h M1 H locs → lv_has ls 9 [(0, .ref a0), (1, .int p1), (2, .int p2)] → W p l e ({ frames := 4, cells := 0, slots := 0, locals := 87 } : Room) s m args below meth c H locs 0 0 (QV below D cy A h args s z) (F0 m 19 ls [.int y4]) := by
    intro H locs ls hw hl
    refine lv_istore_n (lv' := [(3, .int y4), (0, .ref a0), (1, .int p1), (2, .int p2)]) X.1.1 X.1.2.1 dX9_readRow_19 rfl hl (by decide) rfl (fun ls hl => ?_)
    refine lv_aload_n X.1.1 X.1.2.1 dX9_readRow_20 rfl (lv_at hl 1 rfl) ?_
    refine lv_iload_n X.1.1 X.1.2.1 dX9_readRow_21 rfl (lv_at hl 2 rfl) ?_
    obtain ⟨z5, ez5, hf⟩ := obd hf
    refine r_callVI (As := [.int p1]) (rest := []) X hw (c_X9_spans ez5) (cwV 1 X.1.2.2.2.2 (guV um_X9_121 ui_X9_spans us_X9_spans un_X9 uo_X9_spans) rfl rfl rfl (by decide +kernel) ⟨Nat.le_of_ble_eq_true rfl, Nat.le_of_ble_eq_true rfl⟩) g_a0 (by decide) rfl rfl hl.1 rfl (Nat.le_of_ble_eq_true rfl) dX9_readRow_22 ⟨Nat.zero_le _, Nat.zero_le _⟩ (fun H locs hw => ?_)
    refine lv_istore (lv' := [(4, .int z5), (3, .int y4), (0, .ref a0), (1, .int p1), (2, .int p2)]) X.1.1 X.1.2.1 dX9_readRow_25 hl (by decide) rfl (fun ls hl => ?_)
    refine lv_iload_n X.1.1 X.1.2.1 dX9_readRow_27 rfl (lv_at hl 4 rfl) ?_
    refine lv_istore (lv' := [(5, .int p2), (4, .int z5), (3, .int y4), (0, .ref a0), (1, .int p1), (2, .int p2)]) X.1.1 X.1.2.1 dX9_readRow_28 hl (by decide) rfl (fun ls hl => ?_)
    obtain ⟨z34, ez34, hf⟩ := obd hf
    refine wlp_X9_readRow_30 X g_a0 fuel _ _ _ _ _ _ ez34 hw (lv_sub hl [0, 1, 2, 3, 4] rfl) (fun x ex H locs ls hw hl => ?_)
    subst ex
    refine lv_aload_n X.1.1 X.1.2.1 dX9_readRow_160 rfl (lv_at hl 3 rfl) ?_
    refine lv_iload_n X.1.1 X.1.2.1 dX9_readRow_161 rfl (lv_at hl 4 rfl) ?_
    obtain ⟨z35, ez35, hf⟩ := obd hf
    refine r_callVI (As := [.int p1]) (rest := []) X hw (c_X9_kindOf ez35) (cwV 1 X.1.2.2.2.2 (guV um_X9_79 ui_X9_kindOf us_X9_kindOf un_X9 uo_X9_kindOf) rfl rfl rfl (by decide +kernel) ⟨Nat.le_of_ble_eq_true rfl, Nat.le_of_ble_eq_true rfl⟩) g_a0 (by decide) rfl rfl hl.1 rfl (Nat.le_of_ble_eq_true rfl) dX9_readRow_162 ⟨Nat.zero_le _, Nat.zero_le _⟩ (fun H locs hw => ?_)
    refine lv_iconst (v := (2 : Int32)) X.1.1 X.1.2.1 dX9_readRow_165 (by decide) ?_
    refine lv_icmp_eq (tgt := 170) X.1.1 X.1.2.1 dX9_readRow_166 (by decide) (fun c_36 => ?_) (fun c_36 => ?_)
    · skip
      rw [if_pos c_36] at hf
      refine lv_aload_n X.1.1 X.1.2.1 dX9_readRow_170 rfl (lv_at hl 3 rfl) ?_
      refine lv_aload_n X.1.1 X.1.2.1 dX9_readRow_171 rfl (lv_at hl 3 rfl) ?_
      obtain ⟨q37, eq37, hf⟩ := odq hf
      refine r_getq (k := 9) (j := 8) X hw rfl inX9 g_a0 rfl (by decide) (by decide) uf_X9_27 rfl dX9_readRow_172 eq37 ?_
      refine lv_aload_n X.1.1 X.1.2.1 dX9_readRow_175 rfl (lv_at hl 3 rfl) ?_
      refine r_geti (k := 9) (j := 11) X hw rfl inX9 g_a0 rfl (by decide) (by decide) uf_X9_124 rfl dX9_readRow_176 ?_
      refine lv_aload_n X.1.1 X.1.2.1 dX9_readRow_179 rfl (lv_at hl 3 rfl) ?_
      obtain ⟨q38, eq38, hf⟩ := odq hf
      refine r_getq (k := 9) (j := 10) X hw rfl inX9 g_a0 rfl (by decide) (by decide) uf_X9_33 rfl dX9_readRow_180 eq38 ?_
      obtain ⟨z39, ez39, hf⟩ := obd hf
      refine r_callVI (As := [.ref q37, .int (zI z34.2 a0 11), .ref q38]) (rest := []) X hw (c_X9_turnsOf ez39) (cwV 3 X.1.2.2.2.2 (guV um_X9_130 ui_X9_turnsOf us_X9_turnsOf un_X9 uo_X9_turnsOf) rfl rfl rfl (by decide +kernel) ⟨Nat.le_of_ble_eq_true rfl, Nat.le_of_ble_eq_true rfl⟩) g_a0 (by decide) rfl rfl hl.1 rfl (Nat.le_of_ble_eq_true rfl) dX9_readRow_183 ⟨Nat.zero_le _, Nat.zero_le _⟩ (fun H locs hw => ?_)
      refine lv_istore (lv' := [(5, .int z39.1), (4, .int z5), (3, .int y4), (0, .ref a0), (1, .int p1)]) X.1.1 X.1.2.1 dX9_readRow_186 hl (by decide) rfl (fun ls hl => ?_)
      refine lv_iconst (v := (0 : Int32)) X.1.1 X.1.2.1 dX9_readRow_188 (by decide) ?_
      refine lv_istore (lv' := [(6, .int (0 : Int32)), (5, .int z39.1), (4, .int z5), (3, .int y4), (0, .ref a0), (1, .int p1)]) X.1.1 X.1.2.1 dX9_readRow_189 hl (by decide) rfl (fun ls hl => ?_)
      obtain ⟨z45, ez45, hf⟩ := obd hf
      refine wlp_X9_readRow_191 X g_a0 eq37 eq38 fuel _ _ _ _ _ _ ez45 hw (lv_sub hl [0, 1, 4] rfl) (fun x ex H locs ls hw hl => ?_)
      subst ex
      refine lv_aload_n X.1.1 X.1.2.1 dX9_readRow_218 rfl (lv_at hl 2 rfl) ?_
      refine lv_iload X.1.1 X.1.2.1 dX9_readRow_219 (lv_at hl 1 rfl) ?_
      refine r_puti (k := 9) (j := 11) X hw rfl inX9 tyX9_ok nmX9 g_a0 rfl (by decide) (by decide) uf_X9_124 rfl rfl rfl rfl dX9_readRow_221 (fun H locs hw => ?_)
      obtain ⟨M46, eM46, hf⟩ := olt hf
      rw [← eM46] at hw
      cases hf
      exact r_retV X hw hr hlk dX9_readRow_224
    · skip
      rw [if_neg c_36] at hf
      cases hf
      exact r_retV X hw hr hlk dX9_readRow_169
  clear hf
  have hf := ey4
  clear ey4
  refine lv_icmp_ne (tgt := 18) X.1.1 X.1.2.1 dX9_readRow_11 (by decide) (fun c_3 => ?_) (fun c_3 => ?_)
  · skip
    rw [if_pos c_3] at hf
    refine lv_iconst (v := (0 : Int32)) X.1.1 X.1.2.1 dX9_readRow_18 (by decide) ?_
    cases hf
    exact Jy4 _ _ _ hw (lv_sub hl [0, 1, 2] rfl)
  · skip
    rw [if_neg (fun z => z c_3)] at hf
    refine lv_iconst (v := (1 : Int32)) X.1.1 X.1.2.1 dX9_readRow_14 (by decide) ?_
    refine lv_goto (tgt := 19) X.1.1 X.1.2.1 dX9_readRow_15 (by decide) ?_
    cases hf
    exact Jy4 _ _ _ hw (lv_sub hl [0, 1, 2] rfl)
/-! X9_ahead -/
def lp_X9_ahead_4 (h : Hs) (a0 : Nat) (M : Mm) : Nat → Int32 → Option Int32
  | 0, _ => none
  | n + 1, v2 =>
    if v2 < 0 then
      some v2
    else
      gd (ok h a0 9) <|
      dq (zR h a0 17) fun q3 =>
      gd (ok h q3 13) <|
      gd (inb v2 (zN h q3)) <|
      if (zI M q3 v2.toNatClampNeg) = 0 then
        some v2
      else
        lt_ (v2 + (-1 : Int32)) fun x6 =>
        lp_X9_ahead_4 h a0 M n x6
set_option maxHeartbeats 4000000 in
set_option maxRecDepth 100000 in
theorem wlp_X9_ahead_4 {l : Launch} {D : va_G} {cy : Nat → ClassId} {h : Hs} {a0 : Nat} {M : Mm} {p : Program} {e : Env} {s : State} {m : MethodId} {args : Array Value} {below : List Frame} {meth : Method} {c : Code} {A : Nat → Prop} (X : Cx p s m args c cX9_ahead 3 gtbl RX9 D cy A) {Q : State → Prop} : ∀ (n : Nat) (v2 : Int32) (z : Int32) (H : Heap) (locs : List Loc) (ls : Array Slot), lp_X9_ahead_4 h a0 M n v2 = some z → Wd D cy A s.heap h M H locs → lv_has ls 3 [(2, .int v2), (0, .ref a0)] → (∀ x : Int32, z = x → ∀ (H : Heap) (locs : List Loc) (ls : Array Slot), Wd D cy A s.heap h M H locs → lv_has ls 3 [(2, .int x), (0, .ref a0)] → W p l e ({ frames := 0, cells := 0, slots := 0, locals := 0 } : Room) s m args below meth c H locs 0 0 Q (F0 m 23 ls [])) → W p l e ({ frames := 0, cells := 0, slots := 0, locals := 0 } : Room) s m args below meth c H locs 0 0 Q (F0 m 4 ls []) := by
  intro n
  induction n with
  | zero => intro v2 z H locs ls hf hw hl kx; exact absurd hf (by intro q; cases q)
  | succ n ih =>
    intro v2 z H locs ls hf hw hl kx
    unfold lp_X9_ahead_4 at hf
    refine lv_iload_n X.1.1 X.1.2.1 dX9_ahead_4 rfl (lv_at hl 0 rfl) ?_
    refine lv_if_lt (tgt := 23) X.1.1 X.1.2.1 dX9_ahead_5 (by decide) (fun c_2 => ?_) (fun c_2 => ?_)
    · skip
      rw [if_pos c_2] at hf
      cases hf
      exact kx _ rfl _ _ _ hw (lv_sub hl [0, 1] rfl)
    · skip
      rw [if_neg c_2] at hf
      refine lv_aload_n X.1.1 X.1.2.1 dX9_ahead_8 rfl (lv_at hl 1 rfl) ?_
      obtain ⟨g_a0, hf⟩ := ogd hf
      obtain ⟨q3, eq3, hf⟩ := odq hf
      refine r_getq (k := 9) (j := 17) X hw rfl inX9 g_a0 rfl (by decide) (by decide) uf_X9_45 rfl dX9_ahead_9 eq3 ?_
      refine lv_iload_n X.1.1 X.1.2.1 dX9_ahead_12 rfl (lv_at hl 0 rfl) ?_
      obtain ⟨g_q3, hf⟩ := ogd hf
      obtain ⟨i_4, hf⟩ := ogd hf
      refine r_zald X hw g_q3 i_4 dX9_ahead_13 ?_
      refine lv_if_eq (tgt := 23) X.1.1 X.1.2.1 dX9_ahead_14 (by decide) (fun c_5 => ?_) (fun c_5 => ?_)
      · skip
        rw [if_pos c_5] at hf
        cases hf
        exact kx _ rfl _ _ _ hw (lv_sub hl [0, 1] rfl)
      · skip
        rw [if_neg c_5] at hf
        obtain ⟨x6, ex6, hf⟩ := olt hf
        refine lv_iinc (v := x6) (lv' := [(2, .int x6), (0, .ref a0)]) X.1.1 X.1.2.1 dX9_ahead_17 hl (k := 0) rfl (by rw [ex6]; rfl) (by decide) rfl (fun ls hl => ?_)
        refine lv_goto (tgt := 4) X.1.1 X.1.2.1 dX9_ahead_20 (by decide) ?_
        exact ih _ _ _ _ _ hf hw (lv_sub hl [0, 1] rfl) kx
def f_X9_ahead (h : Hs) (a0 : Nat) (p1 : Int32) (M : Mm) : Option Int32 :=
  lt_ (p1 - (1 : Int32)) fun x1 =>
  (lp_X9_ahead_4 h a0 M fuel x1).bind fun z7 =>
  some z7
set_option maxHeartbeats 4000000 in
set_option maxRecDepth 100000 in
theorem c_X9_ahead {l : Launch} {D : va_G} {cy : Nat → ClassId} {h : Hs} {a0 : Nat} {p1 : Int32} {M : Mm} {z : Int32} (hf : f_X9_ahead h a0 p1 M = some z) : CtI l D cy yX9_ahead (wu yX9_ahead cX9_ahead 3 (some .int)) ({ frames := 0, cells := 0, slots := 0, locals := 0 }) [.ref a0, .int p1] h M z M := by
  refine enterI (cc := cX9_ahead) (maxL := 3) (ret := (some .int)) (by decide) (Nat.le_of_ble_eq_true rfl) ?_
  intro p e s m args below meth c A ls X hw hr hlk hl
  have hl : lv_has ls 3 [(0, .ref a0), (1, .int p1)] := hl
  unfold f_X9_ahead at hf
  refine lv_iload_n X.1.1 X.1.2.1 dX9_ahead_0 rfl (lv_at hl 1 rfl) ?_
  refine lv_iconst (v := (1 : Int32)) X.1.1 X.1.2.1 dX9_ahead_1 (by decide) ?_
  refine lv_isub X.1.1 X.1.2.1 dX9_ahead_2 ?_
  refine lv_topi (fun x1 ex1 => ?_)
  have hf := oltE ex1 hf
  refine lv_istore_n (lv' := [(2, .int x1), (0, .ref a0), (1, .int p1)]) X.1.1 X.1.2.1 dX9_ahead_3 rfl hl (by decide) rfl (fun ls hl => ?_)
  obtain ⟨z7, ez7, hf⟩ := obd hf
  refine wlp_X9_ahead_4 X fuel _ _ _ _ _ ez7 hw (lv_sub hl [0, 1] rfl) (fun x ex H locs ls hw hl => ?_)
  subst ex
  refine lv_iload_n X.1.1 X.1.2.1 dX9_ahead_23 rfl (lv_at hl 0 rfl) ?_
  cases hf
  exact r_retI X hw hr hlk rfl dX9_ahead_24
/-! X9_between -/
def f_X9_between (h : Hs) (p1 : Int32) (p2 : Int32) (p3 : Int32) (M : Mm) : Option Int32 :=
  if p3 ≤ p2 then
    if p1 < p3 then
      some (0 : Int32)
    else
      if p2 < p1 then
        some (0 : Int32)
      else
        some (1 : Int32)
  else
    if p1 < p2 then
      some (0 : Int32)
    else
      if p3 < p1 then
        some (0 : Int32)
      else
        some (1 : Int32)
set_option maxHeartbeats 4000000 in
set_option maxRecDepth 100000 in
theorem c_X9_between {l : Launch} {D : va_G} {cy : Nat → ClassId} {h : Hs} {p1 : Int32} {p2 : Int32} {p3 : Int32} {M : Mm} {z : Int32} (hf : f_X9_between h p1 p2 p3 M = some z) : CtI l D cy yX9_between (wu yX9_between cX9_between 3 (some .boolean)) ({ frames := 0, cells := 0, slots := 0, locals := 0 }) [.int p1, .int p2, .int p3] h M z M := by
  refine enterI (cc := cX9_between) (maxL := 3) (ret := (some .boolean)) (by decide) (Nat.le_of_ble_eq_true rfl) ?_
  intro p e s m args below meth c A ls X hw hr hlk hl
  have hl : lv_has ls 3 [(0, .int p1), (1, .int p2), (2, .int p3)] := hl
  unfold f_X9_between at hf
  refine lv_iload_n X.1.1 X.1.2.1 dX9_between_0 rfl (lv_at hl 1 rfl) ?_
  refine lv_iload_n X.1.1 X.1.2.1 dX9_between_1 rfl (lv_at hl 2 rfl) ?_
  refine lv_icmp_ge (tgt := 23) X.1.1 X.1.2.1 dX9_between_2 (by decide) (fun c_1 => ?_) (fun c_1 => ?_)
  · skip
    rw [if_pos c_1] at hf
    refine lv_iload_n X.1.1 X.1.2.1 dX9_between_23 rfl (lv_at hl 0 rfl) ?_
    refine lv_iload_n X.1.1 X.1.2.1 dX9_between_24 rfl (lv_at hl 2 rfl) ?_
    refine lv_icmp_lt (tgt := 37) X.1.1 X.1.2.1 dX9_between_25 (by decide) (fun c_2 => ?_) (fun c_2 => ?_)
    · skip
      rw [if_pos c_2] at hf
      refine lv_iconst (v := (0 : Int32)) X.1.1 X.1.2.1 dX9_between_37 (by decide) ?_
      cases hf
      exact r_retI X hw hr hlk rfl dX9_between_38
    · skip
      rw [if_neg c_2] at hf
      refine lv_iload_n X.1.1 X.1.2.1 dX9_between_28 rfl (lv_at hl 0 rfl) ?_
      refine lv_iload_n X.1.1 X.1.2.1 dX9_between_29 rfl (lv_at hl 1 rfl) ?_
      refine lv_icmp_gt (tgt := 37) X.1.1 X.1.2.1 dX9_between_30 (by decide) (fun c_3 => ?_) (fun c_3 => ?_)
      · skip
        rw [if_pos c_3] at hf
        refine lv_iconst (v := (0 : Int32)) X.1.1 X.1.2.1 dX9_between_37 (by decide) ?_
        cases hf
        exact r_retI X hw hr hlk rfl dX9_between_38
      · skip
        rw [if_neg c_3] at hf
        refine lv_iconst (v := (1 : Int32)) X.1.1 X.1.2.1 dX9_between_33 (by decide) ?_
        refine lv_goto (tgt := 38) X.1.1 X.1.2.1 dX9_between_34 (by decide) ?_
        cases hf
        exact r_retI X hw hr hlk rfl dX9_between_38
  · skip
    rw [if_neg c_1] at hf
    refine lv_iload_n X.1.1 X.1.2.1 dX9_between_5 rfl (lv_at hl 0 rfl) ?_
    refine lv_iload_n X.1.1 X.1.2.1 dX9_between_6 rfl (lv_at hl 1 rfl) ?_
    refine lv_icmp_lt (tgt := 19) X.1.1 X.1.2.1 dX9_between_7 (by decide) (fun c_4 => ?_) (fun c_4 => ?_)
    · skip
      rw [if_pos c_4] at hf
      refine lv_iconst (v := (0 : Int32)) X.1.1 X.1.2.1 dX9_between_19 (by decide) ?_
      refine lv_goto (tgt := 38) X.1.1 X.1.2.1 dX9_between_20 (by decide) ?_
      cases hf
      exact r_retI X hw hr hlk rfl dX9_between_38
    · skip
      rw [if_neg c_4] at hf
      refine lv_iload_n X.1.1 X.1.2.1 dX9_between_10 rfl (lv_at hl 0 rfl) ?_
      refine lv_iload_n X.1.1 X.1.2.1 dX9_between_11 rfl (lv_at hl 2 rfl) ?_
      refine lv_icmp_gt (tgt := 19) X.1.1 X.1.2.1 dX9_between_12 (by decide) (fun c_5 => ?_) (fun c_5 => ?_)
      · skip
        rw [if_pos c_5] at hf
        refine lv_iconst (v := (0 : Int32)) X.1.1 X.1.2.1 dX9_between_19 (by decide) ?_
        refine lv_goto (tgt := 38) X.1.1 X.1.2.1 dX9_between_20 (by decide) ?_
        cases hf
        exact r_retI X hw hr hlk rfl dX9_between_38
      · skip
        rw [if_neg c_5] at hf
        refine lv_iconst (v := (1 : Int32)) X.1.1 X.1.2.1 dX9_between_15 (by decide) ?_
        refine lv_goto (tgt := 38) X.1.1 X.1.2.1 dX9_between_16 (by decide) ?_
        cases hf
        exact r_retI X hw hr hlk rfl dX9_between_38
/-! X9_look -/
def lp_X9_look_51 (h : Hs) (w3 : Int32) (a0 : Nat) (q8 : Nat) (q3 : Nat) : Nat → Int32 → Mm → Option (Int32 × Mm)
  | 0, _, _ => none
  | n + 1, v4, M =>
    if v4 = 0 then
      some (v4, M)
    else
      (f_X9_ahead h a0 w3 M).bind fun z12 =>
      (f_X9_ahead h a0 z12 M).bind fun z13 =>
      (f_X9_ahead h a0 z13 M).bind fun z14 =>
      Option.bind (
        if z12 < 0 then
          some (0 : Int32)
        else
          if z13 < 0 then
            some (0 : Int32)
          else
            if z14 < 0 then
              some (0 : Int32)
            else
              gd (ok h q3 11) <|
              gd (inb z13 (zN h q3)) <|
              gd (inb z14 (zN h q3)) <|
              gd (inb w3 (zN h q3)) <|
              (f_X9_between h (zI M q3 z13.toNatClampNeg) (zI M q3 z14.toNatClampNeg) (zI M q3 w3.toNatClampNeg) M).bind fun z21 =>
              if z21 = 0 then
                some (0 : Int32)
              else
                gd (inb z12 (zN h q3)) <|
                gd (inb z14 (zN h q3)) <|
                gd (inb w3 (zN h q3)) <|
                (f_X9_between h (zI M q3 z12.toNatClampNeg) (zI M q3 z14.toNatClampNeg) (zI M q3 w3.toNatClampNeg) M).bind fun z26 =>
                if z26 = 0 then
                  some (0 : Int32)
                else
                  some (1 : Int32)
        ) fun y28 =>
      if ¬ y28 = 0 then
        gd (inb z13 (zN h q8)) <|
        lt_ (sI M q8 z13.toNatClampNeg (1 : Int32)) fun M31 =>
        gd (inb z12 (zN h q8)) <|
        lt_ (sI M31 q8 z12.toNatClampNeg (1 : Int32)) fun M33 =>
        dq (zR h a0 13) fun q34 =>
        gd (ok h q34 11) <|
        gd (inb (zI M33 a0 16) (zN h q34)) <|
        lt_ (sI M33 q34 (zI M33 a0 16).toNatClampNeg z13) fun M36 =>
        dq (zR h a0 14) fun q37 =>
        gd (ok h q37 11) <|
        gd (inb (zI M36 a0 16) (zN h q37)) <|
        lt_ (sI M36 q37 (zI M36 a0 16).toNatClampNeg z12) fun M39 =>
        dq (zR h a0 15) fun q40 =>
        gd (ok h q40 11) <|
        gd (inb (zI M39 a0 16) (zN h q40)) <|
        lt_ (sI M39 q40 (zI M39 a0 16).toNatClampNeg w3) fun M42 =>
        lt_ (sI M42 a0 16 ((zI M42 a0 16) + (1 : Int32))) fun M43 =>
        lp_X9_look_51 h w3 a0 q8 q3 n y28 M43
      else
        lp_X9_look_51 h w3 a0 q8 q3 n y28 M
set_option maxHeartbeats 4000000 in
set_option maxRecDepth 100000 in
theorem wlp_X9_look_51 {l : Launch} {D : va_G} {cy : Nat → ClassId} {h : Hs} {w3 : Int32} {a0 : Nat} {q8 : Nat} {q3 : Nat} {p : Program} {e : Env} {s : State} {m : MethodId} {args : Array Value} {below : List Frame} {meth : Method} {c : Code} {A : Nat → Prop} (X : Cx p s m args c cX9_look 8 gtbl RX9 D cy A) {Q : State → Prop} (g_a0 : ok h a0 9) (g_q8 : ok h q8 13) (eq3 : zR h a0 9 = some q3) (eq8 : zR h a0 17 = some q8) : ∀ (n : Nat) (v4 : Int32) (M : Mm) (z : (Int32 × Mm)) (H : Heap) (locs : List Loc) (ls : Array Slot), lp_X9_look_51 h w3 a0 q8 q3 n v4 M = some z → Wd D cy A s.heap h M H locs → lv_has ls 8 [(4, .int v4), (3, .int w3), (0, .ref a0)] → (∀ x : (Int32 × Mm), z = x → ∀ (H : Heap) (locs : List Loc) (ls : Array Slot), Wd D cy A s.heap h x.2 H locs → lv_has ls 8 [(4, .int x.1), (3, .int w3), (0, .ref a0)] → W p l e ({ frames := 5, cells := 0, slots := 0, locals := 115 } : Room) s m args below meth c H locs 0 0 Q (F0 m 222 ls [])) → W p l e ({ frames := 5, cells := 0, slots := 0, locals := 115 } : Room) s m args below meth c H locs 0 0 Q (F0 m 51 ls []) := by
  intro n
  induction n with
  | zero => intro v4 M z H locs ls hf hw hl kx; exact absurd hf (by intro q; cases q)
  | succ n ih =>
    intro v4 M z H locs ls hf hw hl kx
    unfold lp_X9_look_51 at hf
    refine lv_iload X.1.1 X.1.2.1 dX9_look_51 (lv_at hl 0 rfl) ?_
    refine lv_if_eq (tgt := 222) X.1.1 X.1.2.1 dX9_look_53 (by decide) (fun c_11 => ?_) (fun c_11 => ?_)
    · skip
      rw [if_pos c_11] at hf
      cases hf
      exact kx _ rfl _ _ _ hw (lv_sub hl [0, 1, 2] rfl)
    · skip
      rw [if_neg c_11] at hf
      refine lv_aload_n X.1.1 X.1.2.1 dX9_look_56 rfl (lv_at hl 2 rfl) ?_
      refine lv_iload_n X.1.1 X.1.2.1 dX9_look_57 rfl (lv_at hl 1 rfl) ?_
      obtain ⟨z12, ez12, hf⟩ := obd hf
      refine r_callVI (As := [.int w3]) (rest := []) X hw (c_X9_ahead ez12) (cwV 1 X.1.2.2.2.2 (guV um_X9_144 ui_X9_ahead us_X9_ahead un_X9 uo_X9_ahead) rfl rfl rfl (by decide +kernel) ⟨Nat.le_of_ble_eq_true rfl, Nat.le_of_ble_eq_true rfl⟩) g_a0 (by decide) rfl rfl hl.1 rfl (Nat.le_of_ble_eq_true rfl) dX9_look_58 ⟨Nat.zero_le _, Nat.zero_le _⟩ (fun H locs hw => ?_)
      refine lv_istore (lv' := [(5, .int z12), (4, .int v4), (3, .int w3), (0, .ref a0)]) X.1.1 X.1.2.1 dX9_look_61 hl (by decide) rfl (fun ls hl => ?_)
      refine lv_aload_n X.1.1 X.1.2.1 dX9_look_63 rfl (lv_at hl 3 rfl) ?_
      refine lv_iload X.1.1 X.1.2.1 dX9_look_64 (lv_at hl 0 rfl) ?_
      obtain ⟨z13, ez13, hf⟩ := obd hf
      refine r_callVI (As := [.int z12]) (rest := []) X hw (c_X9_ahead ez13) (cwV 1 X.1.2.2.2.2 (guV um_X9_144 ui_X9_ahead us_X9_ahead un_X9 uo_X9_ahead) rfl rfl rfl (by decide +kernel) ⟨Nat.le_of_ble_eq_true rfl, Nat.le_of_ble_eq_true rfl⟩) g_a0 (by decide) rfl rfl hl.1 rfl (Nat.le_of_ble_eq_true rfl) dX9_look_66 ⟨Nat.zero_le _, Nat.zero_le _⟩ (fun H locs hw => ?_)
      refine lv_istore (lv' := [(6, .int z13), (5, .int z12), (4, .int v4), (3, .int w3), (0, .ref a0)]) X.1.1 X.1.2.1 dX9_look_69 hl (by decide) rfl (fun ls hl => ?_)
      refine lv_aload_n X.1.1 X.1.2.1 dX9_look_71 rfl (lv_at hl 4 rfl) ?_
      refine lv_iload X.1.1 X.1.2.1 dX9_look_72 (lv_at hl 0 rfl) ?_
      obtain ⟨z14, ez14, hf⟩ := obd hf
      refine r_callVI (As := [.int z13]) (rest := []) X hw (c_X9_ahead ez14) (cwV 1 X.1.2.2.2.2 (guV um_X9_144 ui_X9_ahead us_X9_ahead un_X9 uo_X9_ahead) rfl rfl rfl (by decide +kernel) ⟨Nat.le_of_ble_eq_true rfl, Nat.le_of_ble_eq_true rfl⟩) g_a0 (by decide) rfl rfl hl.1 rfl (Nat.le_of_ble_eq_true rfl) dX9_look_74 ⟨Nat.zero_le _, Nat.zero_le _⟩ (fun H locs hw => ?_)
      refine lv_istore (lv' := [(7, .int z14), (6, .int z13), (5, .int z12), (4, .int v4), (3, .int w3), (0, .ref a0)]) X.1.1 X.1.2.1 dX9_look_77 hl (by decide) rfl (fun ls hl => ?_)
      refine lv_iload X.1.1 X.1.2.1 dX9_look_79 (lv_at hl 2 rfl) ?_
      obtain ⟨y28, ey28, hf⟩ := obd hf
      have Jy28 : ∀ (H : Heap) (locs : List Loc) (ls : Array Slot), Wd D cy A s.heap h M H locs → lv_has ls 8 [(6, .int z13), (5, .int z12), (3, .int w3), (0, .ref a0)] → W p l e ({ frames := 5, cells := 0, slots := 0, locals := 115 } : Room) s m args below meth c H locs 0 0 Q (F0 m 151 ls [.int y28]) := by
        intro H locs ls hw hl
        refine lv_istore (lv' := [(4, .int y28), (6, .int z13), (5, .int z12), (3, .int w3), (0, .ref a0)]) X.1.1 X.1.2.1 dX9_look_151 hl (by decide) rfl (fun ls hl => ?_)
        refine lv_iload X.1.1 X.1.2.1 dX9_look_153 (lv_at hl 0 rfl) ?_
        refine lv_if_ne (tgt := 161) X.1.1 X.1.2.1 dX9_look_155 (by decide) (fun c_29 => ?_) (fun c_29 => ?_)
        · skip
          rw [if_pos c_29] at hf
          refine lv_aload_n X.1.1 X.1.2.1 dX9_look_161 rfl (lv_at hl 4 rfl) ?_
          refine r_getq (k := 9) (j := 17) X hw rfl inX9 g_a0 rfl (by decide) (by decide) uf_X9_45 rfl dX9_look_162 eq8 ?_
          refine lv_iload X.1.1 X.1.2.1 dX9_look_165 (lv_at hl 1 rfl) ?_
          refine lv_iconst (v := (1 : Int32)) X.1.1 X.1.2.1 dX9_look_167 (by decide) ?_
          obtain ⟨i_30, hf⟩ := ogd hf
          refine r_zast X hw g_q8 i_30 rfl dX9_look_168 (fun H locs hw => ?_)
          obtain ⟨M31, eM31, hf⟩ := olt hf
          rw [← eM31] at hw
          refine lv_aload_n X.1.1 X.1.2.1 dX9_look_169 rfl (lv_at hl 4 rfl) ?_
          refine r_getq (k := 9) (j := 17) X hw rfl inX9 g_a0 rfl (by decide) (by decide) uf_X9_45 rfl dX9_look_170 eq8 ?_
          refine lv_iload X.1.1 X.1.2.1 dX9_look_173 (lv_at hl 2 rfl) ?_
          refine lv_iconst (v := (1 : Int32)) X.1.1 X.1.2.1 dX9_look_175 (by decide) ?_
          obtain ⟨i_32, hf⟩ := ogd hf
          refine r_zast X hw g_q8 i_32 rfl dX9_look_176 (fun H locs hw => ?_)
          obtain ⟨M33, eM33, hf⟩ := olt hf
          rw [← eM33] at hw
          refine lv_aload_n X.1.1 X.1.2.1 dX9_look_177 rfl (lv_at hl 4 rfl) ?_
          obtain ⟨q34, eq34, hf⟩ := odq hf
          refine r_getq (k := 9) (j := 13) X hw rfl inX9 g_a0 rfl (by decide) (by decide) uf_X9_36 rfl dX9_look_178 eq34 ?_
          refine lv_aload_n X.1.1 X.1.2.1 dX9_look_181 rfl (lv_at hl 4 rfl) ?_
          refine r_geti (k := 9) (j := 16) X hw rfl inX9 g_a0 rfl (by decide) (by decide) uf_X9_141 rfl dX9_look_182 ?_
          refine lv_iload X.1.1 X.1.2.1 dX9_look_185 (lv_at hl 1 rfl) ?_
          obtain ⟨g_q34, hf⟩ := ogd hf
          obtain ⟨i_35, hf⟩ := ogd hf
          refine r_iast X hw g_q34 i_35 dX9_look_187 (fun H locs hw => ?_)
          obtain ⟨M36, eM36, hf⟩ := olt hf
          rw [← eM36] at hw
          refine lv_aload_n X.1.1 X.1.2.1 dX9_look_188 rfl (lv_at hl 4 rfl) ?_
          obtain ⟨q37, eq37, hf⟩ := odq hf
          refine r_getq (k := 9) (j := 14) X hw rfl inX9 g_a0 rfl (by decide) (by decide) uf_X9_39 rfl dX9_look_189 eq37 ?_
          refine lv_aload_n X.1.1 X.1.2.1 dX9_look_192 rfl (lv_at hl 4 rfl) ?_
          refine r_geti (k := 9) (j := 16) X hw rfl inX9 g_a0 rfl (by decide) (by decide) uf_X9_141 rfl dX9_look_193 ?_
          refine lv_iload X.1.1 X.1.2.1 dX9_look_196 (lv_at hl 2 rfl) ?_
          obtain ⟨g_q37, hf⟩ := ogd hf
          obtain ⟨i_38, hf⟩ := ogd hf
          refine r_iast X hw g_q37 i_38 dX9_look_198 (fun H locs hw => ?_)
          obtain ⟨M39, eM39, hf⟩ := olt hf
          rw [← eM39] at hw
          refine lv_aload_n X.1.1 X.1.2.1 dX9_look_199 rfl (lv_at hl 4 rfl) ?_
          obtain ⟨q40, eq40, hf⟩ := odq hf
          refine r_getq (k := 9) (j := 15) X hw rfl inX9 g_a0 rfl (by decide) (by decide) uf_X9_42 rfl dX9_look_200 eq40 ?_
          refine lv_aload_n X.1.1 X.1.2.1 dX9_look_203 rfl (lv_at hl 4 rfl) ?_
          refine r_geti (k := 9) (j := 16) X hw rfl inX9 g_a0 rfl (by decide) (by decide) uf_X9_141 rfl dX9_look_204 ?_
          refine lv_iload_n X.1.1 X.1.2.1 dX9_look_207 rfl (lv_at hl 3 rfl) ?_
          obtain ⟨g_q40, hf⟩ := ogd hf
          obtain ⟨i_41, hf⟩ := ogd hf
          refine r_iast X hw g_q40 i_41 dX9_look_208 (fun H locs hw => ?_)
          obtain ⟨M42, eM42, hf⟩ := olt hf
          rw [← eM42] at hw
          refine lv_aload_n X.1.1 X.1.2.1 dX9_look_209 rfl (lv_at hl 4 rfl) ?_
          refine lv_dup X.1.1 X.1.2.1 dX9_look_210 rfl ?_
          refine r_geti (k := 9) (j := 16) X hw rfl inX9 g_a0 rfl (by decide) (by decide) uf_X9_141 rfl dX9_look_211 ?_
          refine lv_iconst (v := (1 : Int32)) X.1.1 X.1.2.1 dX9_look_214 (by decide) ?_
          refine lv_iadd X.1.1 X.1.2.1 dX9_look_215 ?_
          refine r_puti (k := 9) (j := 16) X hw rfl inX9 tyX9_ok nmX9 g_a0 rfl (by decide) (by decide) uf_X9_141 rfl rfl rfl rfl dX9_look_216 (fun H locs hw => ?_)
          obtain ⟨M43, eM43, hf⟩ := olt hf
          rw [← eM43] at hw
          refine lv_goto (tgt := 51) X.1.1 X.1.2.1 dX9_look_219 (by decide) ?_
          exact ih _ _ _ _ _ _ hf hw (lv_sub hl [0, 3, 4] rfl) kx
        · skip
          rw [if_neg (fun z => z c_29)] at hf
          refine lv_goto (tgt := 51) X.1.1 X.1.2.1 dX9_look_158 (by decide) ?_
          exact ih _ _ _ _ _ _ hf hw (lv_sub hl [0, 3, 4] rfl) kx
      clear hf
      have hf := ey28
      clear ey28
      refine lv_if_lt (tgt := 150) X.1.1 X.1.2.1 dX9_look_81 (by decide) (fun c_15 => ?_) (fun c_15 => ?_)
      · skip
        rw [if_pos c_15] at hf
        refine lv_iconst (v := (0 : Int32)) X.1.1 X.1.2.1 dX9_look_150 (by decide) ?_
        cases hf
        exact Jy28 _ _ _ hw (lv_sub hl [1, 2, 4, 5] rfl)
      · skip
        rw [if_neg c_15] at hf
        refine lv_iload X.1.1 X.1.2.1 dX9_look_84 (lv_at hl 1 rfl) ?_
        refine lv_if_lt (tgt := 150) X.1.1 X.1.2.1 dX9_look_86 (by decide) (fun c_16 => ?_) (fun c_16 => ?_)
        · skip
          rw [if_pos c_16] at hf
          refine lv_iconst (v := (0 : Int32)) X.1.1 X.1.2.1 dX9_look_150 (by decide) ?_
          cases hf
          exact Jy28 _ _ _ hw (lv_sub hl [1, 2, 4, 5] rfl)
        · skip
          rw [if_neg c_16] at hf
          refine lv_iload X.1.1 X.1.2.1 dX9_look_89 (lv_at hl 0 rfl) ?_
          refine lv_if_lt (tgt := 150) X.1.1 X.1.2.1 dX9_look_91 (by decide) (fun c_17 => ?_) (fun c_17 => ?_)
          · skip
            rw [if_pos c_17] at hf
            refine lv_iconst (v := (0 : Int32)) X.1.1 X.1.2.1 dX9_look_150 (by decide) ?_
            cases hf
            exact Jy28 _ _ _ hw (lv_sub hl [1, 2, 4, 5] rfl)
          · skip
            rw [if_neg c_17] at hf
            refine lv_aload_n X.1.1 X.1.2.1 dX9_look_94 rfl (lv_at hl 5 rfl) ?_
            refine r_getq (k := 9) (j := 9) X hw rfl inX9 g_a0 rfl (by decide) (by decide) uf_X9_30 rfl dX9_look_95 eq3 ?_
            refine lv_iload X.1.1 X.1.2.1 dX9_look_98 (lv_at hl 1 rfl) ?_
            obtain ⟨g_q3, hf⟩ := ogd hf
            obtain ⟨i_18, hf⟩ := ogd hf
            refine r_iald X hw g_q3 i_18 dX9_look_100 ?_
            refine lv_aload_n X.1.1 X.1.2.1 dX9_look_101 rfl (lv_at hl 5 rfl) ?_
            refine r_getq (k := 9) (j := 9) X hw rfl inX9 g_a0 rfl (by decide) (by decide) uf_X9_30 rfl dX9_look_102 eq3 ?_
            refine lv_iload X.1.1 X.1.2.1 dX9_look_105 (lv_at hl 0 rfl) ?_
            obtain ⟨i_19, hf⟩ := ogd hf
            refine r_iald X hw g_q3 i_19 dX9_look_107 ?_
            refine lv_aload_n X.1.1 X.1.2.1 dX9_look_108 rfl (lv_at hl 5 rfl) ?_
            refine r_getq (k := 9) (j := 9) X hw rfl inX9 g_a0 rfl (by decide) (by decide) uf_X9_30 rfl dX9_look_109 eq3 ?_
            refine lv_iload_n X.1.1 X.1.2.1 dX9_look_112 rfl (lv_at hl 4 rfl) ?_
            obtain ⟨i_20, hf⟩ := ogd hf
            refine r_iald X hw g_q3 i_20 dX9_look_113 ?_
            obtain ⟨z21, ez21, hf⟩ := obd hf
            refine r_callSI (As := [.int (zI M q3 z13.toNatClampNeg), .int (zI M q3 z14.toNatClampNeg), .int (zI M q3 w3.toNatClampNeg)]) (rest := []) X hw (c_X9_between ez21) (va_cwS 3 X.1.2.2.2.2 (guS um_X9_147 ut_X9_between un_X9 uo_X9_between) rfl rfl rfl (by decide +kernel) ⟨Nat.le_of_ble_eq_true rfl, Nat.le_of_ble_eq_true rfl⟩) rfl hl.1 rfl (Nat.le_of_ble_eq_true rfl) dX9_look_114 ⟨Nat.zero_le _, Nat.zero_le _⟩ (fun H locs hw => ?_)
            refine lv_if_eq (tgt := 150) X.1.1 X.1.2.1 dX9_look_117 (by decide) (fun c_22 => ?_) (fun c_22 => ?_)
            · skip
              rw [if_pos c_22] at hf
              refine lv_iconst (v := (0 : Int32)) X.1.1 X.1.2.1 dX9_look_150 (by decide) ?_
              cases hf
              exact Jy28 _ _ _ hw (lv_sub hl [1, 2, 4, 5] rfl)
            · skip
              rw [if_neg c_22] at hf
              refine lv_aload_n X.1.1 X.1.2.1 dX9_look_120 rfl (lv_at hl 5 rfl) ?_
              refine r_getq (k := 9) (j := 9) X hw rfl inX9 g_a0 rfl (by decide) (by decide) uf_X9_30 rfl dX9_look_121 eq3 ?_
              refine lv_iload X.1.1 X.1.2.1 dX9_look_124 (lv_at hl 2 rfl) ?_
              obtain ⟨i_23, hf⟩ := ogd hf
              refine r_iald X hw g_q3 i_23 dX9_look_126 ?_
              refine lv_aload_n X.1.1 X.1.2.1 dX9_look_127 rfl (lv_at hl 5 rfl) ?_
              refine r_getq (k := 9) (j := 9) X hw rfl inX9 g_a0 rfl (by decide) (by decide) uf_X9_30 rfl dX9_look_128 eq3 ?_
              refine lv_iload X.1.1 X.1.2.1 dX9_look_131 (lv_at hl 0 rfl) ?_
              obtain ⟨i_24, hf⟩ := ogd hf
              refine r_iald X hw g_q3 i_24 dX9_look_133 ?_
              refine lv_aload_n X.1.1 X.1.2.1 dX9_look_134 rfl (lv_at hl 5 rfl) ?_
              refine r_getq (k := 9) (j := 9) X hw rfl inX9 g_a0 rfl (by decide) (by decide) uf_X9_30 rfl dX9_look_135 eq3 ?_
              refine lv_iload_n X.1.1 X.1.2.1 dX9_look_138 rfl (lv_at hl 4 rfl) ?_
              obtain ⟨i_25, hf⟩ := ogd hf
              refine r_iald X hw g_q3 i_25 dX9_look_139 ?_
              obtain ⟨z26, ez26, hf⟩ := obd hf
              refine r_callSI (As := [.int (zI M q3 z12.toNatClampNeg), .int (zI M q3 z14.toNatClampNeg), .int (zI M q3 w3.toNatClampNeg)]) (rest := []) X hw (c_X9_between ez26) (va_cwS 3 X.1.2.2.2.2 (guS um_X9_147 ut_X9_between un_X9 uo_X9_between) rfl rfl rfl (by decide +kernel) ⟨Nat.le_of_ble_eq_true rfl, Nat.le_of_ble_eq_true rfl⟩) rfl hl.1 rfl (Nat.le_of_ble_eq_true rfl) dX9_look_140 ⟨Nat.zero_le _, Nat.zero_le _⟩ (fun H locs hw => ?_)
              refine lv_if_eq (tgt := 150) X.1.1 X.1.2.1 dX9_look_143 (by decide) (fun c_27 => ?_) (fun c_27 => ?_)
              · skip
                rw [if_pos c_27] at hf
                refine lv_iconst (v := (0 : Int32)) X.1.1 X.1.2.1 dX9_look_150 (by decide) ?_
                cases hf
                exact Jy28 _ _ _ hw (lv_sub hl [1, 2, 4, 5] rfl)
              · skip
                rw [if_neg c_27] at hf
                refine lv_iconst (v := (1 : Int32)) X.1.1 X.1.2.1 dX9_look_146 (by decide) ?_
                refine lv_goto (tgt := 151) X.1.1 X.1.2.1 dX9_look_147 (by decide) ?_
                cases hf
                exact Jy28 _ _ _ hw (lv_sub hl [1, 2, 4, 5] rfl)
def lp_X9_look_33 (h : Hs) (a0 : Nat) (q3 : Nat) : Nat → Int32 → Mm → Option (Int32 × Mm)
  | 0, _, _ => none
  | n + 1, v3, M =>
    if (zI M a0 12) ≤ v3 then
      some (v3, M)
    else
      dq (zR h a0 17) fun q8 =>
      gd (ok h q8 13) <|
      gd (inb v3 (zN h q8)) <|
      lt_ (sI M q8 v3.toNatClampNeg (0 : Int32)) fun M10 =>
      (lp_X9_look_51 h v3 a0 q8 q3 fuel (1 : Int32) M10).bind fun z44 =>
      lt_ (v3 + (1 : Int32)) fun x45 =>
      lp_X9_look_33 h a0 q3 n x45 z44.2
set_option maxHeartbeats 4000000 in
set_option maxRecDepth 100000 in
theorem wlp_X9_look_33 {l : Launch} {D : va_G} {cy : Nat → ClassId} {h : Hs} {a0 : Nat} {q3 : Nat} {p : Program} {e : Env} {s : State} {m : MethodId} {args : Array Value} {below : List Frame} {meth : Method} {c : Code} {A : Nat → Prop} (X : Cx p s m args c cX9_look 8 gtbl RX9 D cy A) {Q : State → Prop} (g_a0 : ok h a0 9) (eq3 : zR h a0 9 = some q3) : ∀ (n : Nat) (v3 : Int32) (M : Mm) (z : (Int32 × Mm)) (H : Heap) (locs : List Loc) (ls : Array Slot), lp_X9_look_33 h a0 q3 n v3 M = some z → Wd D cy A s.heap h M H locs → lv_has ls 8 [(3, .int v3), (0, .ref a0)] → (∀ x : (Int32 × Mm), z = x → ∀ (H : Heap) (locs : List Loc) (ls : Array Slot), Wd D cy A s.heap h x.2 H locs → lv_has ls 8 [(3, .int x.1), (0, .ref a0)] → W p l e ({ frames := 5, cells := 0, slots := 0, locals := 115 } : Room) s m args below meth c H locs 0 0 Q (F0 m 228 ls [])) → W p l e ({ frames := 5, cells := 0, slots := 0, locals := 115 } : Room) s m args below meth c H locs 0 0 Q (F0 m 33 ls []) := by
  intro n
  induction n with
  | zero => intro v3 M z H locs ls hf hw hl kx; exact absurd hf (by intro q; cases q)
  | succ n ih =>
    intro v3 M z H locs ls hf hw hl kx
    unfold lp_X9_look_33 at hf
    refine lv_iload_n X.1.1 X.1.2.1 dX9_look_33 rfl (lv_at hl 0 rfl) ?_
    refine lv_aload_n X.1.1 X.1.2.1 dX9_look_34 rfl (lv_at hl 1 rfl) ?_
    refine r_geti (k := 9) (j := 12) X hw rfl inX9 g_a0 rfl (by decide) (by decide) uf_X9_138 rfl dX9_look_35 ?_
    refine lv_icmp_ge (tgt := 228) X.1.1 X.1.2.1 dX9_look_38 (by decide) (fun c_7 => ?_) (fun c_7 => ?_)
    · skip
      rw [if_pos c_7] at hf
      cases hf
      exact kx _ rfl _ _ _ hw (lv_sub hl [0, 1] rfl)
    · skip
      rw [if_neg c_7] at hf
      refine lv_aload_n X.1.1 X.1.2.1 dX9_look_41 rfl (lv_at hl 1 rfl) ?_
      obtain ⟨q8, eq8, hf⟩ := odq hf
      refine r_getq (k := 9) (j := 17) X hw rfl inX9 g_a0 rfl (by decide) (by decide) uf_X9_45 rfl dX9_look_42 eq8 ?_
      refine lv_iload_n X.1.1 X.1.2.1 dX9_look_45 rfl (lv_at hl 0 rfl) ?_
      refine lv_iconst (v := (0 : Int32)) X.1.1 X.1.2.1 dX9_look_46 (by decide) ?_
      obtain ⟨g_q8, hf⟩ := ogd hf
      obtain ⟨i_9, hf⟩ := ogd hf
      refine r_zast X hw g_q8 i_9 rfl dX9_look_47 (fun H locs hw => ?_)
      obtain ⟨M10, eM10, hf⟩ := olt hf
      rw [← eM10] at hw
      refine lv_iconst (v := (1 : Int32)) X.1.1 X.1.2.1 dX9_look_48 (by decide) ?_
      refine lv_istore (lv' := [(4, .int (1 : Int32)), (3, .int v3), (0, .ref a0)]) X.1.1 X.1.2.1 dX9_look_49 hl (by decide) rfl (fun ls hl => ?_)
      obtain ⟨z44, ez44, hf⟩ := obd hf
      refine wlp_X9_look_51 X g_a0 g_q8 eq3 eq8 fuel _ _ _ _ _ _ ez44 hw (lv_sub hl [0, 1, 2] rfl) (fun x ex H locs ls hw hl => ?_)
      subst ex
      obtain ⟨x45, ex45, hf⟩ := olt hf
      refine lv_iinc (v := x45) (lv' := [(3, .int x45), (4, .int z44.1), (0, .ref a0)]) X.1.1 X.1.2.1 dX9_look_222 hl (k := 1) rfl (by rw [ex45]; rfl) (by decide) rfl (fun ls hl => ?_)
      refine lv_goto (tgt := 33) X.1.1 X.1.2.1 dX9_look_225 (by decide) ?_
      exact ih _ _ _ _ _ _ hf hw (lv_sub hl [0, 2] rfl) kx
def lp_X9_look_235 (h : Hs) (a0 : Nat) (q3 : Nat) : Nat → Int32 → Mm → Option (Int32 × Mm)
  | 0, _, _ => none
  | n + 1, v3, M =>
    if (zI M a0 12) ≤ v3 then
      some (v3, M)
    else
      dq (zR h a0 17) fun q49 =>
      gd (ok h q49 13) <|
      gd (inb v3 (zN h q49)) <|
      Option.bind (
        if (zI M q49 v3.toNatClampNeg) = 0 then
          dq (zR h a0 18) fun q52 =>
          gd (ok h q3 11) <|
          gd (inb v3 (zN h q3)) <|
          gd (ok h q52 11) <|
          gd (inb (zI M a0 19) (zN h q52)) <|
          lt_ (sI M q52 (zI M a0 19).toNatClampNeg (zI M q3 v3.toNatClampNeg)) fun M55 =>
          lt_ (sI M55 a0 19 ((zI M55 a0 19) + (1 : Int32))) fun M56 =>
          some M56
        else
          some M
        ) fun y57 =>
      lt_ (v3 + (1 : Int32)) fun x58 =>
      lp_X9_look_235 h a0 q3 n x58 y57
set_option maxHeartbeats 4000000 in
set_option maxRecDepth 100000 in
theorem wlp_X9_look_235 {l : Launch} {D : va_G} {cy : Nat → ClassId} {h : Hs} {a0 : Nat} {q3 : Nat} {p : Program} {e : Env} {s : State} {m : MethodId} {args : Array Value} {below : List Frame} {meth : Method} {c : Code} {A : Nat → Prop} (X : Cx p s m args c cX9_look 8 gtbl RX9 D cy A) {Q : State → Prop} (g_a0 : ok h a0 9) (eq3 : zR h a0 9 = some q3) : ∀ (n : Nat) (v3 : Int32) (M : Mm) (z : (Int32 × Mm)) (H : Heap) (locs : List Loc) (ls : Array Slot), lp_X9_look_235 h a0 q3 n v3 M = some z → Wd D cy A s.heap h M H locs → lv_has ls 8 [(3, .int v3), (0, .ref a0)] → (∀ x : (Int32 × Mm), z = x → ∀ (H : Heap) (locs : List Loc) (ls : Array Slot), Wd D cy A s.heap h x.2 H locs → lv_has ls 8 [(3, .int x.1), (0, .ref a0)] → W p l e ({ frames := 5, cells := 0, slots := 0, locals := 115 } : Room) s m args below meth c H locs 0 0 Q (F0 m 286 ls [])) → W p l e ({ frames := 5, cells := 0, slots := 0, locals := 115 } : Room) s m args below meth c H locs 0 0 Q (F0 m 235 ls []) := by
  intro n
  induction n with
  | zero => intro v3 M z H locs ls hf hw hl kx; exact absurd hf (by intro q; cases q)
  | succ n ih =>
    intro v3 M z H locs ls hf hw hl kx
    unfold lp_X9_look_235 at hf
    refine lv_iload_n X.1.1 X.1.2.1 dX9_look_235 rfl (lv_at hl 0 rfl) ?_
    refine lv_aload_n X.1.1 X.1.2.1 dX9_look_236 rfl (lv_at hl 1 rfl) ?_
    refine r_geti (k := 9) (j := 12) X hw rfl inX9 g_a0 rfl (by decide) (by decide) uf_X9_138 rfl dX9_look_237 ?_
    refine lv_icmp_ge (tgt := 286) X.1.1 X.1.2.1 dX9_look_240 (by decide) (fun c_48 => ?_) (fun c_48 => ?_)
    · skip
      rw [if_pos c_48] at hf
      cases hf
      exact kx _ rfl _ _ _ hw (lv_sub hl [0, 1] rfl)
    · skip
      rw [if_neg c_48] at hf
      refine lv_aload_n X.1.1 X.1.2.1 dX9_look_243 rfl (lv_at hl 1 rfl) ?_
      obtain ⟨q49, eq49, hf⟩ := odq hf
      refine r_getq (k := 9) (j := 17) X hw rfl inX9 g_a0 rfl (by decide) (by decide) uf_X9_45 rfl dX9_look_244 eq49 ?_
      refine lv_iload_n X.1.1 X.1.2.1 dX9_look_247 rfl (lv_at hl 0 rfl) ?_
      obtain ⟨g_q49, hf⟩ := ogd hf
      obtain ⟨i_50, hf⟩ := ogd hf
      refine r_zald X hw g_q49 i_50 dX9_look_248 ?_
      obtain ⟨y57, ey57, hf⟩ := obd hf
      have Jy57 : ∀ (H : Heap) (locs : List Loc) (ls : Array Slot), Wd D cy A s.heap h y57 H locs → lv_has ls 8 [(3, .int v3), (0, .ref a0)] → W p l e ({ frames := 5, cells := 0, slots := 0, locals := 115 } : Room) s m args below meth c H locs 0 0 Q (F0 m 280 ls []) := by
        intro H locs ls hw hl
        obtain ⟨x58, ex58, hf⟩ := olt hf
        refine lv_iinc (v := x58) (lv' := [(3, .int x58), (0, .ref a0)]) X.1.1 X.1.2.1 dX9_look_280 hl (k := 0) rfl (by rw [ex58]; rfl) (by decide) rfl (fun ls hl => ?_)
        refine lv_goto (tgt := 235) X.1.1 X.1.2.1 dX9_look_283 (by decide) ?_
        exact ih _ _ _ _ _ _ hf hw (lv_sub hl [0, 1] rfl) kx
      clear hf
      have hf := ey57
      clear ey57
      refine lv_if_eq (tgt := 255) X.1.1 X.1.2.1 dX9_look_249 (by decide) (fun c_51 => ?_) (fun c_51 => ?_)
      · skip
        rw [if_pos c_51] at hf
        refine lv_aload_n X.1.1 X.1.2.1 dX9_look_255 rfl (lv_at hl 1 rfl) ?_
        obtain ⟨q52, eq52, hf⟩ := odq hf
        refine r_getq (k := 9) (j := 18) X hw rfl inX9 g_a0 rfl (by decide) (by decide) uf_X9_49 rfl dX9_look_256 eq52 ?_
        refine lv_aload_n X.1.1 X.1.2.1 dX9_look_259 rfl (lv_at hl 1 rfl) ?_
        refine r_geti (k := 9) (j := 19) X hw rfl inX9 g_a0 rfl (by decide) (by decide) uf_X9_151 rfl dX9_look_260 ?_
        refine lv_aload_n X.1.1 X.1.2.1 dX9_look_263 rfl (lv_at hl 1 rfl) ?_
        refine r_getq (k := 9) (j := 9) X hw rfl inX9 g_a0 rfl (by decide) (by decide) uf_X9_30 rfl dX9_look_264 eq3 ?_
        refine lv_iload_n X.1.1 X.1.2.1 dX9_look_267 rfl (lv_at hl 0 rfl) ?_
        obtain ⟨g_q3, hf⟩ := ogd hf
        obtain ⟨i_53, hf⟩ := ogd hf
        refine r_iald X hw g_q3 i_53 dX9_look_268 ?_
        obtain ⟨g_q52, hf⟩ := ogd hf
        obtain ⟨i_54, hf⟩ := ogd hf
        refine r_iast X hw g_q52 i_54 dX9_look_269 (fun H locs hw => ?_)
        obtain ⟨M55, eM55, hf⟩ := olt hf
        rw [← eM55] at hw
        refine lv_aload_n X.1.1 X.1.2.1 dX9_look_270 rfl (lv_at hl 1 rfl) ?_
        refine lv_dup X.1.1 X.1.2.1 dX9_look_271 rfl ?_
        refine r_geti (k := 9) (j := 19) X hw rfl inX9 g_a0 rfl (by decide) (by decide) uf_X9_151 rfl dX9_look_272 ?_
        refine lv_iconst (v := (1 : Int32)) X.1.1 X.1.2.1 dX9_look_275 (by decide) ?_
        refine lv_iadd X.1.1 X.1.2.1 dX9_look_276 ?_
        refine r_puti (k := 9) (j := 19) X hw rfl inX9 tyX9_ok nmX9 g_a0 rfl (by decide) (by decide) uf_X9_151 rfl rfl rfl rfl dX9_look_277 (fun H locs hw => ?_)
        obtain ⟨M56, eM56, hf⟩ := olt hf
        rw [← eM56] at hw
        cases hf
        exact Jy57 _ _ _ hw (lv_sub hl [0, 1] rfl)
      · skip
        rw [if_neg c_51] at hf
        refine lv_goto (tgt := 280) X.1.1 X.1.2.1 dX9_look_252 (by decide) ?_
        cases hf
        exact Jy57 _ _ _ hw (lv_sub hl [0, 1] rfl)
def f_X9_look (h : Hs) (a0 : Nat) (p1 : Int32) (p2 : Int32) (M : Mm) : Option Mm :=
  gd (ok h a0 9) <|
  (f_X9_readRow h a0 p1 p2 M).bind fun z1 =>
  dq (zR h a0 8) fun q2 =>
  dq (zR h a0 9) fun q3 =>
  (f_X9_turnsOf h a0 q2 (zI z1 a0 11) q3 z1).bind fun z4 =>
  lt_ (sI z4.2 a0 12 z4.1) fun M5 =>
  lt_ (sI M5 a0 16 (0 : Int32)) fun M6 =>
  (lp_X9_look_33 h a0 q3 fuel (0 : Int32) M6).bind fun z46 =>
  lt_ (sI z46.2 a0 19 (0 : Int32)) fun M47 =>
  (lp_X9_look_235 h a0 q3 fuel (0 : Int32) M47).bind fun z59 =>
  some z59.2
set_option maxHeartbeats 4000000 in
set_option maxRecDepth 100000 in
theorem c_X9_look {l : Launch} {D : va_G} {cy : Nat → ClassId} {h : Hs} {a0 : Nat} {p1 : Int32} {p2 : Int32} {M : Mm} {z : Mm} (hf : f_X9_look h a0 p1 p2 M = some z) : CtV l D cy yX9_look (wu yX9_look cX9_look 8 none) ({ frames := 5, cells := 0, slots := 0, locals := 115 }) [.ref a0, .int p1, .int p2] h M z := by
  refine enterV (cc := cX9_look) (maxL := 8) (ret := none) (by decide) (Nat.le_of_ble_eq_true rfl) ?_
  intro p e s m args below meth c A ls X hw hr hlk hl
  have hl : lv_has ls 8 [(0, .ref a0), (1, .int p1), (2, .int p2)] := hl
  unfold f_X9_look at hf
  refine lv_aload_n X.1.1 X.1.2.1 dX9_look_0 rfl (lv_at hl 0 rfl) ?_
  refine lv_iload_n X.1.1 X.1.2.1 dX9_look_1 rfl (lv_at hl 1 rfl) ?_
  refine lv_iload_n X.1.1 X.1.2.1 dX9_look_2 rfl (lv_at hl 2 rfl) ?_
  obtain ⟨g_a0, hf⟩ := ogd hf
  obtain ⟨z1, ez1, hf⟩ := obd hf
  refine r_callVV (As := [.int p1, .int p2]) (rest := []) X hw (c_X9_readRow ez1) (cwV 2 X.1.2.2.2.2 (guV um_X9_134 ui_X9_readRow us_X9_readRow un_X9 uo_X9_readRow) rfl rfl rfl (by decide +kernel) ⟨Nat.le_of_ble_eq_true rfl, Nat.le_of_ble_eq_true rfl⟩) g_a0 (by decide) rfl rfl hl.1 rfl (Nat.le_of_ble_eq_true rfl) dX9_look_3 ⟨Nat.zero_le _, Nat.zero_le _⟩ (fun H locs hw => ?_)
  refine lv_aload_n X.1.1 X.1.2.1 dX9_look_6 rfl (lv_at hl 0 rfl) ?_
  refine lv_aload_n X.1.1 X.1.2.1 dX9_look_7 rfl (lv_at hl 0 rfl) ?_
  refine lv_aload_n X.1.1 X.1.2.1 dX9_look_8 rfl (lv_at hl 0 rfl) ?_
  obtain ⟨q2, eq2, hf⟩ := odq hf
  refine r_getq (k := 9) (j := 8) X hw rfl inX9 g_a0 rfl (by decide) (by decide) uf_X9_27 rfl dX9_look_9 eq2 ?_
  refine lv_aload_n X.1.1 X.1.2.1 dX9_look_12 rfl (lv_at hl 0 rfl) ?_
  refine r_geti (k := 9) (j := 11) X hw rfl inX9 g_a0 rfl (by decide) (by decide) uf_X9_124 rfl dX9_look_13 ?_
  refine lv_aload_n X.1.1 X.1.2.1 dX9_look_16 rfl (lv_at hl 0 rfl) ?_
  obtain ⟨q3, eq3, hf⟩ := odq hf
  refine r_getq (k := 9) (j := 9) X hw rfl inX9 g_a0 rfl (by decide) (by decide) uf_X9_30 rfl dX9_look_17 eq3 ?_
  obtain ⟨z4, ez4, hf⟩ := obd hf
  refine r_callVI (As := [.ref q2, .int (zI z1 a0 11), .ref q3]) (rest := [.ref a0]) X hw (c_X9_turnsOf ez4) (cwV 3 X.1.2.2.2.2 (guV um_X9_130 ui_X9_turnsOf us_X9_turnsOf un_X9 uo_X9_turnsOf) rfl rfl rfl (by decide +kernel) ⟨Nat.le_of_ble_eq_true rfl, Nat.le_of_ble_eq_true rfl⟩) g_a0 (by decide) rfl rfl hl.1 rfl (Nat.le_of_ble_eq_true rfl) dX9_look_20 ⟨Nat.zero_le _, Nat.zero_le _⟩ (fun H locs hw => ?_)
  refine r_puti (k := 9) (j := 12) X hw rfl inX9 tyX9_ok nmX9 g_a0 rfl (by decide) (by decide) uf_X9_138 rfl rfl rfl rfl dX9_look_23 (fun H locs hw => ?_)
  obtain ⟨M5, eM5, hf⟩ := olt hf
  rw [← eM5] at hw
  refine lv_aload_n X.1.1 X.1.2.1 dX9_look_26 rfl (lv_at hl 0 rfl) ?_
  refine lv_iconst (v := (0 : Int32)) X.1.1 X.1.2.1 dX9_look_27 (by decide) ?_
  refine r_puti (k := 9) (j := 16) X hw rfl inX9 tyX9_ok nmX9 g_a0 rfl (by decide) (by decide) uf_X9_141 rfl rfl rfl rfl dX9_look_28 (fun H locs hw => ?_)
  obtain ⟨M6, eM6, hf⟩ := olt hf
  rw [← eM6] at hw
  refine lv_iconst (v := (0 : Int32)) X.1.1 X.1.2.1 dX9_look_31 (by decide) ?_
  refine lv_istore_n (lv' := [(3, .int (0 : Int32)), (0, .ref a0), (1, .int p1), (2, .int p2)]) X.1.1 X.1.2.1 dX9_look_32 rfl hl (by decide) rfl (fun ls hl => ?_)
  obtain ⟨z46, ez46, hf⟩ := obd hf
  refine wlp_X9_look_33 X g_a0 eq3 fuel _ _ _ _ _ _ ez46 hw (lv_sub hl [0, 1] rfl) (fun x ex H locs ls hw hl => ?_)
  subst ex
  refine lv_aload_n X.1.1 X.1.2.1 dX9_look_228 rfl (lv_at hl 1 rfl) ?_
  refine lv_iconst (v := (0 : Int32)) X.1.1 X.1.2.1 dX9_look_229 (by decide) ?_
  refine r_puti (k := 9) (j := 19) X hw rfl inX9 tyX9_ok nmX9 g_a0 rfl (by decide) (by decide) uf_X9_151 rfl rfl rfl rfl dX9_look_230 (fun H locs hw => ?_)
  obtain ⟨M47, eM47, hf⟩ := olt hf
  rw [← eM47] at hw
  refine lv_iconst (v := (0 : Int32)) X.1.1 X.1.2.1 dX9_look_233 (by decide) ?_
  refine lv_istore_n (lv' := [(3, .int (0 : Int32)), (0, .ref a0)]) X.1.1 X.1.2.1 dX9_look_234 rfl hl (by decide) rfl (fun ls hl => ?_)
  obtain ⟨z59, ez59, hf⟩ := obd hf
  refine wlp_X9_look_235 X g_a0 eq3 fuel _ _ _ _ _ _ ez59 hw (lv_sub hl [0, 1] rfl) (fun x ex H locs ls hw hl => ?_)
  subst ex
  cases hf
  exact r_retV X hw hr hlk dX9_look_286
/-! X9_row -/
def lp_X9_row_48 (h : Hs) (w3 : Int32) (w1 : Int32) (w2 : Int32) (a0 : Nat) (M : Mm) : Nat → Int32 → Int32 → Option (Int32 × Int32)
  | 0, _, _ => none
  | n + 1, v4, v5 =>
    if w3 ≤ v5 then
      some (v4, v5)
    else
      Option.bind (
        if ¬ w2 = (1 : Int32) then
          (f_X9_at h a0 w1 v5 M).bind fun z15 =>
          if (2000000 : Int32) ≤ z15 then
            some (0 : Int32)
          else
            some (1 : Int32)
        else
          (f_X9_at h a0 w1 v5 M).bind fun z17 =>
          if ¬ z17 = (2000000 : Int32) then
            some (0 : Int32)
          else
            some (1 : Int32)
        ) fun y19 =>
      lt_ (v4 + y19) fun x20 =>
      lt_ (v5 + (1 : Int32)) fun x21 =>
      lp_X9_row_48 h w3 w1 w2 a0 M n x20 x21
set_option maxHeartbeats 4000000 in
set_option maxRecDepth 100000 in
theorem wlp_X9_row_48 {l : Launch} {D : va_G} {cy : Nat → ClassId} {h : Hs} {w3 : Int32} {w1 : Int32} {w2 : Int32} {a0 : Nat} {M : Mm} {p : Program} {e : Env} {s : State} {m : MethodId} {args : Array Value} {below : List Frame} {meth : Method} {c : Code} {A : Nat → Prop} (X : Cx p s m args c cX9_row 6 gtbl RX9 D cy A) {Q : State → Prop} (g_a0 : ok h a0 9) : ∀ (n : Nat) (v4 : Int32) (v5 : Int32) (z : (Int32 × Int32)) (H : Heap) (locs : List Loc) (ls : Array Slot), lp_X9_row_48 h w3 w1 w2 a0 M n v4 v5 = some z → Wd D cy A s.heap h M H locs → lv_has ls 6 [(4, .int v4), (5, .int v5), (3, .int w3), (0, .ref a0), (1, .int w1), (2, .int w2)] → (∀ x : (Int32 × Int32), z = x → ∀ (H : Heap) (locs : List Loc) (ls : Array Slot), Wd D cy A s.heap h M H locs → lv_has ls 6 [(4, .int x.1), (5, .int x.2), (3, .int w3), (0, .ref a0), (1, .int w1), (2, .int w2)] → W p l e ({ frames := 6, cells := 0, slots := 0, locals := 142 } : Room) s m args below meth c H locs 0 0 Q (F0 m 107 ls [])) → W p l e ({ frames := 6, cells := 0, slots := 0, locals := 142 } : Room) s m args below meth c H locs 0 0 Q (F0 m 48 ls []) := by
  intro n
  induction n with
  | zero => intro v4 v5 z H locs ls hf hw hl kx; exact absurd hf (by intro q; cases q)
  | succ n ih =>
    intro v4 v5 z H locs ls hf hw hl kx
    unfold lp_X9_row_48 at hf
    refine lv_iload X.1.1 X.1.2.1 dX9_row_48 (lv_at hl 1 rfl) ?_
    refine lv_iload_n X.1.1 X.1.2.1 dX9_row_50 rfl (lv_at hl 2 rfl) ?_
    refine lv_icmp_ge (tgt := 107) X.1.1 X.1.2.1 dX9_row_51 (by decide) (fun c_13 => ?_) (fun c_13 => ?_)
    · skip
      rw [if_pos c_13] at hf
      cases hf
      exact kx _ rfl _ _ _ hw (lv_sub hl [0, 1, 2, 3, 4, 5] rfl)
    · skip
      rw [if_neg c_13] at hf
      refine lv_iload X.1.1 X.1.2.1 dX9_row_54 (lv_at hl 0 rfl) ?_
      refine lv_iload_n X.1.1 X.1.2.1 dX9_row_56 rfl (lv_at hl 5 rfl) ?_
      refine lv_iconst (v := (1 : Int32)) X.1.1 X.1.2.1 dX9_row_57 (by decide) ?_
      obtain ⟨y19, ey19, hf⟩ := obd hf
      have Jy19 : ∀ (H : Heap) (locs : List Loc) (ls : Array Slot), Wd D cy A s.heap h M H locs → lv_has ls 6 [(5, .int v5), (3, .int w3), (0, .ref a0), (1, .int w1), (2, .int w2)] → W p l e ({ frames := 6, cells := 0, slots := 0, locals := 142 } : Room) s m args below meth c H locs 0 0 Q (F0 m 98 ls [.int y19, .int v4]) := by
        intro H locs ls hw hl
        refine lv_iadd X.1.1 X.1.2.1 dX9_row_98 ?_
        refine lv_topi (fun x20 ex20 => ?_)
        have hf := oltE ex20 hf
        refine lv_istore (lv' := [(4, .int x20), (5, .int v5), (3, .int w3), (0, .ref a0), (1, .int w1), (2, .int w2)]) X.1.1 X.1.2.1 dX9_row_99 hl (by decide) rfl (fun ls hl => ?_)
        obtain ⟨x21, ex21, hf⟩ := olt hf
        refine lv_iinc (v := x21) (lv' := [(5, .int x21), (4, .int x20), (3, .int w3), (0, .ref a0), (1, .int w1), (2, .int w2)]) X.1.1 X.1.2.1 dX9_row_101 hl (k := 1) rfl (by rw [ex21]; rfl) (by decide) rfl (fun ls hl => ?_)
        refine lv_goto (tgt := 48) X.1.1 X.1.2.1 dX9_row_104 (by decide) ?_
        exact ih _ _ _ _ _ _ hf hw (lv_sub hl [1, 0, 2, 3, 4, 5] rfl) kx
      clear hf
      have hf := ey19
      clear ey19
      refine lv_icmp_ne (tgt := 81) X.1.1 X.1.2.1 dX9_row_58 (by decide) (fun c_14 => ?_) (fun c_14 => ?_)
      · skip
        rw [if_pos c_14] at hf
        refine lv_aload_n X.1.1 X.1.2.1 dX9_row_81 rfl (lv_at hl 3 rfl) ?_
        refine lv_iload_n X.1.1 X.1.2.1 dX9_row_82 rfl (lv_at hl 4 rfl) ?_
        refine lv_iload X.1.1 X.1.2.1 dX9_row_83 (lv_at hl 1 rfl) ?_
        obtain ⟨z15, ez15, hf⟩ := obd hf
        refine r_callVI (As := [.int w1, .int v5]) (rest := [.int v4]) X hw (c_X9_at ez15) (cwV 2 X.1.2.2.2.2 (guV um_X9_127 ui_X9_at us_X9_at un_X9 uo_X9_at) rfl rfl rfl (by decide +kernel) ⟨Nat.le_of_ble_eq_true rfl, Nat.le_of_ble_eq_true rfl⟩) g_a0 (by decide) rfl rfl hl.1 rfl (Nat.le_of_ble_eq_true rfl) dX9_row_85 ⟨Nat.zero_le _, Nat.zero_le _⟩ (fun H locs hw => ?_)
        refine lv_ldc (v := (2000000 : Int32)) X.1.1 X.1.2.1 X.1.2.2.2.1 (X.1.2.2.2.2 _ uc_X9_86) dX9_row_88 ?_
        refine lv_icmp_ge (tgt := 97) X.1.1 X.1.2.1 dX9_row_90 (by decide) (fun c_16 => ?_) (fun c_16 => ?_)
        · skip
          rw [if_pos c_16] at hf
          refine lv_iconst (v := (0 : Int32)) X.1.1 X.1.2.1 dX9_row_97 (by decide) ?_
          cases hf
          exact Jy19 _ _ _ hw (lv_sub hl [1, 2, 3, 4, 5] rfl)
        · skip
          rw [if_neg c_16] at hf
          refine lv_iconst (v := (1 : Int32)) X.1.1 X.1.2.1 dX9_row_93 (by decide) ?_
          refine lv_goto (tgt := 98) X.1.1 X.1.2.1 dX9_row_94 (by decide) ?_
          cases hf
          exact Jy19 _ _ _ hw (lv_sub hl [1, 2, 3, 4, 5] rfl)
      · skip
        rw [if_neg (fun z => z c_14)] at hf
        refine lv_aload_n X.1.1 X.1.2.1 dX9_row_61 rfl (lv_at hl 3 rfl) ?_
        refine lv_iload_n X.1.1 X.1.2.1 dX9_row_62 rfl (lv_at hl 4 rfl) ?_
        refine lv_iload X.1.1 X.1.2.1 dX9_row_63 (lv_at hl 1 rfl) ?_
        obtain ⟨z17, ez17, hf⟩ := obd hf
        refine r_callVI (As := [.int w1, .int v5]) (rest := [.int v4]) X hw (c_X9_at ez17) (cwV 2 X.1.2.2.2.2 (guV um_X9_127 ui_X9_at us_X9_at un_X9 uo_X9_at) rfl rfl rfl (by decide +kernel) ⟨Nat.le_of_ble_eq_true rfl, Nat.le_of_ble_eq_true rfl⟩) g_a0 (by decide) rfl rfl hl.1 rfl (Nat.le_of_ble_eq_true rfl) dX9_row_65 ⟨Nat.zero_le _, Nat.zero_le _⟩ (fun H locs hw => ?_)
        refine lv_ldc (v := (2000000 : Int32)) X.1.1 X.1.2.1 X.1.2.2.2.1 (X.1.2.2.2.2 _ uc_X9_86) dX9_row_68 ?_
        refine lv_icmp_ne (tgt := 77) X.1.1 X.1.2.1 dX9_row_70 (by decide) (fun c_18 => ?_) (fun c_18 => ?_)
        · skip
          rw [if_pos c_18] at hf
          refine lv_iconst (v := (0 : Int32)) X.1.1 X.1.2.1 dX9_row_77 (by decide) ?_
          refine lv_goto (tgt := 98) X.1.1 X.1.2.1 dX9_row_78 (by decide) ?_
          cases hf
          exact Jy19 _ _ _ hw (lv_sub hl [1, 2, 3, 4, 5] rfl)
        · skip
          rw [if_neg (fun z => z c_18)] at hf
          refine lv_iconst (v := (1 : Int32)) X.1.1 X.1.2.1 dX9_row_73 (by decide) ?_
          refine lv_goto (tgt := 98) X.1.1 X.1.2.1 dX9_row_74 (by decide) ?_
          cases hf
          exact Jy19 _ _ _ hw (lv_sub hl [1, 2, 3, 4, 5] rfl)
def f_X9_row (h : Hs) (a0 : Nat) (p1 : Int32) (p2 : Int32) (M : Mm) : Option (Int32 × Mm) :=
  gd (ok h a0 9) <|
  lt_ (sI M a0 0 (0 : Int32)) fun M1 =>
  (f_X9_isGauge h a0 p1 M1).bind fun z2 =>
  if z2 = 0 then
    some ((-1 : Int32), M1)
  else
    if p2 < 0 then
      some ((-1 : Int32), M1)
    else
      if p2 ≤ (6 : Int32) then
        (f_X9_spans h a0 p1 M1).bind fun z6 =>
        if ¬ p2 = 0 then
          if (3 : Int32) ≤ p2 then
            (f_X9_look h a0 p1 (0 : Int32) M1).bind fun z9 =>
            if ¬ p2 = (3 : Int32) then
              if ¬ p2 = (4 : Int32) then
                if ¬ p2 = (5 : Int32) then
                  some (zI z9 a0 19, z9)
                else
                  some (zI z9 a0 16, z9)
              else
                some (zI z9 a0 12, z9)
            else
              some (zI z9 a0 11, z9)
          else
            (lp_X9_row_48 h z6 p1 p2 a0 M1 fuel (0 : Int32) (0 : Int32)).bind fun z22 =>
            some (z22.1, M1)
        else
          some (z6, M1)
      else
        some ((-1 : Int32), M1)
set_option maxHeartbeats 4000000 in
set_option maxRecDepth 100000 in
theorem c_X9_row {l : Launch} {D : va_G} {cy : Nat → ClassId} {h : Hs} {a0 : Nat} {p1 : Int32} {p2 : Int32} {M : Mm} {z : (Int32 × Mm)} (hf : f_X9_row h a0 p1 p2 M = some z) : CtI l D cy yX9_row (wu yX9_row cX9_row 6 (some .int)) ({ frames := 6, cells := 0, slots := 0, locals := 142 }) [.ref a0, .int p1, .int p2] h M z.1 z.2 := by
  refine enterI (cc := cX9_row) (maxL := 6) (ret := (some .int)) (by decide) (Nat.le_of_ble_eq_true rfl) ?_
  intro p e s m args below meth c A ls X hw hr hlk hl
  have hl : lv_has ls 6 [(0, .ref a0), (1, .int p1), (2, .int p2)] := hl
  unfold f_X9_row at hf
  refine lv_aload_n X.1.1 X.1.2.1 dX9_row_0 rfl (lv_at hl 0 rfl) ?_
  refine lv_iconst (v := (0 : Int32)) X.1.1 X.1.2.1 dX9_row_1 (by decide) ?_
  obtain ⟨g_a0, hf⟩ := ogd hf
  refine r_puti (k := 9) (j := 0) X hw rfl inX9 tyX9_ok nmX9 g_a0 rfl (by decide) (by decide) uf_X9_1 rfl rfl rfl rfl dX9_row_2 (fun H locs hw => ?_)
  obtain ⟨M1, eM1, hf⟩ := olt hf
  rw [← eM1] at hw
  refine lv_aload_n X.1.1 X.1.2.1 dX9_row_5 rfl (lv_at hl 0 rfl) ?_
  refine lv_iload_n X.1.1 X.1.2.1 dX9_row_6 rfl (lv_at hl 1 rfl) ?_
  obtain ⟨z2, ez2, hf⟩ := obd hf
  refine r_callVI (As := [.int p1]) (rest := []) X hw (c_X9_isGauge ez2) (cwV 1 X.1.2.2.2.2 (guV um_X9_154 ui_X9_isGauge us_X9_isGauge un_X9 uo_X9_isGauge) rfl rfl rfl (by decide +kernel) ⟨Nat.le_of_ble_eq_true rfl, Nat.le_of_ble_eq_true rfl⟩) g_a0 (by decide) rfl rfl hl.1 rfl (Nat.le_of_ble_eq_true rfl) dX9_row_7 ⟨Nat.zero_le _, Nat.zero_le _⟩ (fun H locs hw => ?_)
  refine lv_if_eq (tgt := 23) X.1.1 X.1.2.1 dX9_row_10 (by decide) (fun c_3 => ?_) (fun c_3 => ?_)
  · skip
    rw [if_pos c_3] at hf
    refine lv_iconst (v := (-1 : Int32)) X.1.1 X.1.2.1 dX9_row_23 (by decide) ?_
    cases hf
    exact r_retI (v := (-1 : Int32)) X hw hr hlk rfl dX9_row_24
  · skip
    rw [if_neg c_3] at hf
    refine lv_iload_n X.1.1 X.1.2.1 dX9_row_13 rfl (lv_at hl 2 rfl) ?_
    refine lv_if_lt (tgt := 23) X.1.1 X.1.2.1 dX9_row_14 (by decide) (fun c_4 => ?_) (fun c_4 => ?_)
    · skip
      rw [if_pos c_4] at hf
      refine lv_iconst (v := (-1 : Int32)) X.1.1 X.1.2.1 dX9_row_23 (by decide) ?_
      cases hf
      exact r_retI (v := (-1 : Int32)) X hw hr hlk rfl dX9_row_24
    · skip
      rw [if_neg c_4] at hf
      refine lv_iload_n X.1.1 X.1.2.1 dX9_row_17 rfl (lv_at hl 2 rfl) ?_
      refine lv_bipush (v := (6 : Int32)) X.1.1 X.1.2.1 dX9_row_18 (by decide) ?_
      refine lv_icmp_le (tgt := 25) X.1.1 X.1.2.1 dX9_row_20 (by decide) (fun c_5 => ?_) (fun c_5 => ?_)
      · skip
        rw [if_pos c_5] at hf
        refine lv_aload_n X.1.1 X.1.2.1 dX9_row_25 rfl (lv_at hl 0 rfl) ?_
        refine lv_iload_n X.1.1 X.1.2.1 dX9_row_26 rfl (lv_at hl 1 rfl) ?_
        obtain ⟨z6, ez6, hf⟩ := obd hf
        refine r_callVI (As := [.int p1]) (rest := []) X hw (c_X9_spans ez6) (cwV 1 X.1.2.2.2.2 (guV um_X9_121 ui_X9_spans us_X9_spans un_X9 uo_X9_spans) rfl rfl rfl (by decide +kernel) ⟨Nat.le_of_ble_eq_true rfl, Nat.le_of_ble_eq_true rfl⟩) g_a0 (by decide) rfl rfl hl.1 rfl (Nat.le_of_ble_eq_true rfl) dX9_row_27 ⟨Nat.zero_le _, Nat.zero_le _⟩ (fun H locs hw => ?_)
        refine lv_istore_n (lv' := [(3, .int z6), (0, .ref a0), (1, .int p1), (2, .int p2)]) X.1.1 X.1.2.1 dX9_row_30 rfl hl (by decide) rfl (fun ls hl => ?_)
        refine lv_iload_n X.1.1 X.1.2.1 dX9_row_31 rfl (lv_at hl 3 rfl) ?_
        refine lv_if_ne (tgt := 37) X.1.1 X.1.2.1 dX9_row_32 (by decide) (fun c_7 => ?_) (fun c_7 => ?_)
        · skip
          rw [if_pos c_7] at hf
          refine lv_iload_n X.1.1 X.1.2.1 dX9_row_37 rfl (lv_at hl 3 rfl) ?_
          refine lv_iconst (v := (3 : Int32)) X.1.1 X.1.2.1 dX9_row_38 (by decide) ?_
          refine lv_icmp_ge (tgt := 110) X.1.1 X.1.2.1 dX9_row_39 (by decide) (fun c_8 => ?_) (fun c_8 => ?_)
          · skip
            rw [if_pos c_8] at hf
            refine lv_aload_n X.1.1 X.1.2.1 dX9_row_110 rfl (lv_at hl 1 rfl) ?_
            refine lv_iload_n X.1.1 X.1.2.1 dX9_row_111 rfl (lv_at hl 2 rfl) ?_
            refine lv_iconst (v := (0 : Int32)) X.1.1 X.1.2.1 dX9_row_112 (by decide) ?_
            obtain ⟨z9, ez9, hf⟩ := obd hf
            refine r_callVV (As := [.int p1, .int (0 : Int32)]) (rest := []) X hw (c_X9_look ez9) (cwV 2 X.1.2.2.2.2 (guV um_X9_157 ui_X9_look us_X9_look un_X9 uo_X9_look) rfl rfl rfl (by decide +kernel) ⟨Nat.le_of_ble_eq_true rfl, Nat.le_of_ble_eq_true rfl⟩) g_a0 (by decide) rfl rfl hl.1 rfl (Nat.le_of_ble_eq_true rfl) dX9_row_113 ⟨Nat.zero_le _, Nat.zero_le _⟩ (fun H locs hw => ?_)
            refine lv_iload_n X.1.1 X.1.2.1 dX9_row_116 rfl (lv_at hl 3 rfl) ?_
            refine lv_iconst (v := (3 : Int32)) X.1.1 X.1.2.1 dX9_row_117 (by decide) ?_
            refine lv_icmp_ne (tgt := 128) X.1.1 X.1.2.1 dX9_row_118 (by decide) (fun c_10 => ?_) (fun c_10 => ?_)
            · skip
              rw [if_pos c_10] at hf
              refine lv_iload_n X.1.1 X.1.2.1 dX9_row_128 rfl (lv_at hl 3 rfl) ?_
              refine lv_iconst (v := (4 : Int32)) X.1.1 X.1.2.1 dX9_row_129 (by decide) ?_
              refine lv_icmp_ne (tgt := 140) X.1.1 X.1.2.1 dX9_row_130 (by decide) (fun c_11 => ?_) (fun c_11 => ?_)
              · skip
                rw [if_pos c_11] at hf
                refine lv_iload_n X.1.1 X.1.2.1 dX9_row_140 rfl (lv_at hl 3 rfl) ?_
                refine lv_iconst (v := (5 : Int32)) X.1.1 X.1.2.1 dX9_row_141 (by decide) ?_
                refine lv_icmp_ne (tgt := 152) X.1.1 X.1.2.1 dX9_row_142 (by decide) (fun c_12 => ?_) (fun c_12 => ?_)
                · skip
                  rw [if_pos c_12] at hf
                  refine lv_aload_n X.1.1 X.1.2.1 dX9_row_152 rfl (lv_at hl 1 rfl) ?_
                  refine r_geti (k := 9) (j := 19) X hw rfl inX9 g_a0 rfl (by decide) (by decide) uf_X9_151 rfl dX9_row_153 ?_
                  cases hf
                  exact r_retI (v := zI z9 a0 19) X hw hr hlk rfl dX9_row_156
                · skip
                  rw [if_neg (fun z => z c_12)] at hf
                  refine lv_aload_n X.1.1 X.1.2.1 dX9_row_145 rfl (lv_at hl 1 rfl) ?_
                  refine r_geti (k := 9) (j := 16) X hw rfl inX9 g_a0 rfl (by decide) (by decide) uf_X9_141 rfl dX9_row_146 ?_
                  refine lv_goto (tgt := 156) X.1.1 X.1.2.1 dX9_row_149 (by decide) ?_
                  cases hf
                  exact r_retI (v := zI z9 a0 16) X hw hr hlk rfl dX9_row_156
              · skip
                rw [if_neg (fun z => z c_11)] at hf
                refine lv_aload_n X.1.1 X.1.2.1 dX9_row_133 rfl (lv_at hl 1 rfl) ?_
                refine r_geti (k := 9) (j := 12) X hw rfl inX9 g_a0 rfl (by decide) (by decide) uf_X9_138 rfl dX9_row_134 ?_
                refine lv_goto (tgt := 156) X.1.1 X.1.2.1 dX9_row_137 (by decide) ?_
                cases hf
                exact r_retI (v := zI z9 a0 12) X hw hr hlk rfl dX9_row_156
            · skip
              rw [if_neg (fun z => z c_10)] at hf
              refine lv_aload_n X.1.1 X.1.2.1 dX9_row_121 rfl (lv_at hl 1 rfl) ?_
              refine r_geti (k := 9) (j := 11) X hw rfl inX9 g_a0 rfl (by decide) (by decide) uf_X9_124 rfl dX9_row_122 ?_
              refine lv_goto (tgt := 156) X.1.1 X.1.2.1 dX9_row_125 (by decide) ?_
              cases hf
              exact r_retI (v := zI z9 a0 11) X hw hr hlk rfl dX9_row_156
          · skip
            rw [if_neg c_8] at hf
            refine lv_iconst (v := (0 : Int32)) X.1.1 X.1.2.1 dX9_row_42 (by decide) ?_
            refine lv_istore (lv' := [(4, .int (0 : Int32)), (3, .int z6), (0, .ref a0), (1, .int p1), (2, .int p2)]) X.1.1 X.1.2.1 dX9_row_43 hl (by decide) rfl (fun ls hl => ?_)
            refine lv_iconst (v := (0 : Int32)) X.1.1 X.1.2.1 dX9_row_45 (by decide) ?_
            refine lv_istore (lv' := [(5, .int (0 : Int32)), (4, .int (0 : Int32)), (3, .int z6), (0, .ref a0), (1, .int p1), (2, .int p2)]) X.1.1 X.1.2.1 dX9_row_46 hl (by decide) rfl (fun ls hl => ?_)
            obtain ⟨z22, ez22, hf⟩ := obd hf
            refine wlp_X9_row_48 X g_a0 fuel _ _ _ _ _ _ ez22 hw (lv_sub hl [1, 0, 2, 3, 4, 5] rfl) (fun x ex H locs ls hw hl => ?_)
            subst ex
            refine lv_iload X.1.1 X.1.2.1 dX9_row_107 (lv_at hl 0 rfl) ?_
            cases hf
            exact r_retI (v := z22.1) X hw hr hlk rfl dX9_row_109
        · skip
          rw [if_neg (fun z => z c_7)] at hf
          refine lv_iload_n X.1.1 X.1.2.1 dX9_row_35 rfl (lv_at hl 0 rfl) ?_
          cases hf
          exact r_retI (v := z6) X hw hr hlk rfl dX9_row_36
      · skip
        rw [if_neg c_5] at hf
        refine lv_iconst (v := (-1 : Int32)) X.1.1 X.1.2.1 dX9_row_23 (by decide) ?_
        cases hf
        exact r_retI (v := (-1 : Int32)) X hw hr hlk rfl dX9_row_24
/-! X9_span -/
def f_X9_span (h : Hs) (a0 : Nat) (p1 : Int32) (p2 : Int32) (M : Mm) : Option (Int32 × Mm) :=
  gd (ok h a0 9) <|
  (f_X9_isGauge h a0 p1 M).bind fun z1 =>
  Option.bind (
    if z1 = 0 then
      some (1 : Int32)
    else
      if p2 < 0 then
        some (1 : Int32)
      else
        (f_X9_spans h a0 p1 M).bind fun z4 =>
        if p2 < z4 then
          some (0 : Int32)
        else
          some (1 : Int32)
    ) fun y6 =>
  (f_X9_throwsIf h a0 y6 M).bind fun z7 =>
  if z7.1 = 0 then
    (f_X9_at h a0 p1 p2 z7.2).bind fun z9 =>
    some (z9, z7.2)
  else
    some ((0 : Int32), z7.2)
set_option maxHeartbeats 4000000 in
set_option maxRecDepth 100000 in
theorem c_X9_span {l : Launch} {D : va_G} {cy : Nat → ClassId} {h : Hs} {a0 : Nat} {p1 : Int32} {p2 : Int32} {M : Mm} {z : (Int32 × Mm)} (hf : f_X9_span h a0 p1 p2 M = some z) : CtI l D cy yX9_span (wu yX9_span cX9_span 3 (some .int)) ({ frames := 4, cells := 0, slots := 0, locals := 87 }) [.ref a0, .int p1, .int p2] h M z.1 z.2 := by
  refine enterI (cc := cX9_span) (maxL := 3) (ret := (some .int)) (by decide) (Nat.le_of_ble_eq_true rfl) ?_
  intro p e s m args below meth c A ls X hw hr hlk hl
  have hl : lv_has ls 3 [(0, .ref a0), (1, .int p1), (2, .int p2)] := hl
  unfold f_X9_span at hf
  refine lv_aload_n X.1.1 X.1.2.1 dX9_span_0 rfl (lv_at hl 0 rfl) ?_
  refine lv_aload_n X.1.1 X.1.2.1 dX9_span_1 rfl (lv_at hl 0 rfl) ?_
  refine lv_iload_n X.1.1 X.1.2.1 dX9_span_2 rfl (lv_at hl 1 rfl) ?_
  obtain ⟨g_a0, hf⟩ := ogd hf
  obtain ⟨z1, ez1, hf⟩ := obd hf
  refine r_callVI (As := [.int p1]) (rest := [.ref a0]) X hw (c_X9_isGauge ez1) (cwV 1 X.1.2.2.2.2 (guV um_X9_154 ui_X9_isGauge us_X9_isGauge un_X9 uo_X9_isGauge) rfl rfl rfl (by decide +kernel) ⟨Nat.le_of_ble_eq_true rfl, Nat.le_of_ble_eq_true rfl⟩) g_a0 (by decide) rfl rfl hl.1 rfl (Nat.le_of_ble_eq_true rfl) dX9_span_3 ⟨Nat.zero_le _, Nat.zero_le _⟩ (fun H locs hw => ?_)
  obtain ⟨y6, ey6, hf⟩ := obd hf
  have Jy6 : ∀ (H : Heap) (locs : List Loc) (ls : Array Slot), Wd D cy A s.heap h M H locs → lv_has ls 3 [(0, .ref a0), (1, .int p1), (2, .int p2)] → W p l e ({ frames := 4, cells := 0, slots := 0, locals := 87 } : Room) s m args below meth c H locs 0 0 (QI below D cy A h args s z.1 z.2) (F0 m 27 ls [.int y6, .ref a0]) := by
    intro H locs ls hw hl
    obtain ⟨z7, ez7, hf⟩ := obd hf
    refine r_callVI (As := [.int y6]) (rest := []) X hw (c_X9_throwsIf ez7) (cwV 1 X.1.2.2.2.2 (guV um_X9_160 ui_X9_throwsIf us_X9_throwsIf un_X9 uo_X9_throwsIf) rfl rfl rfl (by decide +kernel) ⟨Nat.le_of_ble_eq_true rfl, Nat.le_of_ble_eq_true rfl⟩) g_a0 (by decide) rfl rfl hl.1 rfl (Nat.le_of_ble_eq_true rfl) dX9_span_27 ⟨Nat.zero_le _, Nat.zero_le _⟩ (fun H locs hw => ?_)
    refine lv_if_eq (tgt := 37) X.1.1 X.1.2.1 dX9_span_30 (by decide) (fun c_8 => ?_) (fun c_8 => ?_)
    · skip
      rw [if_pos c_8] at hf
      refine lv_aload_n X.1.1 X.1.2.1 dX9_span_37 rfl (lv_at hl 0 rfl) ?_
      refine lv_iload_n X.1.1 X.1.2.1 dX9_span_38 rfl (lv_at hl 1 rfl) ?_
      refine lv_iload_n X.1.1 X.1.2.1 dX9_span_39 rfl (lv_at hl 2 rfl) ?_
      obtain ⟨z9, ez9, hf⟩ := obd hf
      refine r_callVI (As := [.int p1, .int p2]) (rest := []) X hw (c_X9_at ez9) (cwV 2 X.1.2.2.2.2 (guV um_X9_127 ui_X9_at us_X9_at un_X9 uo_X9_at) rfl rfl rfl (by decide +kernel) ⟨Nat.le_of_ble_eq_true rfl, Nat.le_of_ble_eq_true rfl⟩) g_a0 (by decide) rfl rfl hl.1 rfl (Nat.le_of_ble_eq_true rfl) dX9_span_40 ⟨Nat.zero_le _, Nat.zero_le _⟩ (fun H locs hw => ?_)
      cases hf
      exact r_retI (v := z9) X hw hr hlk rfl dX9_span_43
    · skip
      rw [if_neg c_8] at hf
      refine lv_iconst (v := (0 : Int32)) X.1.1 X.1.2.1 dX9_span_33 (by decide) ?_
      refine lv_goto (tgt := 43) X.1.1 X.1.2.1 dX9_span_34 (by decide) ?_
      cases hf
      exact r_retI (v := (0 : Int32)) X hw hr hlk rfl dX9_span_43
  clear hf
  have hf := ey6
  clear ey6
  refine lv_if_eq (tgt := 22) X.1.1 X.1.2.1 dX9_span_6 (by decide) (fun c_2 => ?_) (fun c_2 => ?_)
  · skip
    rw [if_pos c_2] at hf
    refine lv_iconst (v := (1 : Int32)) X.1.1 X.1.2.1 dX9_span_22 (by decide) ?_
    refine lv_goto (tgt := 27) X.1.1 X.1.2.1 dX9_span_23 (by decide) ?_
    cases hf
    exact Jy6 _ _ _ hw (lv_sub hl [0, 1, 2] rfl)
  · skip
    rw [if_neg c_2] at hf
    refine lv_iload_n X.1.1 X.1.2.1 dX9_span_9 rfl (lv_at hl 2 rfl) ?_
    refine lv_if_lt (tgt := 22) X.1.1 X.1.2.1 dX9_span_10 (by decide) (fun c_3 => ?_) (fun c_3 => ?_)
    · skip
      rw [if_pos c_3] at hf
      refine lv_iconst (v := (1 : Int32)) X.1.1 X.1.2.1 dX9_span_22 (by decide) ?_
      refine lv_goto (tgt := 27) X.1.1 X.1.2.1 dX9_span_23 (by decide) ?_
      cases hf
      exact Jy6 _ _ _ hw (lv_sub hl [0, 1, 2] rfl)
    · skip
      rw [if_neg c_3] at hf
      refine lv_iload_n X.1.1 X.1.2.1 dX9_span_13 rfl (lv_at hl 2 rfl) ?_
      refine lv_aload_n X.1.1 X.1.2.1 dX9_span_14 rfl (lv_at hl 0 rfl) ?_
      refine lv_iload_n X.1.1 X.1.2.1 dX9_span_15 rfl (lv_at hl 1 rfl) ?_
      obtain ⟨z4, ez4, hf⟩ := obd hf
      refine r_callVI (As := [.int p1]) (rest := [.int p2, .ref a0]) X hw (c_X9_spans ez4) (cwV 1 X.1.2.2.2.2 (guV um_X9_121 ui_X9_spans us_X9_spans un_X9 uo_X9_spans) rfl rfl rfl (by decide +kernel) ⟨Nat.le_of_ble_eq_true rfl, Nat.le_of_ble_eq_true rfl⟩) g_a0 (by decide) rfl rfl hl.1 rfl (Nat.le_of_ble_eq_true rfl) dX9_span_16 ⟨Nat.zero_le _, Nat.zero_le _⟩ (fun H locs hw => ?_)
      refine lv_icmp_lt (tgt := 26) X.1.1 X.1.2.1 dX9_span_19 (by decide) (fun c_5 => ?_) (fun c_5 => ?_)
      · skip
        rw [if_pos c_5] at hf
        refine lv_iconst (v := (0 : Int32)) X.1.1 X.1.2.1 dX9_span_26 (by decide) ?_
        cases hf
        exact Jy6 _ _ _ hw (lv_sub hl [0, 1, 2] rfl)
      · skip
        rw [if_neg c_5] at hf
        refine lv_iconst (v := (1 : Int32)) X.1.1 X.1.2.1 dX9_span_22 (by decide) ?_
        refine lv_goto (tgt := 27) X.1.1 X.1.2.1 dX9_span_23 (by decide) ?_
        cases hf
        exact Jy6 _ _ _ hw (lv_sub hl [0, 1, 2] rfl)
