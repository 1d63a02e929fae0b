/-! X9_effect -/
def lp_X9_effect_26 (h : Hs) (w4 : Int32) (w2 : Int32) (w3 : Int32) (a0 : Nat) (q3 : Nat) (M : Mm) : Nat → Int64 → Int32 → Option (Int64 × Int32)
  | 0, _, _ => none
  | n + 1, v5, v7 =>
    if v7 < 0 then
      some (v5, v7)
    else
      gd (inb ((w4 + (1 : Int32)) + ((2 : Int32) * v7)) (zN h q3)) <|
      Option.bind (
        if (zI M q3 ((w4 + (1 : Int32)) + ((2 : Int32) * v7)).toNatClampNeg) < w3 then
          some v5
        else
          gd (inb ((w4 + (2 : Int32)) + ((2 : Int32) * v7)) (zN h q3)) <|
          lt_ ((zI M q3 ((w4 + (2 : Int32)) + ((2 : Int32) * v7)).toNatClampNeg).toInt64) fun x10 =>
          some x10
        ) fun y11 =>
      lt_ (v7 + (-1 : Int32)) fun x12 =>
      lp_X9_effect_26 h w4 w2 w3 a0 q3 M n y11 x12
set_option maxHeartbeats 4000000 in
set_option maxRecDepth 100000 in
theorem wlp_X9_effect_26 {l : Launch} {D : va_G} {cy : Nat → ClassId} {h : Hs} {w4 : Int32} {w2 : Int32} {w3 : Int32} {a0 : Nat} {q3 : Nat} {M : Mm} {p : Program} {e : Env} {s : State} {m : MethodId} {args : Array Value} {below : List Frame} {meth : Method} {c : Code} {A : Nat → Prop} (X : Cx p s m args c cX9_effect 8 gtbl RX9 D cy A) {Q : State → Prop} (g_a0 : ok h a0 9) (g_q3 : ok h q3 11) (eq3 : zR h a0 1 = some q3) : ∀ (n : Nat) (v5 : Int64) (v7 : Int32) (z : (Int64 × Int32)) (H : Heap) (locs : List Loc) (ls : Array Slot), lp_X9_effect_26 h w4 w2 w3 a0 q3 M n v5 v7 = some z → Wd D cy A s.heap h M H locs → lv_has ls 8 [(5, .long v5), (7, .int v7), (4, .int w4), (0, .ref a0), (2, .int w2), (3, .int w3)] → (∀ x : (Int64 × Int32), z = x → ∀ (H : Heap) (locs : List Loc) (ls : Array Slot), Wd D cy A s.heap h M H locs → lv_has ls 8 [(5, .long x.1), (7, .int x.2), (4, .int w4), (0, .ref a0), (2, .int w2), (3, .int w3)] → W p l e ({ frames := 1, cells := 0, slots := 0, locals := 21 } : Room) s m args below meth c H locs 0 0 Q (F0 m 72 ls [])) → W p l e ({ frames := 1, cells := 0, slots := 0, locals := 21 } : Room) s m args below meth c H locs 0 0 Q (F0 m 26 ls []) := by
  intro n
  induction n with
  | zero => intro v5 v7 z H locs ls hf hw hl kx; exact absurd hf (by intro q; cases q)
  | succ n ih =>
    intro v5 v7 z H locs ls hf hw hl kx
    unfold lp_X9_effect_26 at hf
    refine lv_iload X.1.1 X.1.2.1 dX9_effect_26 (lv_at hl 1 rfl) ?_
    refine lv_if_lt (tgt := 72) X.1.1 X.1.2.1 dX9_effect_28 (by decide) (fun c_6 => ?_) (fun c_6 => ?_)
    · skip
      rw [if_pos c_6] at hf
      cases hf
      exact kx _ rfl _ _ _ hw (lv_sub hl [0, 1, 2, 3, 4, 5] rfl)
    · skip
      rw [if_neg c_6] at hf
      refine lv_aload_n X.1.1 X.1.2.1 dX9_effect_31 rfl (lv_at hl 3 rfl) ?_
      refine r_getq (k := 9) (j := 1) X hw rfl inX9 g_a0 rfl (by decide) (by decide) uf_X9_13 rfl dX9_effect_32 eq3 ?_
      refine lv_iload X.1.1 X.1.2.1 dX9_effect_35 (lv_at hl 2 rfl) ?_
      refine lv_iconst (v := (1 : Int32)) X.1.1 X.1.2.1 dX9_effect_37 (by decide) ?_
      refine lv_iadd X.1.1 X.1.2.1 dX9_effect_38 ?_
      refine lv_iconst (v := (2 : Int32)) X.1.1 X.1.2.1 dX9_effect_39 (by decide) ?_
      refine lv_iload X.1.1 X.1.2.1 dX9_effect_40 (lv_at hl 1 rfl) ?_
      refine lv_imul X.1.1 X.1.2.1 dX9_effect_42 ?_
      refine lv_iadd X.1.1 X.1.2.1 dX9_effect_43 ?_
      obtain ⟨i_7, hf⟩ := ogd hf
      refine r_iald X hw g_q3 i_7 dX9_effect_44 ?_
      refine lv_iload_n X.1.1 X.1.2.1 dX9_effect_45 rfl (lv_at hl 5 rfl) ?_
      obtain ⟨y11, ey11, hf⟩ := obd hf
      have Jy11 : ∀ (H : Heap) (locs : List Loc) (ls : Array Slot), Wd D cy A s.heap h M H locs → lv_has ls 8 [(5, .long y11), (7, .int v7), (4, .int w4), (0, .ref a0), (2, .int w2), (3, .int w3)] → W p l e ({ frames := 1, cells := 0, slots := 0, locals := 21 } : Room) s m args below meth c H locs 0 0 Q (F0 m 66 ls []) := by
        intro H locs ls hw hl
        obtain ⟨x12, ex12, hf⟩ := olt hf
        refine lv_iinc (v := x12) (lv' := [(7, .int x12), (5, .long y11), (4, .int w4), (0, .ref a0), (2, .int w2), (3, .int w3)]) X.1.1 X.1.2.1 dX9_effect_66 hl (k := 1) rfl (by rw [ex12]; rfl) (by decide) rfl (fun ls hl => ?_)
        refine lv_goto (tgt := 26) X.1.1 X.1.2.1 dX9_effect_69 (by decide) ?_
        exact ih _ _ _ _ _ _ hf hw (lv_sub hl [1, 0, 2, 3, 4, 5] rfl) kx
      clear hf
      have hf := ey11
      clear ey11
      refine lv_icmp_lt (tgt := 66) X.1.1 X.1.2.1 dX9_effect_46 (by decide) (fun c_8 => ?_) (fun c_8 => ?_)
      · skip
        rw [if_pos c_8] at hf
        cases hf
        exact Jy11 _ _ _ hw (lv_sub hl [0, 1, 2, 3, 4, 5] rfl)
      · skip
        rw [if_neg c_8] at hf
        refine lv_aload_n X.1.1 X.1.2.1 dX9_effect_49 rfl (lv_at hl 3 rfl) ?_
        refine r_getq (k := 9) (j := 1) X hw rfl inX9 g_a0 rfl (by decide) (by decide) uf_X9_13 rfl dX9_effect_50 eq3 ?_
        refine lv_iload X.1.1 X.1.2.1 dX9_effect_53 (lv_at hl 2 rfl) ?_
        refine lv_iconst (v := (2 : Int32)) X.1.1 X.1.2.1 dX9_effect_55 (by decide) ?_
        refine lv_iadd X.1.1 X.1.2.1 dX9_effect_56 ?_
        refine lv_iconst (v := (2 : Int32)) X.1.1 X.1.2.1 dX9_effect_57 (by decide) ?_
        refine lv_iload X.1.1 X.1.2.1 dX9_effect_58 (lv_at hl 1 rfl) ?_
        refine lv_imul X.1.1 X.1.2.1 dX9_effect_60 ?_
        refine lv_iadd X.1.1 X.1.2.1 dX9_effect_61 ?_
        obtain ⟨i_9, hf⟩ := ogd hf
        refine r_iald X hw g_q3 i_9 dX9_effect_62 ?_
        refine lv_i2l X.1.1 X.1.2.1 dX9_effect_63 rfl ?_
        refine lv_topl (fun x10 ex10 => ?_)
        have hf := oltE ex10 hf
        refine lv_lstore (lv' := [(5, .long x10), (7, .int v7), (4, .int w4), (0, .ref a0), (2, .int w2), (3, .int w3)]) X.1.1 X.1.2.1 dX9_effect_64 hl (by decide) rfl (fun ls hl => ?_)
        cases hf
        exact Jy11 _ _ _ hw (lv_sub hl [0, 1, 2, 3, 4, 5] rfl)
def f_X9_effect (h : Hs) (a0 : Nat) (p1 : Int32) (p2 : Int32) (p3 : Int32) (M : Mm) : Option Int32 :=
  gd (ok h a0 9) <|
  (f_X9_base h a0 p1 M).bind fun z1 =>
  lt_ (z1 + (15 : Int32)) fun x2 =>
  dq (zR h a0 1) fun q3 =>
  gd (ok h q3 11) <|
  gd (inb x2 (zN h q3)) <|
  lt_ ((zI M q3 x2.toNatClampNeg) - (1 : Int32)) fun x5 =>
  (lp_X9_effect_26 h x2 p2 p3 a0 q3 M fuel (100 : Int64) x5).bind fun z13 =>
  some ((((p2.toInt64 * z13.1) + (99 : Int64)) / (100 : Int64)).toInt32)
set_option maxHeartbeats 4000000 in
set_option maxRecDepth 100000 in
theorem c_X9_effect {l : Launch} {D : va_G} {cy : Nat → ClassId} {h : Hs} {a0 : Nat} {p1 : Int32} {p2 : Int32} {p3 : Int32} {M : Mm} {z : Int32} (hf : f_X9_effect h a0 p1 p2 p3 M = some z) : CtI l D cy yX9_effect (wu yX9_effect cX9_effect 8 (some .int)) ({ frames := 1, cells := 0, slots := 0, locals := 21 }) [.ref a0, .int p1, .int p2, .int p3] h M z M := by
  refine enterI (cc := cX9_effect) (maxL := 8) (ret := (some .int)) (by decide) (Nat.le_of_ble_eq_true rfl) ?_
  intro p e s m args below meth c A ls X hw hr hlk hl
  have hl : lv_has ls 8 [(0, .ref a0), (1, .int p1), (2, .int p2), (3, .int p3)] := hl
  unfold f_X9_effect at hf
  refine lv_aload_n X.1.1 X.1.2.1 dX9_effect_0 rfl (lv_at hl 0 rfl) ?_
  refine lv_iload_n X.1.1 X.1.2.1 dX9_effect_1 rfl (lv_at hl 1 rfl) ?_
  obtain ⟨g_a0, hf⟩ := ogd hf
  obtain ⟨z1, ez1, hf⟩ := obd hf
  refine r_callVI (As := [.int p1]) (rest := []) X hw (c_X9_base ez1) (cwV 1 X.1.2.2.2.2 (guV um_X9_170 ui_X9_base us_X9_base un_X9 uo_X9_base) rfl rfl rfl (by decide +kernel) ⟨Nat.le_of_ble_eq_true rfl, Nat.le_of_ble_eq_true rfl⟩) g_a0 (by decide) rfl rfl hl.1 rfl (Nat.le_of_ble_eq_true rfl) dX9_effect_2 ⟨Nat.zero_le _, Nat.zero_le _⟩ (fun H locs hw => ?_)
  refine lv_bipush (v := (15 : Int32)) X.1.1 X.1.2.1 dX9_effect_5 (by decide) ?_
  refine lv_iadd X.1.1 X.1.2.1 dX9_effect_7 ?_
  refine lv_topi (fun x2 ex2 => ?_)
  have hf := oltE ex2 hf
  refine lv_istore (lv' := [(4, .int x2), (0, .ref a0), (1, .int p1), (2, .int p2), (3, .int p3)]) X.1.1 X.1.2.1 dX9_effect_8 hl (by decide) rfl (fun ls hl => ?_)
  refine lv_ldc2 (v := (100 : Int64)) X.1.1 X.1.2.1 X.1.2.2.2.1 (X.1.2.2.2.2 _ uk_X9_186) dX9_effect_10 ?_
  refine lv_lstore (lv' := [(5, .long (100 : Int64)), (4, .int x2), (0, .ref a0), (1, .int p1), (2, .int p2), (3, .int p3)]) X.1.1 X.1.2.1 dX9_effect_13 hl (by decide) rfl (fun ls hl => ?_)
  refine lv_aload_n X.1.1 X.1.2.1 dX9_effect_15 rfl (lv_at hl 2 rfl) ?_
  obtain ⟨q3, eq3, hf⟩ := odq hf
  refine r_getq (k := 9) (j := 1) X hw rfl inX9 g_a0 rfl (by decide) (by decide) uf_X9_13 rfl dX9_effect_16 eq3 ?_
  refine lv_iload X.1.1 X.1.2.1 dX9_effect_19 (lv_at hl 1 rfl) ?_
  obtain ⟨g_q3, hf⟩ := ogd hf
  obtain ⟨i_4, hf⟩ := ogd hf
  refine r_iald X hw g_q3 i_4 dX9_effect_21 ?_
  refine lv_iconst (v := (1 : Int32)) X.1.1 X.1.2.1 dX9_effect_22 (by decide) ?_
  refine lv_isub X.1.1 X.1.2.1 dX9_effect_23 ?_
  refine lv_topi (fun x5 ex5 => ?_)
  have hf := oltE ex5 hf
  refine lv_istore (lv' := [(7, .int x5), (5, .long (100 : Int64)), (4, .int x2), (0, .ref a0), (1, .int p1), (2, .int p2), (3, .int p3)]) X.1.1 X.1.2.1 dX9_effect_24 hl (by decide) rfl (fun ls hl => ?_)
  obtain ⟨z13, ez13, hf⟩ := obd hf
  refine wlp_X9_effect_26 X g_a0 g_q3 eq3 fuel _ _ _ _ _ _ ez13 hw (lv_sub hl [1, 0, 2, 3, 5, 6] rfl) (fun x ex H locs ls hw hl => ?_)
  subst ex
  refine lv_iload_n X.1.1 X.1.2.1 dX9_effect_72 rfl (lv_at hl 4 rfl) ?_
  refine lv_i2l X.1.1 X.1.2.1 dX9_effect_73 rfl ?_
  refine lv_lload X.1.1 X.1.2.1 dX9_effect_74 (lv_at hl 0 rfl) ?_
  refine lv_lmul X.1.1 X.1.2.1 dX9_effect_76 ?_
  refine lv_ldc2 (v := (99 : Int64)) X.1.1 X.1.2.1 X.1.2.2.2.1 (X.1.2.2.2.2 _ uk_X9_188) dX9_effect_77 ?_
  refine lv_ladd X.1.1 X.1.2.1 dX9_effect_80 ?_
  refine lv_ldc2 (v := (100 : Int64)) X.1.1 X.1.2.1 X.1.2.2.2.1 (X.1.2.2.2.2 _ uk_X9_186) dX9_effect_81 ?_
  refine lv_ldiv X.1.1 X.1.2.1 dX9_effect_84 (by decide) ?_
  refine lv_l2i X.1.1 X.1.2.1 dX9_effect_85 rfl ?_
  cases hf
  exact r_retI X hw hr hlk rfl dX9_effect_86
/-! X9_boundOf -/
def lp_X9_boundOf_22 (h : Hs) (w3 : Int32) (w2 : Int32) (a0 : Nat) (q3 : Nat) (M : Mm) : Nat → Int32 → Int32 → Option (Int32 × Int32)
  | 0, _, _ => none
  | n + 1, v4, v5 =>
    if v5 < 0 then
      some (v4, v5)
    else
      gd (inb ((w3 + (1 : Int32)) + ((2 : Int32) * v5)) (zN h q3)) <|
      Option.bind (
        if (zI M q3 ((w3 + (1 : Int32)) + ((2 : Int32) * v5)).toNatClampNeg) < w2 then
          some v4
        else
          some v5
        ) fun y9 =>
      lt_ (v5 + (-1 : Int32)) fun x10 =>
      lp_X9_boundOf_22 h w3 w2 a0 q3 M n y9 x10
set_option maxHeartbeats 4000000 in
set_option maxRecDepth 100000 in
theorem wlp_X9_boundOf_22 {l : Launch} {D : va_G} {cy : Nat → ClassId} {h : Hs} {w3 : Int32} {w2 : Int32} {a0 : Nat} {q3 : Nat} {M : Mm} {p : Program} {e : Env} {s : State} {m : MethodId} {args : Array Value} {below : List Frame} {meth : Method} {c : Code} {A : Nat → Prop} (X : Cx p s m args c cX9_boundOf 6 gtbl RX9 D cy A) {Q : State → Prop} (g_a0 : ok h a0 9) (g_q3 : ok h q3 11) (eq3 : zR h a0 1 = some q3) : ∀ (n : Nat) (v4 : Int32) (v5 : Int32) (z : (Int32 × Int32)) (H : Heap) (locs : List Loc) (ls : Array Slot), lp_X9_boundOf_22 h w3 w2 a0 q3 M n v4 v5 = some z → Wd D cy A s.heap h M H locs → lv_has ls 6 [(4, .int v4), (5, .int v5), (3, .int w3), (0, .ref a0), (2, .int w2)] → (∀ x : (Int32 × Int32), z = x → ∀ (H : Heap) (locs : List Loc) (ls : Array Slot), Wd D cy A s.heap h M H locs → lv_has ls 6 [(4, .int x.1), (5, .int x.2), (3, .int w3), (0, .ref a0), (2, .int w2)] → W p l e ({ frames := 1, cells := 0, slots := 0, locals := 21 } : Room) s m args below meth c H locs 0 0 Q (F0 m 54 ls [])) → W p l e ({ frames := 1, cells := 0, slots := 0, locals := 21 } : Room) s m args below meth c H locs 0 0 Q (F0 m 22 ls []) := by
  intro n
  induction n with
  | zero => intro v4 v5 z H locs ls hf hw hl kx; exact absurd hf (by intro q; cases q)
  | succ n ih =>
    intro v4 v5 z H locs ls hf hw hl kx
    unfold lp_X9_boundOf_22 at hf
    refine lv_iload X.1.1 X.1.2.1 dX9_boundOf_22 (lv_at hl 1 rfl) ?_
    refine lv_if_lt (tgt := 54) X.1.1 X.1.2.1 dX9_boundOf_24 (by decide) (fun c_6 => ?_) (fun c_6 => ?_)
    · skip
      rw [if_pos c_6] at hf
      cases hf
      exact kx _ rfl _ _ _ hw (lv_sub hl [0, 1, 2, 3, 4] rfl)
    · skip
      rw [if_neg c_6] at hf
      refine lv_aload_n X.1.1 X.1.2.1 dX9_boundOf_27 rfl (lv_at hl 3 rfl) ?_
      refine r_getq (k := 9) (j := 1) X hw rfl inX9 g_a0 rfl (by decide) (by decide) uf_X9_13 rfl dX9_boundOf_28 eq3 ?_
      refine lv_iload_n X.1.1 X.1.2.1 dX9_boundOf_31 rfl (lv_at hl 2 rfl) ?_
      refine lv_iconst (v := (1 : Int32)) X.1.1 X.1.2.1 dX9_boundOf_32 (by decide) ?_
      refine lv_iadd X.1.1 X.1.2.1 dX9_boundOf_33 ?_
      refine lv_iconst (v := (2 : Int32)) X.1.1 X.1.2.1 dX9_boundOf_34 (by decide) ?_
      refine lv_iload X.1.1 X.1.2.1 dX9_boundOf_35 (lv_at hl 1 rfl) ?_
      refine lv_imul X.1.1 X.1.2.1 dX9_boundOf_37 ?_
      refine lv_iadd X.1.1 X.1.2.1 dX9_boundOf_38 ?_
      obtain ⟨i_7, hf⟩ := ogd hf
      refine r_iald X hw g_q3 i_7 dX9_boundOf_39 ?_
      refine lv_iload_n X.1.1 X.1.2.1 dX9_boundOf_40 rfl (lv_at hl 4 rfl) ?_
      obtain ⟨y9, ey9, hf⟩ := obd hf
      have Jy9 : ∀ (H : Heap) (locs : List Loc) (ls : Array Slot), Wd D cy A s.heap h M H locs → lv_has ls 6 [(4, .int y9), (5, .int v5), (3, .int w3), (0, .ref a0), (2, .int w2)] → W p l e ({ frames := 1, cells := 0, slots := 0, locals := 21 } : Room) s m args below meth c H locs 0 0 Q (F0 m 48 ls []) := by
        intro H locs ls hw hl
        obtain ⟨x10, ex10, hf⟩ := olt hf
        refine lv_iinc (v := x10) (lv' := [(5, .int x10), (4, .int y9), (3, .int w3), (0, .ref a0), (2, .int w2)]) X.1.1 X.1.2.1 dX9_boundOf_48 hl (k := 1) rfl (by rw [ex10]; rfl) (by decide) rfl (fun ls hl => ?_)
        refine lv_goto (tgt := 22) X.1.1 X.1.2.1 dX9_boundOf_51 (by decide) ?_
        exact ih _ _ _ _ _ _ hf hw (lv_sub hl [1, 0, 2, 3, 4] rfl) kx
      clear hf
      have hf := ey9
      clear ey9
      refine lv_icmp_lt (tgt := 48) X.1.1 X.1.2.1 dX9_boundOf_41 (by decide) (fun c_8 => ?_) (fun c_8 => ?_)
      · skip
        rw [if_pos c_8] at hf
        cases hf
        exact Jy9 _ _ _ hw (lv_sub hl [0, 1, 2, 3, 4] rfl)
      · skip
        rw [if_neg c_8] at hf
        refine lv_iload X.1.1 X.1.2.1 dX9_boundOf_44 (lv_at hl 1 rfl) ?_
        refine lv_istore (lv' := [(4, .int v5), (5, .int v5), (3, .int w3), (0, .ref a0), (2, .int w2)]) X.1.1 X.1.2.1 dX9_boundOf_46 hl (by decide) rfl (fun ls hl => ?_)
        cases hf
        exact Jy9 _ _ _ hw (lv_sub hl [0, 1, 2, 3, 4] rfl)
def f_X9_boundOf (h : Hs) (a0 : Nat) (p1 : Int32) (p2 : Int32) (M : Mm) : Option Int32 :=
  gd (ok h a0 9) <|
  (f_X9_base h a0 p1 M).bind fun z1 =>
  lt_ (z1 + (2 : Int32)) fun x2 =>
  dq (zR h a0 1) fun q3 =>
  gd (ok h q3 11) <|
  gd (inb x2 (zN h q3)) <|
  lt_ ((zI M q3 x2.toNatClampNeg) - (1 : Int32)) fun x5 =>
  (lp_X9_boundOf_22 h x2 p2 a0 q3 M fuel (6 : Int32) x5).bind fun z11 =>
  some z11.1
set_option maxHeartbeats 4000000 in
set_option maxRecDepth 100000 in
theorem c_X9_boundOf {l : Launch} {D : va_G} {cy : Nat → ClassId} {h : Hs} {a0 : Nat} {p1 : Int32} {p2 : Int32} {M : Mm} {z : Int32} (hf : f_X9_boundOf h a0 p1 p2 M = some z) : CtI l D cy yX9_boundOf (wu yX9_boundOf cX9_boundOf 6 (some .int)) ({ frames := 1, cells := 0, slots := 0, locals := 21 }) [.ref a0, .int p1, .int p2] h M z M := by
  refine enterI (cc := cX9_boundOf) (maxL := 6) (ret := (some .int)) (by decide) (Nat.le_of_ble_eq_true rfl) ?_
  intro p e s m args below meth c A ls X hw hr hlk hl
  have hl : lv_has ls 6 [(0, .ref a0), (1, .int p1), (2, .int p2)] := hl
  unfold f_X9_boundOf at hf
  refine lv_aload_n X.1.1 X.1.2.1 dX9_boundOf_0 rfl (lv_at hl 0 rfl) ?_
  refine lv_iload_n X.1.1 X.1.2.1 dX9_boundOf_1 rfl (lv_at hl 1 rfl) ?_
  obtain ⟨g_a0, hf⟩ := ogd hf
  obtain ⟨z1, ez1, hf⟩ := obd hf
  refine r_callVI (As := [.int p1]) (rest := []) X hw (c_X9_base ez1) (cwV 1 X.1.2.2.2.2 (guV um_X9_170 ui_X9_base us_X9_base un_X9 uo_X9_base) rfl rfl rfl (by decide +kernel) ⟨Nat.le_of_ble_eq_true rfl, Nat.le_of_ble_eq_true rfl⟩) g_a0 (by decide) rfl rfl hl.1 rfl (Nat.le_of_ble_eq_true rfl) dX9_boundOf_2 ⟨Nat.zero_le _, Nat.zero_le _⟩ (fun H locs hw => ?_)
  refine lv_iconst (v := (2 : Int32)) X.1.1 X.1.2.1 dX9_boundOf_5 (by decide) ?_
  refine lv_iadd X.1.1 X.1.2.1 dX9_boundOf_6 ?_
  refine lv_topi (fun x2 ex2 => ?_)
  have hf := oltE ex2 hf
  refine lv_istore_n (lv' := [(3, .int x2), (0, .ref a0), (1, .int p1), (2, .int p2)]) X.1.1 X.1.2.1 dX9_boundOf_7 rfl hl (by decide) rfl (fun ls hl => ?_)
  refine lv_bipush (v := (6 : Int32)) X.1.1 X.1.2.1 dX9_boundOf_8 (by decide) ?_
  refine lv_istore (lv' := [(4, .int (6 : Int32)), (3, .int x2), (0, .ref a0), (1, .int p1), (2, .int p2)]) X.1.1 X.1.2.1 dX9_boundOf_10 hl (by decide) rfl (fun ls hl => ?_)
  refine lv_aload_n X.1.1 X.1.2.1 dX9_boundOf_12 rfl (lv_at hl 2 rfl) ?_
  obtain ⟨q3, eq3, hf⟩ := odq hf
  refine r_getq (k := 9) (j := 1) X hw rfl inX9 g_a0 rfl (by decide) (by decide) uf_X9_13 rfl dX9_boundOf_13 eq3 ?_
  refine lv_iload_n X.1.1 X.1.2.1 dX9_boundOf_16 rfl (lv_at hl 1 rfl) ?_
  obtain ⟨g_q3, hf⟩ := ogd hf
  obtain ⟨i_4, hf⟩ := ogd hf
  refine r_iald X hw g_q3 i_4 dX9_boundOf_17 ?_
  refine lv_iconst (v := (1 : Int32)) X.1.1 X.1.2.1 dX9_boundOf_18 (by decide) ?_
  refine lv_isub X.1.1 X.1.2.1 dX9_boundOf_19 ?_
  refine lv_topi (fun x5 ex5 => ?_)
  have hf := oltE ex5 hf
  refine lv_istore (lv' := [(5, .int x5), (4, .int (6 : Int32)), (3, .int x2), (0, .ref a0), (1, .int p1), (2, .int p2)]) X.1.1 X.1.2.1 dX9_boundOf_20 hl (by decide) rfl (fun ls hl => ?_)
  obtain ⟨z11, ez11, hf⟩ := obd hf
  refine wlp_X9_boundOf_22 X g_a0 g_q3 eq3 fuel _ _ _ _ _ _ ez11 hw (lv_sub hl [1, 0, 2, 3, 5] rfl) (fun x ex H locs ls hw hl => ?_)
  subst ex
  refine lv_iload X.1.1 X.1.2.1 dX9_boundOf_54 (lv_at hl 0 rfl) ?_
  cases hf
  exact r_retI X hw hr hlk rfl dX9_boundOf_56
/-! X9_bears -/
def f_X9_bears (h : Hs) (a0 : Nat) (p1 : Int32) (p2 : Int32) (M : Mm) : Option Int64 :=
  if ¬ p2 = (6 : Int32) then
    gd (ok h a0 9) <|
    dq (zR h a0 1) fun q2 =>
    (f_X9_base h a0 p1 M).bind fun z3 =>
    gd (ok h q2 11) <|
    gd (inb (((z3 + (2 : Int32)) + (2 : Int32)) + ((2 : Int32) * p2)) (zN h q2)) <|
    some ((zI M q2 (((z3 + (2 : Int32)) + (2 : Int32)) + ((2 : Int32) * p2)).toNatClampNeg).toInt64)
  else
    some (1 : Int64)
set_option maxHeartbeats 4000000 in
set_option maxRecDepth 100000 in
theorem c_X9_bears {l : Launch} {D : va_G} {cy : Nat → ClassId} {h : Hs} {a0 : Nat} {p1 : Int32} {p2 : Int32} {M : Mm} {z : Int64} (hf : f_X9_bears h a0 p1 p2 M = some z) : CtL l D cy yX9_bears (wu yX9_bears cX9_bears 3 (some .long)) ({ frames := 1, cells := 0, slots := 0, locals := 21 }) [.ref a0, .int p1, .int p2] h M z M := by
  refine enterL (cc := cX9_bears) (maxL := 3) (ret := (some .long)) (by decide) (Nat.le_of_ble_eq_true rfl) ?_
  intro p e s m args below meth c A ls X hw hr hlk hl
  have hl : lv_has ls 3 [(0, .ref a0), (1, .int p1), (2, .int p2)] := hl
  unfold f_X9_bears at hf
  refine lv_iload_n X.1.1 X.1.2.1 dX9_bears_0 rfl (lv_at hl 2 rfl) ?_
  refine lv_bipush (v := (6 : Int32)) X.1.1 X.1.2.1 dX9_bears_1 (by decide) ?_
  refine lv_icmp_ne (tgt := 10) X.1.1 X.1.2.1 dX9_bears_3 (by decide) (fun c_1 => ?_) (fun c_1 => ?_)
  · skip
    rw [if_pos c_1] at hf
    refine lv_aload_n X.1.1 X.1.2.1 dX9_bears_10 rfl (lv_at hl 0 rfl) ?_
    obtain ⟨g_a0, hf⟩ := ogd hf
    obtain ⟨q2, eq2, hf⟩ := odq hf
    refine r_getq (k := 9) (j := 1) X hw rfl inX9 g_a0 rfl (by decide) (by decide) uf_X9_13 rfl dX9_bears_11 eq2 ?_
    refine lv_aload_n X.1.1 X.1.2.1 dX9_bears_14 rfl (lv_at hl 0 rfl) ?_
    refine lv_iload_n X.1.1 X.1.2.1 dX9_bears_15 rfl (lv_at hl 1 rfl) ?_
    obtain ⟨z3, ez3, hf⟩ := obd hf
    refine r_callVI (As := [.int p1]) (rest := [.ref q2]) X hw (c_X9_base ez3) (cwV 1 X.1.2.2.2.2 (guV um_X9_170 ui_X9_base us_X9_base un_X9 uo_X9_base) rfl rfl rfl (by decide +kernel) ⟨Nat.le_of_ble_eq_true rfl, Nat.le_of_ble_eq_true rfl⟩) g_a0 (by decide) rfl rfl hl.1 rfl (Nat.le_of_ble_eq_true rfl) dX9_bears_16 ⟨Nat.zero_le _, Nat.zero_le _⟩ (fun H locs hw => ?_)
    refine lv_iconst (v := (2 : Int32)) X.1.1 X.1.2.1 dX9_bears_19 (by decide) ?_
    refine lv_iadd X.1.1 X.1.2.1 dX9_bears_20 ?_
    refine lv_iconst (v := (2 : Int32)) X.1.1 X.1.2.1 dX9_bears_21 (by decide) ?_
    refine lv_iadd X.1.1 X.1.2.1 dX9_bears_22 ?_
    refine lv_iconst (v := (2 : Int32)) X.1.1 X.1.2.1 dX9_bears_23 (by decide) ?_
    refine lv_iload_n X.1.1 X.1.2.1 dX9_bears_24 rfl (lv_at hl 2 rfl) ?_
    refine lv_imul X.1.1 X.1.2.1 dX9_bears_25 ?_
    refine lv_iadd X.1.1 X.1.2.1 dX9_bears_26 ?_
    obtain ⟨g_q2, hf⟩ := ogd hf
    obtain ⟨i_4, hf⟩ := ogd hf
    refine r_iald X hw g_q2 i_4 dX9_bears_27 ?_
    refine lv_i2l X.1.1 X.1.2.1 dX9_bears_28 rfl ?_
    cases hf
    exact r_retL X hw hr hlk dX9_bears_29
  · skip
    rw [if_neg (fun z => z c_1)] at hf
    refine lv_lconst (v := (1 : Int64)) X.1.1 X.1.2.1 dX9_bears_6 (by decide) ?_
    refine lv_goto (tgt := 29) X.1.1 X.1.2.1 dX9_bears_7 (by decide) ?_
    cases hf
    exact r_retL X hw hr hlk dX9_bears_29
/-! X9_count0 -/
def lp_X9_count0_2 (h : Hs) (w1 : Int32) (a0 : Nat) : Nat → Int32 → Mm → Option (Int32 × Mm)
  | 0, _, _ => none
  | n + 1, v2, M =>
    if (7 : Int32) ≤ v2 then
      some (v2, M)
    else
      gd (ok h a0 9) <|
      dq (zR h a0 20) fun q2 =>
      gd (ok h q2 12) <|
      gd (inb v2 (zN h q2)) <|
      lt_ (sJ M q2 v2.toNatClampNeg (0 : Int64)) fun M4 =>
      lt_ (v2 + (1 : Int32)) fun x5 =>
      lp_X9_count0_2 h w1 a0 n x5 M4
set_option maxHeartbeats 4000000 in
set_option maxRecDepth 100000 in
theorem wlp_X9_count0_2 {l : Launch} {D : va_G} {cy : Nat → ClassId} {h : Hs} {w1 : Int32} {a0 : Nat} {p : Program} {e : Env} {s : State} {m : MethodId} {args : Array Value} {below : List Frame} {meth : Method} {c : Code} {A : Nat → Prop} (X : Cx p s m args c cX9_count0 11 gtbl RX9 D cy A) {Q : State → Prop} : ∀ (n : Nat) (v2 : Int32) (M : Mm) (z : (Int32 × Mm)) (H : Heap) (locs : List Loc) (ls : Array Slot), lp_X9_count0_2 h w1 a0 n v2 M = some z → Wd D cy A s.heap h M H locs → lv_has ls 11 [(2, .int v2), (0, .ref a0), (1, .int w1)] → (∀ x : (Int32 × Mm), z = x → ∀ (H : Heap) (locs : List Loc) (ls : Array Slot), Wd D cy A s.heap h x.2 H locs → lv_has ls 11 [(2, .int x.1), (0, .ref a0), (1, .int w1)] → W p l e ({ frames := 6, cells := 0, slots := 0, locals := 142 } : Room) s m args below meth c H locs 0 0 Q (F0 m 21 ls [])) → W p l e ({ frames := 6, cells := 0, slots := 0, locals := 142 } : Room) s m args below meth c H locs 0 0 Q (F0 m 2 ls []) := by
  intro n
  induction n with
  | zero => intro v2 M z H locs ls hf hw hl kx; exact absurd hf (by intro q; cases q)
  | succ n ih =>
    intro v2 M z H locs ls hf hw hl kx
    unfold lp_X9_count0_2 at hf
    refine lv_iload_n X.1.1 X.1.2.1 dX9_count0_2 rfl (lv_at hl 0 rfl) ?_
    refine lv_bipush (v := (7 : Int32)) X.1.1 X.1.2.1 dX9_count0_3 (by decide) ?_
    refine lv_icmp_ge (tgt := 21) X.1.1 X.1.2.1 dX9_count0_5 (by decide) (fun c_1 => ?_) (fun c_1 => ?_)
    · skip
      rw [if_pos c_1] at hf
      cases hf
      exact kx _ rfl _ _ _ hw (lv_sub hl [0, 1, 2] rfl)
    · skip
      rw [if_neg c_1] at hf
      refine lv_aload_n X.1.1 X.1.2.1 dX9_count0_8 rfl (lv_at hl 1 rfl) ?_
      obtain ⟨g_a0, hf⟩ := ogd hf
      obtain ⟨q2, eq2, hf⟩ := odq hf
      refine r_getq (k := 9) (j := 20) X hw rfl inX9 g_a0 rfl (by decide) (by decide) uf_X9_52 rfl dX9_count0_9 eq2 ?_
      refine lv_iload_n X.1.1 X.1.2.1 dX9_count0_12 rfl (lv_at hl 0 rfl) ?_
      refine lv_lconst (v := (0 : Int64)) X.1.1 X.1.2.1 dX9_count0_13 (by decide) ?_
      obtain ⟨g_q2, hf⟩ := ogd hf
      obtain ⟨i_3, hf⟩ := ogd hf
      refine r_last X hw g_q2 i_3 dX9_count0_14 (fun H locs hw => ?_)
      obtain ⟨M4, eM4, hf⟩ := olt hf
      rw [← eM4] at hw
      obtain ⟨x5, ex5, hf⟩ := olt hf
      refine lv_iinc (v := x5) (lv' := [(2, .int x5), (0, .ref a0), (1, .int w1)]) X.1.1 X.1.2.1 dX9_count0_15 hl (k := 0) rfl (by rw [ex5]; rfl) (by decide) rfl (fun ls hl => ?_)
      refine lv_goto (tgt := 2) X.1.1 X.1.2.1 dX9_count0_18 (by decide) ?_
      exact ih _ _ _ _ _ _ hf hw (lv_sub hl [0, 1, 2] rfl) kx
def lp_X9_count0_73 (h : Hs) (w3 : Int32) (w2 : Int32) (w1 : Int32) (a0 : Nat) (q8 : Nat) : Nat → Int32 → Int32 → Mm → Option (Int32 × Int32 × Mm)
  | 0, _, _, _ => none
  | n + 1, v4, v5, M =>
    if v5 < (((zI M a0 16) + (zI M a0 19)) - (1 : Int32)) then
      Option.bind (
        if (zI M a0 16) ≤ v5 then
          some (0 : Int32)
        else
          some (1 : Int32)
        ) fun y20 =>
      Option.bind (
        if y20 = 0 then
          dq (zR h a0 18) fun q22 =>
          gd (ok h q22 11) <|
          gd (inb (v5 - (zI M a0 16)) (zN h q22)) <|
          some (zI M q22 (v5 - (zI M a0 16)).toNatClampNeg)
        else
          some (0 : Int32)
        ) fun y24 =>
      Option.bind (
        if y20 = 0 then
          dq (zR h a0 18) fun q26 =>
          gd (ok h q26 11) <|
          gd (inb ((v5 - (zI M a0 16)) + (1 : Int32)) (zN h q26)) <|
          some (zI M q26 ((v5 - (zI M a0 16)) + (1 : Int32)).toNatClampNeg)
        else
          some (0 : Int32)
        ) fun y28 =>
      Option.bind (
        if y20 = 0 then
          Option.bind (
            if y24 ≤ y28 then
              some (y28 - y24)
            else
              some (y24 - y28)
            ) fun y31 =>
          (f_X9_effect h a0 w1 y31 (y24 + y28) M).bind fun z32 =>
          some z32
        else
          (f_X9_rangeOf h a0 v5 M).bind fun z33 =>
          (f_X9_meanOf h a0 v5 M).bind fun z34 =>
          (f_X9_effect h a0 w1 z33 z34 M).bind fun z35 =>
          some z35
        ) fun y36 =>
      Option.bind (
        if ¬ v4 = 0 then
          some (1 : Int32)
        else
          (f_X9_base h a0 w1 M).bind fun z38 =>
          gd (inb (z38 + (24 : Int32)) (zN h q8)) <|
          if y36 < (zI M q8 (z38 + (24 : Int32)).toNatClampNeg) then
            some (0 : Int32)
          else
            some (1 : Int32)
        ) fun y41 =>
      Option.bind (
        if ¬ y41 = 0 then
          (f_X9_boundOf h a0 w1 y36 M).bind fun z43 =>
          dq (zR h a0 20) fun q44 =>
          gd (ok h q44 12) <|
          gd (inb z43 (zN h q44)) <|
          Option.bind (
            if y20 = 0 then
              some (720720000000 : Int64)
            else
              some (1441440000000 : Int64)
            ) fun y47 =>
          (f_X9_bears h a0 w1 z43 M).bind fun z48 =>
          gd (¬ z48 = 0) <|
          gd (inb z43 (zN h q44)) <|
          lt_ (sJ M q44 z43.toNatClampNeg ((zJ M q44 z43.toNatClampNeg) + (y47 / z48))) fun M51 =>
          some M51
        else
          some M
        ) fun y52 =>
      lt_ (v5 + (1 : Int32)) fun x53 =>
      lp_X9_count0_73 h w3 w2 w1 a0 q8 n y41 x53 y52
    else
      if (zI M a0 16) ≤ v5 then
        some (v4, v5, M)
      else
        Option.bind (
          if (zI M a0 16) ≤ v5 then
            some (0 : Int32)
          else
            some (1 : Int32)
          ) fun y56 =>
        Option.bind (
          if y56 = 0 then
            dq (zR h a0 18) fun q58 =>
            gd (ok h q58 11) <|
            gd (inb (v5 - (zI M a0 16)) (zN h q58)) <|
            some (zI M q58 (v5 - (zI M a0 16)).toNatClampNeg)
          else
            some (0 : Int32)
          ) fun y60 =>
        Option.bind (
          if y56 = 0 then
            dq (zR h a0 18) fun q62 =>
            gd (ok h q62 11) <|
            gd (inb ((v5 - (zI M a0 16)) + (1 : Int32)) (zN h q62)) <|
            some (zI M q62 ((v5 - (zI M a0 16)) + (1 : Int32)).toNatClampNeg)
          else
            some (0 : Int32)
          ) fun y64 =>
        Option.bind (
          if y56 = 0 then
            Option.bind (
              if y60 ≤ y64 then
                some (y64 - y60)
              else
                some (y60 - y64)
              ) fun y67 =>
            (f_X9_effect h a0 w1 y67 (y60 + y64) M).bind fun z68 =>
            some z68
          else
            (f_X9_rangeOf h a0 v5 M).bind fun z69 =>
            (f_X9_meanOf h a0 v5 M).bind fun z70 =>
            (f_X9_effect h a0 w1 z69 z70 M).bind fun z71 =>
            some z71
          ) fun y72 =>
        Option.bind (
          if ¬ v4 = 0 then
            some (1 : Int32)
          else
            (f_X9_base h a0 w1 M).bind fun z74 =>
            gd (inb (z74 + (24 : Int32)) (zN h q8)) <|
            if y72 < (zI M q8 (z74 + (24 : Int32)).toNatClampNeg) then
              some (0 : Int32)
            else
              some (1 : Int32)
          ) fun y77 =>
        Option.bind (
          if ¬ y77 = 0 then
            (f_X9_boundOf h a0 w1 y72 M).bind fun z79 =>
            dq (zR h a0 20) fun q80 =>
            gd (ok h q80 12) <|
            gd (inb z79 (zN h q80)) <|
            Option.bind (
              if y56 = 0 then
                some (720720000000 : Int64)
              else
                some (1441440000000 : Int64)
              ) fun y83 =>
            (f_X9_bears h a0 w1 z79 M).bind fun z84 =>
            gd (¬ z84 = 0) <|
            gd (inb z79 (zN h q80)) <|
            lt_ (sJ M q80 z79.toNatClampNeg ((zJ M q80 z79.toNatClampNeg) + (y83 / z84))) fun M87 =>
            some M87
          else
            some M
          ) fun y88 =>
        lt_ (v5 + (1 : Int32)) fun x89 =>
        lp_X9_count0_73 h w3 w2 w1 a0 q8 n y77 x89 y88
set_option maxHeartbeats 4000000 in
set_option maxRecDepth 100000 in
theorem wlp_X9_count0_73 {l : Launch} {D : va_G} {cy : Nat → ClassId} {h : Hs} {w3 : Int32} {w2 : Int32} {w1 : Int32} {a0 : Nat} {q8 : Nat} {p : Program} {e : Env} {s : State} {m : MethodId} {args : Array Value} {below : List Frame} {meth : Method} {c : Code} {A : Nat → Prop} (X : Cx p s m args c cX9_count0 11 gtbl RX9 D cy A) {Q : State → Prop} (g_a0 : ok h a0 9) (g_q8 : ok h q8 11) (eq8 : zR h a0 1 = some q8) : ∀ (n : Nat) (v4 : Int32) (v5 : Int32) (M : Mm) (z : (Int32 × Int32 × Mm)) (H : Heap) (locs : List Loc) (ls : Array Slot), lp_X9_count0_73 h w3 w2 w1 a0 q8 n v4 v5 M = some z → Wd D cy A s.heap h M H locs → lv_has ls 11 [(4, .int v4), (5, .int v5), (3, .int w3), (2, .int w2), (0, .ref a0), (1, .int w1)] → (∀ x : (Int32 × Int32 × Mm), z = x → ∀ (H : Heap) (locs : List Loc) (ls : Array Slot), Wd D cy A s.heap h x.2.2 H locs → lv_has ls 11 [(4, .int x.1), (5, .int x.2.1), (3, .int w3), (2, .int w2), (0, .ref a0), (1, .int w1)] → W p l e ({ frames := 6, cells := 0, slots := 0, locals := 142 } : Room) s m args below meth c H locs 0 0 Q (F0 m 304 ls [])) → W p l e ({ frames := 6, cells := 0, slots := 0, locals := 142 } : Room) s m args below meth c H locs 0 0 Q (F0 m 73 ls []) := by
  intro n
  induction n with
  | zero => intro v4 v5 M z H locs ls hf hw hl kx; exact absurd hf (by intro q; cases q)
  | succ n ih =>
    intro v4 v5 M z H locs ls hf hw hl kx
    unfold lp_X9_count0_73 at hf
    refine lv_iload X.1.1 X.1.2.1 dX9_count0_73 (lv_at hl 1 rfl) ?_
    refine lv_aload_n X.1.1 X.1.2.1 dX9_count0_75 rfl (lv_at hl 4 rfl) ?_
    refine r_geti (k := 9) (j := 16) X hw rfl inX9 g_a0 rfl (by decide) (by decide) uf_X9_141 rfl dX9_count0_76 ?_
    refine lv_aload_n X.1.1 X.1.2.1 dX9_count0_79 rfl (lv_at hl 4 rfl) ?_
    refine r_geti (k := 9) (j := 19) X hw rfl inX9 g_a0 rfl (by decide) (by decide) uf_X9_151 rfl dX9_count0_80 ?_
    refine lv_iadd X.1.1 X.1.2.1 dX9_count0_83 ?_
    refine lv_iconst (v := (1 : Int32)) X.1.1 X.1.2.1 dX9_count0_84 (by decide) ?_
    refine lv_isub X.1.1 X.1.2.1 dX9_count0_85 ?_
    refine lv_icmp_lt (tgt := 98) X.1.1 X.1.2.1 dX9_count0_86 (by decide) (fun c_18 => ?_) (fun c_18 => ?_)
    · skip
      rw [if_pos c_18] at hf
      refine lv_iload X.1.1 X.1.2.1 dX9_count0_98 (lv_at hl 1 rfl) ?_
      refine lv_aload_n X.1.1 X.1.2.1 dX9_count0_100 rfl (lv_at hl 4 rfl) ?_
      refine r_geti (k := 9) (j := 16) X hw rfl inX9 g_a0 rfl (by decide) (by decide) uf_X9_141 rfl dX9_count0_101 ?_
      obtain ⟨y20, ey20, hf⟩ := obd hf
      have Jy20 : ∀ (H : Heap) (locs : List Loc) (ls : Array Slot), Wd D cy A s.heap h M H locs → lv_has ls 11 [(4, .int v4), (5, .int v5), (3, .int w3), (2, .int w2), (0, .ref a0), (1, .int w1)] → W p l e ({ frames := 6, cells := 0, slots := 0, locals := 142 } : Room) s m args below meth c H locs 0 0 Q (F0 m 112 ls [.int y20]) := by
        intro H locs ls hw hl
        refine lv_istore (lv' := [(6, .int y20), (4, .int v4), (5, .int v5), (3, .int w3), (2, .int w2), (0, .ref a0), (1, .int w1)]) X.1.1 X.1.2.1 dX9_count0_112 hl (by decide) rfl (fun ls hl => ?_)
        refine lv_iload X.1.1 X.1.2.1 dX9_count0_114 (lv_at hl 0 rfl) ?_
        obtain ⟨y24, ey24, hf⟩ := obd hf
        have Jy24 : ∀ (H : Heap) (locs : List Loc) (ls : Array Slot), Wd D cy A s.heap h M H locs → lv_has ls 11 [(6, .int y20), (4, .int v4), (5, .int v5), (3, .int w3), (2, .int w2), (0, .ref a0), (1, .int w1)] → W p l e ({ frames := 6, cells := 0, slots := 0, locals := 142 } : Room) s m args below meth c H locs 0 0 Q (F0 m 135 ls [.int y24]) := by
          intro H locs ls hw hl
          refine lv_istore (lv' := [(7, .int y24), (6, .int y20), (4, .int v4), (5, .int v5), (3, .int w3), (2, .int w2), (0, .ref a0), (1, .int w1)]) X.1.1 X.1.2.1 dX9_count0_135 hl (by decide) rfl (fun ls hl => ?_)
          refine lv_iload X.1.1 X.1.2.1 dX9_count0_137 (lv_at hl 1 rfl) ?_
          obtain ⟨y28, ey28, hf⟩ := obd hf
          have Jy28 : ∀ (H : Heap) (locs : List Loc) (ls : Array Slot), Wd D cy A s.heap h M H locs → lv_has ls 11 [(7, .int y24), (6, .int y20), (4, .int v4), (5, .int v5), (3, .int w3), (2, .int w2), (0, .ref a0), (1, .int w1)] → W p l e ({ frames := 6, cells := 0, slots := 0, locals := 142 } : Room) s m args below meth c H locs 0 0 Q (F0 m 160 ls [.int y28]) := by
            intro H locs ls hw hl
            refine lv_istore (lv' := [(8, .int y28), (7, .int y24), (6, .int y20), (4, .int v4), (5, .int v5), (3, .int w3), (2, .int w2), (0, .ref a0), (1, .int w1)]) X.1.1 X.1.2.1 dX9_count0_160 hl (by decide) rfl (fun ls hl => ?_)
            refine lv_iload X.1.1 X.1.2.1 dX9_count0_162 (lv_at hl 2 rfl) ?_
            obtain ⟨y36, ey36, hf⟩ := obd hf
            have Jy36 : ∀ (H : Heap) (locs : List Loc) (ls : Array Slot), Wd D cy A s.heap h M H locs → lv_has ls 11 [(6, .int y20), (4, .int v4), (5, .int v5), (3, .int w3), (2, .int w2), (0, .ref a0), (1, .int w1)] → W p l e ({ frames := 6, cells := 0, slots := 0, locals := 142 } : Room) s m args below meth c H locs 0 0 Q (F0 m 217 ls [.int y36]) := by
              intro H locs ls hw hl
              refine lv_istore (lv' := [(9, .int y36), (6, .int y20), (4, .int v4), (5, .int v5), (3, .int w3), (2, .int w2), (0, .ref a0), (1, .int w1)]) X.1.1 X.1.2.1 dX9_count0_217 hl (by decide) rfl (fun ls hl => ?_)
              refine lv_iload X.1.1 X.1.2.1 dX9_count0_219 (lv_at hl 2 rfl) ?_
              obtain ⟨y41, ey41, hf⟩ := obd hf
              have Jy41 : ∀ (H : Heap) (locs : List Loc) (ls : Array Slot), Wd D cy A s.heap h M H locs → lv_has ls 11 [(9, .int y36), (6, .int y20), (5, .int v5), (3, .int w3), (2, .int w2), (0, .ref a0), (1, .int w1)] → W p l e ({ frames := 6, cells := 0, slots := 0, locals := 142 } : Room) s m args below meth c H locs 0 0 Q (F0 m 247 ls [.int y41]) := by
                intro H locs ls hw hl
                refine lv_istore (lv' := [(4, .int y41), (9, .int y36), (6, .int y20), (5, .int v5), (3, .int w3), (2, .int w2), (0, .ref a0), (1, .int w1)]) X.1.1 X.1.2.1 dX9_count0_247 hl (by decide) rfl (fun ls hl => ?_)
                refine lv_iload X.1.1 X.1.2.1 dX9_count0_249 (lv_at hl 0 rfl) ?_
                obtain ⟨y52, ey52, hf⟩ := obd hf
                have Jy52 : ∀ (H : Heap) (locs : List Loc) (ls : Array Slot), Wd D cy A s.heap h y52 H locs → lv_has ls 11 [(4, .int y41), (5, .int v5), (3, .int w3), (2, .int w2), (0, .ref a0), (1, .int w1)] → W p l e ({ frames := 6, cells := 0, slots := 0, locals := 142 } : Room) s m args below meth c H locs 0 0 Q (F0 m 298 ls []) := by
                  intro H locs ls hw hl
                  obtain ⟨x53, ex53, hf⟩ := olt hf
                  refine lv_iinc (v := x53) (lv' := [(5, .int x53), (4, .int y41), (3, .int w3), (2, .int w2), (0, .ref a0), (1, .int w1)]) X.1.1 X.1.2.1 dX9_count0_298 hl (k := 1) rfl (by rw [ex53]; rfl) (by decide) rfl (fun ls hl => ?_)
                  refine lv_goto (tgt := 73) X.1.1 X.1.2.1 dX9_count0_301 (by decide) ?_
                  exact ih _ _ _ _ _ _ _ hf hw (lv_sub hl [1, 0, 2, 3, 4, 5] rfl) kx
                clear hf
                have hf := ey52
                clear ey52
                refine lv_if_ne (tgt := 257) X.1.1 X.1.2.1 dX9_count0_251 (by decide) (fun c_42 => ?_) (fun c_42 => ?_)
                · skip
                  rw [if_pos c_42] at hf
                  refine lv_aload_n X.1.1 X.1.2.1 dX9_count0_257 rfl (lv_at hl 6 rfl) ?_
                  refine lv_iload_n X.1.1 X.1.2.1 dX9_count0_258 rfl (lv_at hl 7 rfl) ?_
                  refine lv_iload X.1.1 X.1.2.1 dX9_count0_259 (lv_at hl 1 rfl) ?_
                  obtain ⟨z43, ez43, hf⟩ := obd hf
                  refine r_callVI (As := [.int w1, .int y36]) (rest := []) X hw (c_X9_boundOf ez43) (cwV 2 X.1.2.2.2.2 (guV um_X9_198 ui_X9_boundOf us_X9_boundOf un_X9 uo_X9_boundOf) rfl rfl rfl (by decide +kernel) ⟨Nat.le_of_ble_eq_true rfl, Nat.le_of_ble_eq_true rfl⟩) g_a0 (by decide) rfl rfl hl.1 rfl (Nat.le_of_ble_eq_true rfl) dX9_count0_261 ⟨Nat.zero_le _, Nat.zero_le _⟩ (fun H locs hw => ?_)
                  refine lv_istore (lv' := [(10, .int z43), (4, .int y41), (9, .int y36), (6, .int y20), (5, .int v5), (3, .int w3), (2, .int w2), (0, .ref a0), (1, .int w1)]) X.1.1 X.1.2.1 dX9_count0_264 hl (by decide) rfl (fun ls hl => ?_)
                  refine lv_aload_n X.1.1 X.1.2.1 dX9_count0_266 rfl (lv_at hl 7 rfl) ?_
                  obtain ⟨q44, eq44, hf⟩ := odq hf
                  refine r_getq (k := 9) (j := 20) X hw rfl inX9 g_a0 rfl (by decide) (by decide) uf_X9_52 rfl dX9_count0_267 eq44 ?_
                  refine lv_iload X.1.1 X.1.2.1 dX9_count0_270 (lv_at hl 0 rfl) ?_
                  refine lv_dup2_11 X.1.1 X.1.2.1 dX9_count0_272 rfl rfl ?_
                  obtain ⟨g_q44, hf⟩ := ogd hf
                  obtain ⟨i_45, hf⟩ := ogd hf
                  refine r_lald X hw g_q44 i_45 dX9_count0_273 ?_
                  refine lv_iload X.1.1 X.1.2.1 dX9_count0_274 (lv_at hl 3 rfl) ?_
                  obtain ⟨y47, ey47, hf⟩ := obd hf
                  have Jy47 : ∀ (H : Heap) (locs : List Loc) (ls : Array Slot), Wd D cy A s.heap h M H locs → lv_has ls 11 [(10, .int z43), (4, .int y41), (5, .int v5), (3, .int w3), (2, .int w2), (0, .ref a0), (1, .int w1)] → W p l e ({ frames := 6, cells := 0, slots := 0, locals := 142 } : Room) s m args below meth c H locs 0 0 Q (F0 m 288 ls [.long y47, .long (zJ M q44 z43.toNatClampNeg), .int z43, .ref q44]) := by
                    intro H locs ls hw hl
                    refine lv_aload_n X.1.1 X.1.2.1 dX9_count0_288 rfl (lv_at hl 5 rfl) ?_
                    refine lv_iload_n X.1.1 X.1.2.1 dX9_count0_289 rfl (lv_at hl 6 rfl) ?_
                    refine lv_iload X.1.1 X.1.2.1 dX9_count0_290 (lv_at hl 0 rfl) ?_
                    obtain ⟨z48, ez48, hf⟩ := obd hf
                    refine r_callVL (As := [.int w1, .int z43]) (rest := [.long y47, .long (zJ M q44 z43.toNatClampNeg), .int z43, .ref q44]) X hw (c_X9_bears ez48) (cwV 2 X.1.2.2.2.2 (guV um_X9_203 ui_X9_bears us_X9_bears un_X9 uo_X9_bears) rfl rfl rfl (by decide +kernel) ⟨Nat.le_of_ble_eq_true rfl, Nat.le_of_ble_eq_true rfl⟩) g_a0 (by decide) rfl rfl hl.1 rfl (Nat.le_of_ble_eq_true rfl) dX9_count0_292 ⟨Nat.zero_le _, Nat.zero_le _⟩ (fun H locs hw => ?_)
                    obtain ⟨n_49, hf⟩ := ogd hf
                    refine lv_ldiv X.1.1 X.1.2.1 dX9_count0_295 n_49 ?_
                    refine lv_ladd X.1.1 X.1.2.1 dX9_count0_296 ?_
                    obtain ⟨i_50, hf⟩ := ogd hf
                    refine r_last X hw g_q44 i_50 dX9_count0_297 (fun H locs hw => ?_)
                    obtain ⟨M51, eM51, hf⟩ := olt hf
                    rw [← eM51] at hw
                    cases hf
                    exact Jy52 _ _ _ hw (lv_sub hl [1, 2, 3, 4, 5, 6] rfl)
                  clear hf
                  have hf := ey47
                  clear ey47
                  refine lv_if_eq (tgt := 285) X.1.1 X.1.2.1 dX9_count0_276 (by decide) (fun c_46 => ?_) (fun c_46 => ?_)
                  · skip
                    rw [if_pos c_46] at hf
                    refine lv_ldc2 (v := (720720000000 : Int64)) X.1.1 X.1.2.1 X.1.2.2.2.1 (X.1.2.2.2.2 _ uk_X9_174) dX9_count0_285 ?_
                    cases hf
                    exact Jy47 _ _ _ hw (lv_sub hl [0, 1, 4, 5, 6, 7, 8] rfl)
                  · skip
                    rw [if_neg c_46] at hf
                    refine lv_ldc2 (v := (1441440000000 : Int64)) X.1.1 X.1.2.1 X.1.2.2.2.1 (X.1.2.2.2.2 _ uk_X9_201) dX9_count0_279 ?_
                    refine lv_goto (tgt := 288) X.1.1 X.1.2.1 dX9_count0_282 (by decide) ?_
                    cases hf
                    exact Jy47 _ _ _ hw (lv_sub hl [0, 1, 4, 5, 6, 7, 8] rfl)
                · skip
                  rw [if_neg (fun z => z c_42)] at hf
                  refine lv_goto (tgt := 298) X.1.1 X.1.2.1 dX9_count0_254 (by decide) ?_
                  cases hf
                  exact Jy52 _ _ _ hw (lv_sub hl [0, 3, 4, 5, 6, 7] rfl)
              clear hf
              have hf := ey41
              clear ey41
              refine lv_if_ne (tgt := 242) X.1.1 X.1.2.1 dX9_count0_221 (by decide) (fun c_37 => ?_) (fun c_37 => ?_)
              · skip
                rw [if_pos c_37] at hf
                refine lv_iconst (v := (1 : Int32)) X.1.1 X.1.2.1 dX9_count0_242 (by decide) ?_
                refine lv_goto (tgt := 247) X.1.1 X.1.2.1 dX9_count0_243 (by decide) ?_
                cases hf
                exact Jy41 _ _ _ hw (lv_sub hl [0, 1, 3, 4, 5, 6, 7] rfl)
              · skip
                rw [if_neg (fun z => z c_37)] at hf
                refine lv_iload X.1.1 X.1.2.1 dX9_count0_224 (lv_at hl 0 rfl) ?_
                refine lv_aload_n X.1.1 X.1.2.1 dX9_count0_226 rfl (lv_at hl 6 rfl) ?_
                refine r_getq (k := 9) (j := 1) X hw rfl inX9 g_a0 rfl (by decide) (by decide) uf_X9_13 rfl dX9_count0_227 eq8 ?_
                refine lv_aload_n X.1.1 X.1.2.1 dX9_count0_230 rfl (lv_at hl 6 rfl) ?_
                refine lv_iload_n X.1.1 X.1.2.1 dX9_count0_231 rfl (lv_at hl 7 rfl) ?_
                obtain ⟨z38, ez38, hf⟩ := obd hf
                refine r_callVI (As := [.int w1]) (rest := [.ref q8, .int y36]) X hw (c_X9_base ez38) (cwV 1 X.1.2.2.2.2 (guV um_X9_170 ui_X9_base us_X9_base un_X9 uo_X9_base) rfl rfl rfl (by decide +kernel) ⟨Nat.le_of_ble_eq_true rfl, Nat.le_of_ble_eq_true rfl⟩) g_a0 (by decide) rfl rfl hl.1 rfl (Nat.le_of_ble_eq_true rfl) dX9_count0_232 ⟨Nat.zero_le _, Nat.zero_le _⟩ (fun H locs hw => ?_)
                refine lv_bipush (v := (24 : Int32)) X.1.1 X.1.2.1 dX9_count0_235 (by decide) ?_
                refine lv_iadd X.1.1 X.1.2.1 dX9_count0_237 ?_
                obtain ⟨i_39, hf⟩ := ogd hf
                refine r_iald X hw g_q8 i_39 dX9_count0_238 ?_
                refine lv_icmp_lt (tgt := 246) X.1.1 X.1.2.1 dX9_count0_239 (by decide) (fun c_40 => ?_) (fun c_40 => ?_)
                · skip
                  rw [if_pos c_40] at hf
                  refine lv_iconst (v := (0 : Int32)) X.1.1 X.1.2.1 dX9_count0_246 (by decide) ?_
                  cases hf
                  exact Jy41 _ _ _ hw (lv_sub hl [0, 1, 3, 4, 5, 6, 7] rfl)
                · skip
                  rw [if_neg c_40] at hf
                  refine lv_iconst (v := (1 : Int32)) X.1.1 X.1.2.1 dX9_count0_242 (by decide) ?_
                  refine lv_goto (tgt := 247) X.1.1 X.1.2.1 dX9_count0_243 (by decide) ?_
                  cases hf
                  exact Jy41 _ _ _ hw (lv_sub hl [0, 1, 3, 4, 5, 6, 7] rfl)
            clear hf
            have hf := ey36
            clear ey36
            refine lv_if_eq (tgt := 187) X.1.1 X.1.2.1 dX9_count0_164 (by decide) (fun c_29 => ?_) (fun c_29 => ?_)
            · skip
              rw [if_pos c_29] at hf
              refine lv_aload_n X.1.1 X.1.2.1 dX9_count0_187 rfl (lv_at hl 7 rfl) ?_
              refine lv_iload_n X.1.1 X.1.2.1 dX9_count0_188 rfl (lv_at hl 8 rfl) ?_
              refine lv_iload X.1.1 X.1.2.1 dX9_count0_189 (lv_at hl 1 rfl) ?_
              refine lv_iload X.1.1 X.1.2.1 dX9_count0_191 (lv_at hl 0 rfl) ?_
              obtain ⟨y31, ey31, hf⟩ := obd hf
              have Jy31 : ∀ (H : Heap) (locs : List Loc) (ls : Array Slot), Wd D cy A s.heap h M H locs → lv_has ls 11 [(8, .int y28), (7, .int y24), (6, .int y20), (4, .int v4), (5, .int v5), (3, .int w3), (2, .int w2), (0, .ref a0), (1, .int w1)] → W p l e ({ frames := 6, cells := 0, slots := 0, locals := 142 } : Room) s m args below meth c H locs 0 0 Q (F0 m 209 ls [.int y31, .int w1, .ref a0]) := by
                intro H locs ls hw hl
                refine lv_iload X.1.1 X.1.2.1 dX9_count0_209 (lv_at hl 1 rfl) ?_
                refine lv_iload X.1.1 X.1.2.1 dX9_count0_211 (lv_at hl 0 rfl) ?_
                refine lv_iadd X.1.1 X.1.2.1 dX9_count0_213 ?_
                obtain ⟨z32, ez32, hf⟩ := obd hf
                refine r_callVI (As := [.int w1, .int y31, .int (y24 + y28)]) (rest := []) X hw (c_X9_effect ez32) (cwV 3 X.1.2.2.2.2 (guV um_X9_194 ui_X9_effect us_X9_effect un_X9 uo_X9_effect) rfl rfl rfl (by decide +kernel) ⟨Nat.le_of_ble_eq_true rfl, Nat.le_of_ble_eq_true rfl⟩) g_a0 (by decide) rfl rfl hl.1 rfl (Nat.le_of_ble_eq_true rfl) dX9_count0_214 ⟨Nat.zero_le _, Nat.zero_le _⟩ (fun H locs hw => ?_)
                cases hf
                exact Jy36 _ _ _ hw (lv_sub hl [2, 3, 4, 5, 6, 7, 8] rfl)
              clear hf
              have hf := ey31
              clear ey31
              refine lv_icmp_le (tgt := 204) X.1.1 X.1.2.1 dX9_count0_193 (by decide) (fun c_30 => ?_) (fun c_30 => ?_)
              · skip
                rw [if_pos c_30] at hf
                refine lv_iload X.1.1 X.1.2.1 dX9_count0_204 (lv_at hl 0 rfl) ?_
                refine lv_iload X.1.1 X.1.2.1 dX9_count0_206 (lv_at hl 1 rfl) ?_
                refine lv_isub X.1.1 X.1.2.1 dX9_count0_208 ?_
                cases hf
                exact Jy31 _ _ _ hw (lv_sub hl [0, 1, 2, 3, 4, 5, 6, 7, 8] rfl)
              · skip
                rw [if_neg c_30] at hf
                refine lv_iload X.1.1 X.1.2.1 dX9_count0_196 (lv_at hl 1 rfl) ?_
                refine lv_iload X.1.1 X.1.2.1 dX9_count0_198 (lv_at hl 0 rfl) ?_
                refine lv_isub X.1.1 X.1.2.1 dX9_count0_200 ?_
                refine lv_goto (tgt := 209) X.1.1 X.1.2.1 dX9_count0_201 (by decide) ?_
                cases hf
                exact Jy31 _ _ _ hw (lv_sub hl [0, 1, 2, 3, 4, 5, 6, 7, 8] rfl)
            · skip
              rw [if_neg c_29] at hf
              refine lv_aload_n X.1.1 X.1.2.1 dX9_count0_167 rfl (lv_at hl 7 rfl) ?_
              refine lv_iload_n X.1.1 X.1.2.1 dX9_count0_168 rfl (lv_at hl 8 rfl) ?_
              refine lv_aload_n X.1.1 X.1.2.1 dX9_count0_169 rfl (lv_at hl 7 rfl) ?_
              refine lv_iload X.1.1 X.1.2.1 dX9_count0_170 (lv_at hl 4 rfl) ?_
              obtain ⟨z33, ez33, hf⟩ := obd hf
              refine r_callVI (As := [.int v5]) (rest := [.int w1, .ref a0]) X hw (c_X9_rangeOf ez33) (cwV 1 X.1.2.2.2.2 (guV um_X9_164 ui_X9_rangeOf us_X9_rangeOf un_X9 uo_X9_rangeOf) rfl rfl rfl (by decide +kernel) ⟨Nat.le_of_ble_eq_true rfl, Nat.le_of_ble_eq_true rfl⟩) g_a0 (by decide) rfl rfl hl.1 rfl (Nat.le_of_ble_eq_true rfl) dX9_count0_172 ⟨Nat.zero_le _, Nat.zero_le _⟩ (fun H locs hw => ?_)
              refine lv_aload_n X.1.1 X.1.2.1 dX9_count0_175 rfl (lv_at hl 7 rfl) ?_
              refine lv_iload X.1.1 X.1.2.1 dX9_count0_176 (lv_at hl 4 rfl) ?_
              obtain ⟨z34, ez34, hf⟩ := obd hf
              refine r_callVI (As := [.int v5]) (rest := [.int z33, .int w1, .ref a0]) X hw (c_X9_meanOf ez34) (cwV 1 X.1.2.2.2.2 (guV um_X9_167 ui_X9_meanOf us_X9_meanOf un_X9 uo_X9_meanOf) rfl rfl rfl (by decide +kernel) ⟨Nat.le_of_ble_eq_true rfl, Nat.le_of_ble_eq_true rfl⟩) g_a0 (by decide) rfl rfl hl.1 rfl (Nat.le_of_ble_eq_true rfl) dX9_count0_178 ⟨Nat.zero_le _, Nat.zero_le _⟩ (fun H locs hw => ?_)
              obtain ⟨z35, ez35, hf⟩ := obd hf
              refine r_callVI (As := [.int w1, .int z33, .int z34]) (rest := []) X hw (c_X9_effect ez35) (cwV 3 X.1.2.2.2.2 (guV um_X9_194 ui_X9_effect us_X9_effect un_X9 uo_X9_effect) rfl rfl rfl (by decide +kernel) ⟨Nat.le_of_ble_eq_true rfl, Nat.le_of_ble_eq_true rfl⟩) g_a0 (by decide) rfl rfl hl.1 rfl (Nat.le_of_ble_eq_true rfl) dX9_count0_181 ⟨Nat.zero_le _, Nat.zero_le _⟩ (fun H locs hw => ?_)
              refine lv_goto (tgt := 217) X.1.1 X.1.2.1 dX9_count0_184 (by decide) ?_
              cases hf
              exact Jy36 _ _ _ hw (lv_sub hl [2, 3, 4, 5, 6, 7, 8] rfl)
          clear hf
          have hf := ey28
          clear ey28
          refine lv_if_eq (tgt := 146) X.1.1 X.1.2.1 dX9_count0_139 (by decide) (fun c_25 => ?_) (fun c_25 => ?_)
          · skip
            rw [if_pos c_25] at hf
            refine lv_aload_n X.1.1 X.1.2.1 dX9_count0_146 rfl (lv_at hl 6 rfl) ?_
            obtain ⟨q26, eq26, hf⟩ := odq hf
            refine r_getq (k := 9) (j := 18) X hw rfl inX9 g_a0 rfl (by decide) (by decide) uf_X9_49 rfl dX9_count0_147 eq26 ?_
            refine lv_iload X.1.1 X.1.2.1 dX9_count0_150 (lv_at hl 3 rfl) ?_
            refine lv_aload_n X.1.1 X.1.2.1 dX9_count0_152 rfl (lv_at hl 6 rfl) ?_
            refine r_geti (k := 9) (j := 16) X hw rfl inX9 g_a0 rfl (by decide) (by decide) uf_X9_141 rfl dX9_count0_153 ?_
            refine lv_isub X.1.1 X.1.2.1 dX9_count0_156 ?_
            refine lv_iconst (v := (1 : Int32)) X.1.1 X.1.2.1 dX9_count0_157 (by decide) ?_
            refine lv_iadd X.1.1 X.1.2.1 dX9_count0_158 ?_
            obtain ⟨g_q26, hf⟩ := ogd hf
            obtain ⟨i_27, hf⟩ := ogd hf
            refine r_iald X hw g_q26 i_27 dX9_count0_159 ?_
            cases hf
            exact Jy28 _ _ _ hw (lv_sub hl [0, 1, 2, 3, 4, 5, 6, 7] rfl)
          · skip
            rw [if_neg c_25] at hf
            refine lv_iconst (v := (0 : Int32)) X.1.1 X.1.2.1 dX9_count0_142 (by decide) ?_
            refine lv_goto (tgt := 160) X.1.1 X.1.2.1 dX9_count0_143 (by decide) ?_
            cases hf
            exact Jy28 _ _ _ hw (lv_sub hl [0, 1, 2, 3, 4, 5, 6, 7] rfl)
        clear hf
        have hf := ey24
        clear ey24
        refine lv_if_eq (tgt := 123) X.1.1 X.1.2.1 dX9_count0_116 (by decide) (fun c_21 => ?_) (fun c_21 => ?_)
        · skip
          rw [if_pos c_21] at hf
          refine lv_aload_n X.1.1 X.1.2.1 dX9_count0_123 rfl (lv_at hl 5 rfl) ?_
          obtain ⟨q22, eq22, hf⟩ := odq hf
          refine r_getq (k := 9) (j := 18) X hw rfl inX9 g_a0 rfl (by decide) (by decide) uf_X9_49 rfl dX9_count0_124 eq22 ?_
          refine lv_iload X.1.1 X.1.2.1 dX9_count0_127 (lv_at hl 2 rfl) ?_
          refine lv_aload_n X.1.1 X.1.2.1 dX9_count0_129 rfl (lv_at hl 5 rfl) ?_
          refine r_geti (k := 9) (j := 16) X hw rfl inX9 g_a0 rfl (by decide) (by decide) uf_X9_141 rfl dX9_count0_130 ?_
          refine lv_isub X.1.1 X.1.2.1 dX9_count0_133 ?_
          obtain ⟨g_q22, hf⟩ := ogd hf
          obtain ⟨i_23, hf⟩ := ogd hf
          refine r_iald X hw g_q22 i_23 dX9_count0_134 ?_
          cases hf
          exact Jy24 _ _ _ hw (lv_sub hl [0, 1, 2, 3, 4, 5, 6] rfl)
        · skip
          rw [if_neg c_21] at hf
          refine lv_iconst (v := (0 : Int32)) X.1.1 X.1.2.1 dX9_count0_119 (by decide) ?_
          refine lv_goto (tgt := 135) X.1.1 X.1.2.1 dX9_count0_120 (by decide) ?_
          cases hf
          exact Jy24 _ _ _ hw (lv_sub hl [0, 1, 2, 3, 4, 5, 6] rfl)
      clear hf
      have hf := ey20
      clear ey20
      refine lv_icmp_ge (tgt := 111) X.1.1 X.1.2.1 dX9_count0_104 (by decide) (fun c_19 => ?_) (fun c_19 => ?_)
      · skip
        rw [if_pos c_19] at hf
        refine lv_iconst (v := (0 : Int32)) X.1.1 X.1.2.1 dX9_count0_111 (by decide) ?_
        cases hf
        exact Jy20 _ _ _ hw (lv_sub hl [0, 1, 2, 3, 4, 5] rfl)
      · skip
        rw [if_neg c_19] at hf
        refine lv_iconst (v := (1 : Int32)) X.1.1 X.1.2.1 dX9_count0_107 (by decide) ?_
        refine lv_goto (tgt := 112) X.1.1 X.1.2.1 dX9_count0_108 (by decide) ?_
        cases hf
        exact Jy20 _ _ _ hw (lv_sub hl [0, 1, 2, 3, 4, 5] rfl)
    · skip
      rw [if_neg c_18] at hf
      refine lv_iload X.1.1 X.1.2.1 dX9_count0_89 (lv_at hl 1 rfl) ?_
      refine lv_aload_n X.1.1 X.1.2.1 dX9_count0_91 rfl (lv_at hl 4 rfl) ?_
      refine r_geti (k := 9) (j := 16) X hw rfl inX9 g_a0 rfl (by decide) (by decide) uf_X9_141 rfl dX9_count0_92 ?_
      refine lv_icmp_ge (tgt := 304) X.1.1 X.1.2.1 dX9_count0_95 (by decide) (fun c_54 => ?_) (fun c_54 => ?_)
      · skip
        rw [if_pos c_54] at hf
        cases hf
        exact kx _ rfl _ _ _ hw (lv_sub hl [0, 1, 2, 3, 4, 5] rfl)
      · skip
        rw [if_neg c_54] at hf
        refine lv_iload X.1.1 X.1.2.1 dX9_count0_98 (lv_at hl 1 rfl) ?_
        refine lv_aload_n X.1.1 X.1.2.1 dX9_count0_100 rfl (lv_at hl 4 rfl) ?_
        refine r_geti (k := 9) (j := 16) X hw rfl inX9 g_a0 rfl (by decide) (by decide) uf_X9_141 rfl dX9_count0_101 ?_
        obtain ⟨y56, ey56, hf⟩ := obd hf
        have Jy56 : ∀ (H : Heap) (locs : List Loc) (ls : Array Slot), Wd D cy A s.heap h M H locs → lv_has ls 11 [(4, .int v4), (5, .int v5), (3, .int w3), (2, .int w2), (0, .ref a0), (1, .int w1)] → W p l e ({ frames := 6, cells := 0, slots := 0, locals := 142 } : Room) s m args below meth c H locs 0 0 Q (F0 m 112 ls [.int y56]) := by
          intro H locs ls hw hl
          refine lv_istore (lv' := [(6, .int y56), (4, .int v4), (5, .int v5), (3, .int w3), (2, .int w2), (0, .ref a0), (1, .int w1)]) X.1.1 X.1.2.1 dX9_count0_112 hl (by decide) rfl (fun ls hl => ?_)
          refine lv_iload X.1.1 X.1.2.1 dX9_count0_114 (lv_at hl 0 rfl) ?_
          obtain ⟨y60, ey60, hf⟩ := obd hf
          have Jy60 : ∀ (H : Heap) (locs : List Loc) (ls : Array Slot), Wd D cy A s.heap h M H locs → lv_has ls 11 [(6, .int y56), (4, .int v4), (5, .int v5), (3, .int w3), (2, .int w2), (0, .ref a0), (1, .int w1)] → W p l e ({ frames := 6, cells := 0, slots := 0, locals := 142 } : Room) s m args below meth c H locs 0 0 Q (F0 m 135 ls [.int y60]) := by
            intro H locs ls hw hl
            refine lv_istore (lv' := [(7, .int y60), (6, .int y56), (4, .int v4), (5, .int v5), (3, .int w3), (2, .int w2), (0, .ref a0), (1, .int w1)]) X.1.1 X.1.2.1 dX9_count0_135 hl (by decide) rfl (fun ls hl => ?_)
            refine lv_iload X.1.1 X.1.2.1 dX9_count0_137 (lv_at hl 1 rfl) ?_
            obtain ⟨y64, ey64, hf⟩ := obd hf
            have Jy64 : ∀ (H : Heap) (locs : List Loc) (ls : Array Slot), Wd D cy A s.heap h M H locs → lv_has ls 11 [(7, .int y60), (6, .int y56), (4, .int v4), (5, .int v5), (3, .int w3), (2, .int w2), (0, .ref a0), (1, .int w1)] → W p l e ({ frames := 6, cells := 0, slots := 0, locals := 142 } : Room) s m args below meth c H locs 0 0 Q (F0 m 160 ls [.int y64]) := by
              intro H locs ls hw hl
              refine lv_istore (lv' := [(8, .int y64), (7, .int y60), (6, .int y56), (4, .int v4), (5, .int v5), (3, .int w3), (2, .int w2), (0, .ref a0), (1, .int w1)]) X.1.1 X.1.2.1 dX9_count0_160 hl (by decide) rfl (fun ls hl => ?_)
              refine lv_iload X.1.1 X.1.2.1 dX9_count0_162 (lv_at hl 2 rfl) ?_
              obtain ⟨y72, ey72, hf⟩ := obd hf
              have Jy72 : ∀ (H : Heap) (locs : List Loc) (ls : Array Slot), Wd D cy A s.heap h M H locs → lv_has ls 11 [(6, .int y56), (4, .int v4), (5, .int v5), (3, .int w3), (2, .int w2), (0, .ref a0), (1, .int w1)] → W p l e ({ frames := 6, cells := 0, slots := 0, locals := 142 } : Room) s m args below meth c H locs 0 0 Q (F0 m 217 ls [.int y72]) := by
                intro H locs ls hw hl
                refine lv_istore (lv' := [(9, .int y72), (6, .int y56), (4, .int v4), (5, .int v5), (3, .int w3), (2, .int w2), (0, .ref a0), (1, .int w1)]) X.1.1 X.1.2.1 dX9_count0_217 hl (by decide) rfl (fun ls hl => ?_)
                refine lv_iload X.1.1 X.1.2.1 dX9_count0_219 (lv_at hl 2 rfl) ?_
                obtain ⟨y77, ey77, hf⟩ := obd hf
                have Jy77 : ∀ (H : Heap) (locs : List Loc) (ls : Array Slot), Wd D cy A s.heap h M H locs → lv_has ls 11 [(9, .int y72), (6, .int y56), (5, .int v5), (3, .int w3), (2, .int w2), (0, .ref a0), (1, .int w1)] → W p l e ({ frames := 6, cells := 0, slots := 0, locals := 142 } : Room) s m args below meth c H locs 0 0 Q (F0 m 247 ls [.int y77]) := by
                  intro H locs ls hw hl
                  refine lv_istore (lv' := [(4, .int y77), (9, .int y72), (6, .int y56), (5, .int v5), (3, .int w3), (2, .int w2), (0, .ref a0), (1, .int w1)]) X.1.1 X.1.2.1 dX9_count0_247 hl (by decide) rfl (fun ls hl => ?_)
                  refine lv_iload X.1.1 X.1.2.1 dX9_count0_249 (lv_at hl 0 rfl) ?_
                  obtain ⟨y88, ey88, hf⟩ := obd hf
                  have Jy88 : ∀ (H : Heap) (locs : List Loc) (ls : Array Slot), Wd D cy A s.heap h y88 H locs → lv_has ls 11 [(4, .int y77), (5, .int v5), (3, .int w3), (2, .int w2), (0, .ref a0), (1, .int w1)] → W p l e ({ frames := 6, cells := 0, slots := 0, locals := 142 } : Room) s m args below meth c H locs 0 0 Q (F0 m 298 ls []) := by
                    intro H locs ls hw hl
                    obtain ⟨x89, ex89, hf⟩ := olt hf
                    refine lv_iinc (v := x89) (lv' := [(5, .int x89), (4, .int y77), (3, .int w3), (2, .int w2), (0, .ref a0), (1, .int w1)]) X.1.1 X.1.2.1 dX9_count0_298 hl (k := 1) rfl (by rw [ex89]; rfl) (by decide) rfl (fun ls hl => ?_)
                    refine lv_goto (tgt := 73) X.1.1 X.1.2.1 dX9_count0_301 (by decide) ?_
                    exact ih _ _ _ _ _ _ _ hf hw (lv_sub hl [1, 0, 2, 3, 4, 5] rfl) kx
                  clear hf
                  have hf := ey88
                  clear ey88
                  refine lv_if_ne (tgt := 257) X.1.1 X.1.2.1 dX9_count0_251 (by decide) (fun c_78 => ?_) (fun c_78 => ?_)
                  · skip
                    rw [if_pos c_78] at hf
                    refine lv_aload_n X.1.1 X.1.2.1 dX9_count0_257 rfl (lv_at hl 6 rfl) ?_
                    refine lv_iload_n X.1.1 X.1.2.1 dX9_count0_258 rfl (lv_at hl 7 rfl) ?_
                    refine lv_iload X.1.1 X.1.2.1 dX9_count0_259 (lv_at hl 1 rfl) ?_
                    obtain ⟨z79, ez79, hf⟩ := obd hf
                    refine r_callVI (As := [.int w1, .int y72]) (rest := []) X hw (c_X9_boundOf ez79) (cwV 2 X.1.2.2.2.2 (guV um_X9_198 ui_X9_boundOf us_X9_boundOf un_X9 uo_X9_boundOf) rfl rfl rfl (by decide +kernel) ⟨Nat.le_of_ble_eq_true rfl, Nat.le_of_ble_eq_true rfl⟩) g_a0 (by decide) rfl rfl hl.1 rfl (Nat.le_of_ble_eq_true rfl) dX9_count0_261 ⟨Nat.zero_le _, Nat.zero_le _⟩ (fun H locs hw => ?_)
                    refine lv_istore (lv' := [(10, .int z79), (4, .int y77), (9, .int y72), (6, .int y56), (5, .int v5), (3, .int w3), (2, .int w2), (0, .ref a0), (1, .int w1)]) X.1.1 X.1.2.1 dX9_count0_264 hl (by decide) rfl (fun ls hl => ?_)
                    refine lv_aload_n X.1.1 X.1.2.1 dX9_count0_266 rfl (lv_at hl 7 rfl) ?_
                    obtain ⟨q80, eq80, hf⟩ := odq hf
                    refine r_getq (k := 9) (j := 20) X hw rfl inX9 g_a0 rfl (by decide) (by decide) uf_X9_52 rfl dX9_count0_267 eq80 ?_
                    refine lv_iload X.1.1 X.1.2.1 dX9_count0_270 (lv_at hl 0 rfl) ?_
                    refine lv_dup2_11 X.1.1 X.1.2.1 dX9_count0_272 rfl rfl ?_
                    obtain ⟨g_q80, hf⟩ := ogd hf
                    obtain ⟨i_81, hf⟩ := ogd hf
                    refine r_lald X hw g_q80 i_81 dX9_count0_273 ?_
                    refine lv_iload X.1.1 X.1.2.1 dX9_count0_274 (lv_at hl 3 rfl) ?_
                    obtain ⟨y83, ey83, hf⟩ := obd hf
                    have Jy83 : ∀ (H : Heap) (locs : List Loc) (ls : Array Slot), Wd D cy A s.heap h M H locs → lv_has ls 11 [(10, .int z79), (4, .int y77), (5, .int v5), (3, .int w3), (2, .int w2), (0, .ref a0), (1, .int w1)] → W p l e ({ frames := 6, cells := 0, slots := 0, locals := 142 } : Room) s m args below meth c H locs 0 0 Q (F0 m 288 ls [.long y83, .long (zJ M q80 z79.toNatClampNeg), .int z79, .ref q80]) := by
                      intro H locs ls hw hl
                      refine lv_aload_n X.1.1 X.1.2.1 dX9_count0_288 rfl (lv_at hl 5 rfl) ?_
                      refine lv_iload_n X.1.1 X.1.2.1 dX9_count0_289 rfl (lv_at hl 6 rfl) ?_
                      refine lv_iload X.1.1 X.1.2.1 dX9_count0_290 (lv_at hl 0 rfl) ?_
                      obtain ⟨z84, ez84, hf⟩ := obd hf
                      refine r_callVL (As := [.int w1, .int z79]) (rest := [.long y83, .long (zJ M q80 z79.toNatClampNeg), .int z79, .ref q80]) X hw (c_X9_bears ez84) (cwV 2 X.1.2.2.2.2 (guV um_X9_203 ui_X9_bears us_X9_bears un_X9 uo_X9_bears) rfl rfl rfl (by decide +kernel) ⟨Nat.le_of_ble_eq_true rfl, Nat.le_of_ble_eq_true rfl⟩) g_a0 (by decide) rfl rfl hl.1 rfl (Nat.le_of_ble_eq_true rfl) dX9_count0_292 ⟨Nat.zero_le _, Nat.zero_le _⟩ (fun H locs hw => ?_)
                      obtain ⟨n_85, hf⟩ := ogd hf
                      refine lv_ldiv X.1.1 X.1.2.1 dX9_count0_295 n_85 ?_
                      refine lv_ladd X.1.1 X.1.2.1 dX9_count0_296 ?_
                      obtain ⟨i_86, hf⟩ := ogd hf
                      refine r_last X hw g_q80 i_86 dX9_count0_297 (fun H locs hw => ?_)
                      obtain ⟨M87, eM87, hf⟩ := olt hf
                      rw [← eM87] at hw
                      cases hf
                      exact Jy88 _ _ _ hw (lv_sub hl [1, 2, 3, 4, 5, 6] rfl)
                    clear hf
                    have hf := ey83
                    clear ey83
                    refine lv_if_eq (tgt := 285) X.1.1 X.1.2.1 dX9_count0_276 (by decide) (fun c_82 => ?_) (fun c_82 => ?_)
                    · skip
                      rw [if_pos c_82] at hf
                      refine lv_ldc2 (v := (720720000000 : Int64)) X.1.1 X.1.2.1 X.1.2.2.2.1 (X.1.2.2.2.2 _ uk_X9_174) dX9_count0_285 ?_
                      cases hf
                      exact Jy83 _ _ _ hw (lv_sub hl [0, 1, 4, 5, 6, 7, 8] rfl)
                    · skip
                      rw [if_neg c_82] at hf
                      refine lv_ldc2 (v := (1441440000000 : Int64)) X.1.1 X.1.2.1 X.1.2.2.2.1 (X.1.2.2.2.2 _ uk_X9_201) dX9_count0_279 ?_
                      refine lv_goto (tgt := 288) X.1.1 X.1.2.1 dX9_count0_282 (by decide) ?_
                      cases hf
                      exact Jy83 _ _ _ hw (lv_sub hl [0, 1, 4, 5, 6, 7, 8] rfl)
                  · skip
                    rw [if_neg (fun z => z c_78)] at hf
                    refine lv_goto (tgt := 298) X.1.1 X.1.2.1 dX9_count0_254 (by decide) ?_
                    cases hf
                    exact Jy88 _ _ _ hw (lv_sub hl [0, 3, 4, 5, 6, 7] rfl)
                clear hf
                have hf := ey77
                clear ey77
                refine lv_if_ne (tgt := 242) X.1.1 X.1.2.1 dX9_count0_221 (by decide) (fun c_73 => ?_) (fun c_73 => ?_)
                · skip
                  rw [if_pos c_73] at hf
                  refine lv_iconst (v := (1 : Int32)) X.1.1 X.1.2.1 dX9_count0_242 (by decide) ?_
                  refine lv_goto (tgt := 247) X.1.1 X.1.2.1 dX9_count0_243 (by decide) ?_
                  cases hf
                  exact Jy77 _ _ _ hw (lv_sub hl [0, 1, 3, 4, 5, 6, 7] rfl)
                · skip
                  rw [if_neg (fun z => z c_73)] at hf
                  refine lv_iload X.1.1 X.1.2.1 dX9_count0_224 (lv_at hl 0 rfl) ?_
                  refine lv_aload_n X.1.1 X.1.2.1 dX9_count0_226 rfl (lv_at hl 6 rfl) ?_
                  refine r_getq (k := 9) (j := 1) X hw rfl inX9 g_a0 rfl (by decide) (by decide) uf_X9_13 rfl dX9_count0_227 eq8 ?_
                  refine lv_aload_n X.1.1 X.1.2.1 dX9_count0_230 rfl (lv_at hl 6 rfl) ?_
                  refine lv_iload_n X.1.1 X.1.2.1 dX9_count0_231 rfl (lv_at hl 7 rfl) ?_
                  obtain ⟨z74, ez74, hf⟩ := obd hf
                  refine r_callVI (As := [.int w1]) (rest := [.ref q8, .int y72]) X hw (c_X9_base ez74) (cwV 1 X.1.2.2.2.2 (guV um_X9_170 ui_X9_base us_X9_base un_X9 uo_X9_base) rfl rfl rfl (by decide +kernel) ⟨Nat.le_of_ble_eq_true rfl, Nat.le_of_ble_eq_true rfl⟩) g_a0 (by decide) rfl rfl hl.1 rfl (Nat.le_of_ble_eq_true rfl) dX9_count0_232 ⟨Nat.zero_le _, Nat.zero_le _⟩ (fun H locs hw => ?_)
                  refine lv_bipush (v := (24 : Int32)) X.1.1 X.1.2.1 dX9_count0_235 (by decide) ?_
                  refine lv_iadd X.1.1 X.1.2.1 dX9_count0_237 ?_
                  obtain ⟨i_75, hf⟩ := ogd hf
                  refine r_iald X hw g_q8 i_75 dX9_count0_238 ?_
                  refine lv_icmp_lt (tgt := 246) X.1.1 X.1.2.1 dX9_count0_239 (by decide) (fun c_76 => ?_) (fun c_76 => ?_)
                  · skip
                    rw [if_pos c_76] at hf
                    refine lv_iconst (v := (0 : Int32)) X.1.1 X.1.2.1 dX9_count0_246 (by decide) ?_
                    cases hf
                    exact Jy77 _ _ _ hw (lv_sub hl [0, 1, 3, 4, 5, 6, 7] rfl)
                  · skip
                    rw [if_neg c_76] at hf
                    refine lv_iconst (v := (1 : Int32)) X.1.1 X.1.2.1 dX9_count0_242 (by decide) ?_
                    refine lv_goto (tgt := 247) X.1.1 X.1.2.1 dX9_count0_243 (by decide) ?_
                    cases hf
                    exact Jy77 _ _ _ hw (lv_sub hl [0, 1, 3, 4, 5, 6, 7] rfl)
              clear hf
              have hf := ey72
              clear ey72
              refine lv_if_eq (tgt := 187) X.1.1 X.1.2.1 dX9_count0_164 (by decide) (fun c_65 => ?_) (fun c_65 => ?_)
              · skip
                rw [if_pos c_65] at hf
                refine lv_aload_n X.1.1 X.1.2.1 dX9_count0_187 rfl (lv_at hl 7 rfl) ?_
                refine lv_iload_n X.1.1 X.1.2.1 dX9_count0_188 rfl (lv_at hl 8 rfl) ?_
                refine lv_iload X.1.1 X.1.2.1 dX9_count0_189 (lv_at hl 1 rfl) ?_
                refine lv_iload X.1.1 X.1.2.1 dX9_count0_191 (lv_at hl 0 rfl) ?_
                obtain ⟨y67, ey67, hf⟩ := obd hf
                have Jy67 : ∀ (H : Heap) (locs : List Loc) (ls : Array Slot), Wd D cy A s.heap h M H locs → lv_has ls 11 [(8, .int y64), (7, .int y60), (6, .int y56), (4, .int v4), (5, .int v5), (3, .int w3), (2, .int w2), (0, .ref a0), (1, .int w1)] → W p l e ({ frames := 6, cells := 0, slots := 0, locals := 142 } : Room) s m args below meth c H locs 0 0 Q (F0 m 209 ls [.int y67, .int w1, .ref a0]) := by
                  intro H locs ls hw hl
                  refine lv_iload X.1.1 X.1.2.1 dX9_count0_209 (lv_at hl 1 rfl) ?_
                  refine lv_iload X.1.1 X.1.2.1 dX9_count0_211 (lv_at hl 0 rfl) ?_
                  refine lv_iadd X.1.1 X.1.2.1 dX9_count0_213 ?_
                  obtain ⟨z68, ez68, hf⟩ := obd hf
                  refine r_callVI (As := [.int w1, .int y67, .int (y60 + y64)]) (rest := []) X hw (c_X9_effect ez68) (cwV 3 X.1.2.2.2.2 (guV um_X9_194 ui_X9_effect us_X9_effect un_X9 uo_X9_effect) rfl rfl rfl (by decide +kernel) ⟨Nat.le_of_ble_eq_true rfl, Nat.le_of_ble_eq_true rfl⟩) g_a0 (by decide) rfl rfl hl.1 rfl (Nat.le_of_ble_eq_true rfl) dX9_count0_214 ⟨Nat.zero_le _, Nat.zero_le _⟩ (fun H locs hw => ?_)
                  cases hf
                  exact Jy72 _ _ _ hw (lv_sub hl [2, 3, 4, 5, 6, 7, 8] rfl)
                clear hf
                have hf := ey67
                clear ey67
                refine lv_icmp_le (tgt := 204) X.1.1 X.1.2.1 dX9_count0_193 (by decide) (fun c_66 => ?_) (fun c_66 => ?_)
                · skip
                  rw [if_pos c_66] at hf
                  refine lv_iload X.1.1 X.1.2.1 dX9_count0_204 (lv_at hl 0 rfl) ?_
                  refine lv_iload X.1.1 X.1.2.1 dX9_count0_206 (lv_at hl 1 rfl) ?_
                  refine lv_isub X.1.1 X.1.2.1 dX9_count0_208 ?_
                  cases hf
                  exact Jy67 _ _ _ hw (lv_sub hl [0, 1, 2, 3, 4, 5, 6, 7, 8] rfl)
                · skip
                  rw [if_neg c_66] at hf
                  refine lv_iload X.1.1 X.1.2.1 dX9_count0_196 (lv_at hl 1 rfl) ?_
                  refine lv_iload X.1.1 X.1.2.1 dX9_count0_198 (lv_at hl 0 rfl) ?_
                  refine lv_isub X.1.1 X.1.2.1 dX9_count0_200 ?_
                  refine lv_goto (tgt := 209) X.1.1 X.1.2.1 dX9_count0_201 (by decide) ?_
                  cases hf
                  exact Jy67 _ _ _ hw (lv_sub hl [0, 1, 2, 3, 4, 5, 6, 7, 8] rfl)
              · skip
                rw [if_neg c_65] at hf
                refine lv_aload_n X.1.1 X.1.2.1 dX9_count0_167 rfl (lv_at hl 7 rfl) ?_
                refine lv_iload_n X.1.1 X.1.2.1 dX9_count0_168 rfl (lv_at hl 8 rfl) ?_
                refine lv_aload_n X.1.1 X.1.2.1 dX9_count0_169 rfl (lv_at hl 7 rfl) ?_
                refine lv_iload X.1.1 X.1.2.1 dX9_count0_170 (lv_at hl 4 rfl) ?_
                obtain ⟨z69, ez69, hf⟩ := obd hf
                refine r_callVI (As := [.int v5]) (rest := [.int w1, .ref a0]) X hw (c_X9_rangeOf ez69) (cwV 1 X.1.2.2.2.2 (guV um_X9_164 ui_X9_rangeOf us_X9_rangeOf un_X9 uo_X9_rangeOf) rfl rfl rfl (by decide +kernel) ⟨Nat.le_of_ble_eq_true rfl, Nat.le_of_ble_eq_true rfl⟩) g_a0 (by decide) rfl rfl hl.1 rfl (Nat.le_of_ble_eq_true rfl) dX9_count0_172 ⟨Nat.zero_le _, Nat.zero_le _⟩ (fun H locs hw => ?_)
                refine lv_aload_n X.1.1 X.1.2.1 dX9_count0_175 rfl (lv_at hl 7 rfl) ?_
                refine lv_iload X.1.1 X.1.2.1 dX9_count0_176 (lv_at hl 4 rfl) ?_
                obtain ⟨z70, ez70, hf⟩ := obd hf
                refine r_callVI (As := [.int v5]) (rest := [.int z69, .int w1, .ref a0]) X hw (c_X9_meanOf ez70) (cwV 1 X.1.2.2.2.2 (guV um_X9_167 ui_X9_meanOf us_X9_meanOf un_X9 uo_X9_meanOf) rfl rfl rfl (by decide +kernel) ⟨Nat.le_of_ble_eq_true rfl, Nat.le_of_ble_eq_true rfl⟩) g_a0 (by decide) rfl rfl hl.1 rfl (Nat.le_of_ble_eq_true rfl) dX9_count0_178 ⟨Nat.zero_le _, Nat.zero_le _⟩ (fun H locs hw => ?_)
                obtain ⟨z71, ez71, hf⟩ := obd hf
                refine r_callVI (As := [.int w1, .int z69, .int z70]) (rest := []) X hw (c_X9_effect ez71) (cwV 3 X.1.2.2.2.2 (guV um_X9_194 ui_X9_effect us_X9_effect un_X9 uo_X9_effect) rfl rfl rfl (by decide +kernel) ⟨Nat.le_of_ble_eq_true rfl, Nat.le_of_ble_eq_true rfl⟩) g_a0 (by decide) rfl rfl hl.1 rfl (Nat.le_of_ble_eq_true rfl) dX9_count0_181 ⟨Nat.zero_le _, Nat.zero_le _⟩ (fun H locs hw => ?_)
                refine lv_goto (tgt := 217) X.1.1 X.1.2.1 dX9_count0_184 (by decide) ?_
                cases hf
                exact Jy72 _ _ _ hw (lv_sub hl [2, 3, 4, 5, 6, 7, 8] rfl)
            clear hf
            have hf := ey64
            clear ey64
            refine lv_if_eq (tgt := 146) X.1.1 X.1.2.1 dX9_count0_139 (by decide) (fun c_61 => ?_) (fun c_61 => ?_)
            · skip
              rw [if_pos c_61] at hf
              refine lv_aload_n X.1.1 X.1.2.1 dX9_count0_146 rfl (lv_at hl 6 rfl) ?_
              obtain ⟨q62, eq62, hf⟩ := odq hf
              refine r_getq (k := 9) (j := 18) X hw rfl inX9 g_a0 rfl (by decide) (by decide) uf_X9_49 rfl dX9_count0_147 eq62 ?_
              refine lv_iload X.1.1 X.1.2.1 dX9_count0_150 (lv_at hl 3 rfl) ?_
              refine lv_aload_n X.1.1 X.1.2.1 dX9_count0_152 rfl (lv_at hl 6 rfl) ?_
              refine r_geti (k := 9) (j := 16) X hw rfl inX9 g_a0 rfl (by decide) (by decide) uf_X9_141 rfl dX9_count0_153 ?_
              refine lv_isub X.1.1 X.1.2.1 dX9_count0_156 ?_
              refine lv_iconst (v := (1 : Int32)) X.1.1 X.1.2.1 dX9_count0_157 (by decide) ?_
              refine lv_iadd X.1.1 X.1.2.1 dX9_count0_158 ?_
              obtain ⟨g_q62, hf⟩ := ogd hf
              obtain ⟨i_63, hf⟩ := ogd hf
              refine r_iald X hw g_q62 i_63 dX9_count0_159 ?_
              cases hf
              exact Jy64 _ _ _ hw (lv_sub hl [0, 1, 2, 3, 4, 5, 6, 7] rfl)
            · skip
              rw [if_neg c_61] at hf
              refine lv_iconst (v := (0 : Int32)) X.1.1 X.1.2.1 dX9_count0_142 (by decide) ?_
              refine lv_goto (tgt := 160) X.1.1 X.1.2.1 dX9_count0_143 (by decide) ?_
              cases hf
              exact Jy64 _ _ _ hw (lv_sub hl [0, 1, 2, 3, 4, 5, 6, 7] rfl)
          clear hf
          have hf := ey60
          clear ey60
          refine lv_if_eq (tgt := 123) X.1.1 X.1.2.1 dX9_count0_116 (by decide) (fun c_57 => ?_) (fun c_57 => ?_)
          · skip
            rw [if_pos c_57] at hf
            refine lv_aload_n X.1.1 X.1.2.1 dX9_count0_123 rfl (lv_at hl 5 rfl) ?_
            obtain ⟨q58, eq58, hf⟩ := odq hf
            refine r_getq (k := 9) (j := 18) X hw rfl inX9 g_a0 rfl (by decide) (by decide) uf_X9_49 rfl dX9_count0_124 eq58 ?_
            refine lv_iload X.1.1 X.1.2.1 dX9_count0_127 (lv_at hl 2 rfl) ?_
            refine lv_aload_n X.1.1 X.1.2.1 dX9_count0_129 rfl (lv_at hl 5 rfl) ?_
            refine r_geti (k := 9) (j := 16) X hw rfl inX9 g_a0 rfl (by decide) (by decide) uf_X9_141 rfl dX9_count0_130 ?_
            refine lv_isub X.1.1 X.1.2.1 dX9_count0_133 ?_
            obtain ⟨g_q58, hf⟩ := ogd hf
            obtain ⟨i_59, hf⟩ := ogd hf
            refine r_iald X hw g_q58 i_59 dX9_count0_134 ?_
            cases hf
            exact Jy60 _ _ _ hw (lv_sub hl [0, 1, 2, 3, 4, 5, 6] rfl)
          · skip
            rw [if_neg c_57] at hf
            refine lv_iconst (v := (0 : Int32)) X.1.1 X.1.2.1 dX9_count0_119 (by decide) ?_
            refine lv_goto (tgt := 135) X.1.1 X.1.2.1 dX9_count0_120 (by decide) ?_
            cases hf
            exact Jy60 _ _ _ hw (lv_sub hl [0, 1, 2, 3, 4, 5, 6] rfl)
        clear hf
        have hf := ey56
        clear ey56
        refine lv_icmp_ge (tgt := 111) X.1.1 X.1.2.1 dX9_count0_104 (by decide) (fun c_55 => ?_) (fun c_55 => ?_)
        · skip
          rw [if_pos c_55] at hf
          refine lv_iconst (v := (0 : Int32)) X.1.1 X.1.2.1 dX9_count0_111 (by decide) ?_
          cases hf
          exact Jy56 _ _ _ hw (lv_sub hl [0, 1, 2, 3, 4, 5] rfl)
        · skip
          rw [if_neg c_55] at hf
          refine lv_iconst (v := (1 : Int32)) X.1.1 X.1.2.1 dX9_count0_107 (by decide) ?_
          refine lv_goto (tgt := 112) X.1.1 X.1.2.1 dX9_count0_108 (by decide) ?_
          cases hf
          exact Jy56 _ _ _ hw (lv_sub hl [0, 1, 2, 3, 4, 5] rfl)
def lp_X9_count0_343 (h : Hs) (w6 : Int64) (w5 : Int32) (w2 : Int32) (a0 : Nat) : Nat → Int32 → Mm → Option (Int32 × Mm)
  | 0, _, _ => none
  | n + 1, v8, M =>
    if w5 ≤ v8 then
      some (v8, M)
    else
      (f_X9_at h a0 w2 v8 M).bind fun z99 =>
      Option.bind (
        if ¬ z99 = (2000000 : Int32) then
          some (0 : Int64)
        else
          some w6
        ) fun y101 =>
      lt_ (sJ M a0 21 ((zJ M a0 21) + y101)) fun M102 =>
      lt_ (v8 + (1 : Int32)) fun x103 =>
      lp_X9_count0_343 h w6 w5 w2 a0 n x103 M102
set_option maxHeartbeats 4000000 in
set_option maxRecDepth 100000 in
theorem wlp_X9_count0_343 {l : Launch} {D : va_G} {cy : Nat → ClassId} {h : Hs} {w6 : Int64} {w5 : Int32} {w2 : Int32} {a0 : Nat} {p : Program} {e : Env} {s : State} {m : MethodId} {args : Array Value} {below : List Frame} {meth : Method} {c : Code} {A : Nat → Prop} (X : Cx p s m args c cX9_count0 11 gtbl RX9 D cy A) {Q : State → Prop} (g_a0 : ok h a0 9) : ∀ (n : Nat) (v8 : Int32) (M : Mm) (z : (Int32 × Mm)) (H : Heap) (locs : List Loc) (ls : Array Slot), lp_X9_count0_343 h w6 w5 w2 a0 n v8 M = some z → Wd D cy A s.heap h M H locs → lv_has ls 11 [(8, .int v8), (6, .long w6), (5, .int w5), (2, .int w2), (0, .ref a0)] → (∀ x : (Int32 × Mm), z = x → ∀ (H : Heap) (locs : List Loc) (ls : Array Slot), Wd D cy A s.heap h x.2 H locs → lv_has ls 11 [(8, .int x.1), (6, .long w6), (5, .int w5), (2, .int w2), (0, .ref a0)] → W p l e ({ frames := 6, cells := 0, slots := 0, locals := 142 } : Room) s m args below meth c H locs 0 0 Q (F0 m 383 ls [])) → W p l e ({ frames := 6, cells := 0, slots := 0, locals := 142 } : Room) s m args below meth c H locs 0 0 Q (F0 m 343 ls []) := by
  intro n
  induction n with
  | zero => intro v8 M z H locs ls hf hw hl kx; exact absurd hf (by intro q; cases q)
  | succ n ih =>
    intro v8 M z H locs ls hf hw hl kx
    unfold lp_X9_count0_343 at hf
    refine lv_iload X.1.1 X.1.2.1 dX9_count0_343 (lv_at hl 0 rfl) ?_
    refine lv_iload X.1.1 X.1.2.1 dX9_count0_345 (lv_at hl 2 rfl) ?_
    refine lv_icmp_ge (tgt := 383) X.1.1 X.1.2.1 dX9_count0_347 (by decide) (fun c_98 => ?_) (fun c_98 => ?_)
    · skip
      rw [if_pos c_98] at hf
      cases hf
      exact kx _ rfl _ _ _ hw (lv_sub hl [0, 1, 2, 3, 4] rfl)
    · skip
      rw [if_neg c_98] at hf
      refine lv_aload_n X.1.1 X.1.2.1 dX9_count0_350 rfl (lv_at hl 4 rfl) ?_
      refine lv_dup X.1.1 X.1.2.1 dX9_count0_351 rfl ?_
      refine r_getl (k := 9) (j := 21) X hw rfl inX9 g_a0 rfl (by decide) (by decide) uf_X9_190 rfl dX9_count0_352 ?_
      refine lv_aload_n X.1.1 X.1.2.1 dX9_count0_355 rfl (lv_at hl 4 rfl) ?_
      refine lv_iload_n X.1.1 X.1.2.1 dX9_count0_356 rfl (lv_at hl 3 rfl) ?_
      refine lv_iload X.1.1 X.1.2.1 dX9_count0_357 (lv_at hl 0 rfl) ?_
      obtain ⟨z99, ez99, hf⟩ := obd hf
      refine r_callVI (As := [.int w2, .int v8]) (rest := [.long (zJ M a0 21), .ref a0]) X hw (c_X9_at ez99) (cwV 2 X.1.2.2.2.2 (guV um_X9_127 ui_X9_at us_X9_at un_X9 uo_X9_at) rfl rfl rfl (by decide +kernel) ⟨Nat.le_of_ble_eq_true rfl, Nat.le_of_ble_eq_true rfl⟩) g_a0 (by decide) rfl rfl hl.1 rfl (Nat.le_of_ble_eq_true rfl) dX9_count0_359 ⟨Nat.zero_le _, Nat.zero_le _⟩ (fun H locs hw => ?_)
      refine lv_ldc (v := (2000000 : Int32)) X.1.1 X.1.2.1 X.1.2.2.2.1 (X.1.2.2.2.2 _ uc_X9_86) dX9_count0_362 ?_
      obtain ⟨y101, ey101, hf⟩ := obd hf
      have Jy101 : ∀ (H : Heap) (locs : List Loc) (ls : Array Slot), Wd D cy A s.heap h M H locs → lv_has ls 11 [(8, .int v8), (6, .long w6), (5, .int w5), (2, .int w2), (0, .ref a0)] → W p l e ({ frames := 6, cells := 0, slots := 0, locals := 142 } : Room) s m args below meth c H locs 0 0 Q (F0 m 373 ls [.long y101, .long (zJ M a0 21), .ref a0]) := by
        intro H locs ls hw hl
        refine lv_ladd X.1.1 X.1.2.1 dX9_count0_373 ?_
        refine r_putl (k := 9) (j := 21) X hw rfl inX9 tyX9_ok nmX9 g_a0 rfl (by decide) (by decide) uf_X9_190 rfl rfl rfl rfl dX9_count0_374 (fun H locs hw => ?_)
        obtain ⟨M102, eM102, hf⟩ := olt hf
        rw [← eM102] at hw
        obtain ⟨x103, ex103, hf⟩ := olt hf
        refine lv_iinc (v := x103) (lv' := [(8, .int x103), (6, .long w6), (5, .int w5), (2, .int w2), (0, .ref a0)]) X.1.1 X.1.2.1 dX9_count0_377 hl (k := 0) rfl (by rw [ex103]; rfl) (by decide) rfl (fun ls hl => ?_)
        refine lv_goto (tgt := 343) X.1.1 X.1.2.1 dX9_count0_380 (by decide) ?_
        exact ih _ _ _ _ _ _ hf hw (lv_sub hl [0, 1, 2, 3, 4] rfl) kx
      clear hf
      have hf := ey101
      clear ey101
      refine lv_icmp_ne (tgt := 372) X.1.1 X.1.2.1 dX9_count0_364 (by decide) (fun c_100 => ?_) (fun c_100 => ?_)
      · skip
        rw [if_pos c_100] at hf
        refine lv_lconst (v := (0 : Int64)) X.1.1 X.1.2.1 dX9_count0_372 (by decide) ?_
        cases hf
        exact Jy101 _ _ _ hw (lv_sub hl [0, 1, 2, 3, 4] rfl)
      · skip
        rw [if_neg (fun z => z c_100)] at hf
        refine lv_lload X.1.1 X.1.2.1 dX9_count0_367 (lv_at hl 1 rfl) ?_
        refine lv_goto (tgt := 373) X.1.1 X.1.2.1 dX9_count0_369 (by decide) ?_
        cases hf
        exact Jy101 _ _ _ hw (lv_sub hl [0, 1, 2, 3, 4] rfl)
def f_X9_count0 (h : Hs) (a0 : Nat) (p1 : Int32) (M : Mm) : Option Mm :=
  (lp_X9_count0_2 h p1 a0 fuel (0 : Int32) M).bind fun z6 =>
  gd (ok h a0 9) <|
  lt_ (sJ z6.2 a0 21 (0 : Int64)) fun M7 =>
  dq (zR h a0 1) fun q8 =>
  (f_X9_base h a0 p1 M7).bind fun z9 =>
  gd (ok h q8 11) <|
  gd (inb (z9 + (0 : Int32)) (zN h q8)) <|
  lt_ (zI M7 q8 (z9 + (0 : Int32)).toNatClampNeg) fun x11 =>
  (f_X9_isGauge h a0 x11 M7).bind fun z12 =>
  if ¬ z12 = 0 then
    (f_X9_base h a0 p1 M7).bind fun z14 =>
    gd (inb (z14 + (1 : Int32)) (zN h q8)) <|
    lt_ (zI M7 q8 (z14 + (1 : Int32)).toNatClampNeg) fun x16 =>
    (f_X9_look h a0 x11 x16 M7).bind fun z17 =>
    (lp_X9_count0_73 h x16 x11 p1 a0 q8 fuel (0 : Int32) (0 : Int32) z17).bind fun z90 =>
    (f_X9_spans h a0 x11 z90.2.2).bind fun z91 =>
    (f_X9_base h a0 p1 z90.2.2).bind fun z92 =>
    gd (inb (z92 + (25 : Int32)) (zN h q8)) <|
    (f_X9_boundOf h a0 p1 (zI z90.2.2 q8 (z92 + (25 : Int32)).toNatClampNeg) z90.2.2).bind fun z94 =>
    (f_X9_bears h a0 p1 z94 z90.2.2).bind fun z95 =>
    gd (¬ z95 = 0) <|
    lt_ ((1441440000000 : Int64) / z95) fun x97 =>
    (lp_X9_count0_343 h x97 z91 x11 a0 fuel x16 z90.2.2).bind fun z104 =>
    some z104.2
  else
    some M7
set_option maxHeartbeats 4000000 in
set_option maxRecDepth 100000 in
theorem c_X9_count0 {l : Launch} {D : va_G} {cy : Nat → ClassId} {h : Hs} {a0 : Nat} {p1 : Int32} {M : Mm} {z : Mm} (hf : f_X9_count0 h a0 p1 M = some z) : CtV l D cy yX9_count0 (wu yX9_count0 cX9_count0 11 none) ({ frames := 6, cells := 0, slots := 0, locals := 142 }) [.ref a0, .int p1] h M z := by
  refine enterV (cc := cX9_count0) (maxL := 11) (ret := none) (by decide) (Nat.le_of_ble_eq_true rfl) ?_
  intro p e s m args below meth c A ls X hw hr hlk hl
  have hl : lv_has ls 11 [(0, .ref a0), (1, .int p1)] := hl
  unfold f_X9_count0 at hf
  refine lv_iconst (v := (0 : Int32)) X.1.1 X.1.2.1 dX9_count0_0 (by decide) ?_
  refine lv_istore_n (lv' := [(2, .int (0 : Int32)), (0, .ref a0), (1, .int p1)]) X.1.1 X.1.2.1 dX9_count0_1 rfl hl (by decide) rfl (fun ls hl => ?_)
  obtain ⟨z6, ez6, hf⟩ := obd hf
  refine wlp_X9_count0_2 X fuel _ _ _ _ _ _ ez6 hw (lv_sub hl [0, 1, 2] rfl) (fun x ex H locs ls hw hl => ?_)
  subst ex
  refine lv_aload_n X.1.1 X.1.2.1 dX9_count0_21 rfl (lv_at hl 1 rfl) ?_
  refine lv_lconst (v := (0 : Int64)) X.1.1 X.1.2.1 dX9_count0_22 (by decide) ?_
  obtain ⟨g_a0, hf⟩ := ogd hf
  refine r_putl (k := 9) (j := 21) X hw rfl inX9 tyX9_ok nmX9 g_a0 rfl (by decide) (by decide) uf_X9_190 rfl rfl rfl rfl dX9_count0_23 (fun H locs hw => ?_)
  obtain ⟨M7, eM7, hf⟩ := olt hf
  rw [← eM7] at hw
  refine lv_aload_n X.1.1 X.1.2.1 dX9_count0_26 rfl (lv_at hl 1 rfl) ?_
  obtain ⟨q8, eq8, hf⟩ := odq hf
  refine r_getq (k := 9) (j := 1) X hw rfl inX9 g_a0 rfl (by decide) (by decide) uf_X9_13 rfl dX9_count0_27 eq8 ?_
  refine lv_aload_n X.1.1 X.1.2.1 dX9_count0_30 rfl (lv_at hl 1 rfl) ?_
  refine lv_iload_n X.1.1 X.1.2.1 dX9_count0_31 rfl (lv_at hl 2 rfl) ?_
  obtain ⟨z9, ez9, hf⟩ := obd hf
  refine r_callVI (As := [.int p1]) (rest := [.ref q8]) X hw (c_X9_base ez9) (cwV 1 X.1.2.2.2.2 (guV um_X9_170 ui_X9_base us_X9_base un_X9 uo_X9_base) rfl rfl rfl (by decide +kernel) ⟨Nat.le_of_ble_eq_true rfl, Nat.le_of_ble_eq_true rfl⟩) g_a0 (by decide) rfl rfl hl.1 rfl (Nat.le_of_ble_eq_true rfl) dX9_count0_32 ⟨Nat.zero_le _, Nat.zero_le _⟩ (fun H locs hw => ?_)
  refine lv_iconst (v := (0 : Int32)) X.1.1 X.1.2.1 dX9_count0_35 (by decide) ?_
  refine lv_iadd X.1.1 X.1.2.1 dX9_count0_36 ?_
  obtain ⟨g_q8, hf⟩ := ogd hf
  obtain ⟨i_10, hf⟩ := ogd hf
  refine r_iald X hw g_q8 i_10 dX9_count0_37 ?_
  refine lv_topi (fun x11 ex11 => ?_)
  have hf := oltE ex11 hf
  refine lv_istore_n (lv' := [(2, .int x11), (0, .ref a0), (1, .int p1)]) X.1.1 X.1.2.1 dX9_count0_38 rfl hl (by decide) rfl (fun ls hl => ?_)
  refine lv_aload_n X.1.1 X.1.2.1 dX9_count0_39 rfl (lv_at hl 1 rfl) ?_
  refine lv_iload_n X.1.1 X.1.2.1 dX9_count0_40 rfl (lv_at hl 0 rfl) ?_
  obtain ⟨z12, ez12, hf⟩ := obd hf
  refine r_callVI (As := [.int x11]) (rest := []) X hw (c_X9_isGauge ez12) (cwV 1 X.1.2.2.2.2 (guV um_X9_154 ui_X9_isGauge us_X9_isGauge un_X9 uo_X9_isGauge) rfl rfl rfl (by decide +kernel) ⟨Nat.le_of_ble_eq_true rfl, Nat.le_of_ble_eq_true rfl⟩) g_a0 (by decide) rfl rfl hl.1 rfl (Nat.le_of_ble_eq_true rfl) dX9_count0_41 ⟨Nat.zero_le _, Nat.zero_le _⟩ (fun H locs hw => ?_)
  refine lv_if_ne (tgt := 48) X.1.1 X.1.2.1 dX9_count0_44 (by decide) (fun c_13 => ?_) (fun c_13 => ?_)
  · skip
    rw [if_pos c_13] at hf
    refine lv_aload_n X.1.1 X.1.2.1 dX9_count0_48 rfl (lv_at hl 1 rfl) ?_
    refine r_getq (k := 9) (j := 1) X hw rfl inX9 g_a0 rfl (by decide) (by decide) uf_X9_13 rfl dX9_count0_49 eq8 ?_
    refine lv_aload_n X.1.1 X.1.2.1 dX9_count0_52 rfl (lv_at hl 1 rfl) ?_
    refine lv_iload_n X.1.1 X.1.2.1 dX9_count0_53 rfl (lv_at hl 2 rfl) ?_
    obtain ⟨z14, ez14, hf⟩ := obd hf
    refine r_callVI (As := [.int p1]) (rest := [.ref q8]) X hw (c_X9_base ez14) (cwV 1 X.1.2.2.2.2 (guV um_X9_170 ui_X9_base us_X9_base un_X9 uo_X9_base) rfl rfl rfl (by decide +kernel) ⟨Nat.le_of_ble_eq_true rfl, Nat.le_of_ble_eq_true rfl⟩) g_a0 (by decide) rfl rfl hl.1 rfl (Nat.le_of_ble_eq_true rfl) dX9_count0_54 ⟨Nat.zero_le _, Nat.zero_le _⟩ (fun H locs hw => ?_)
    refine lv_iconst (v := (1 : Int32)) X.1.1 X.1.2.1 dX9_count0_57 (by decide) ?_
    refine lv_iadd X.1.1 X.1.2.1 dX9_count0_58 ?_
    obtain ⟨i_15, hf⟩ := ogd hf
    refine r_iald X hw g_q8 i_15 dX9_count0_59 ?_
    refine lv_topi (fun x16 ex16 => ?_)
    have hf := oltE ex16 hf
    refine lv_istore_n (lv' := [(3, .int x16), (2, .int x11), (0, .ref a0), (1, .int p1)]) X.1.1 X.1.2.1 dX9_count0_60 rfl hl (by decide) rfl (fun ls hl => ?_)
    refine lv_aload_n X.1.1 X.1.2.1 dX9_count0_61 rfl (lv_at hl 2 rfl) ?_
    refine lv_iload_n X.1.1 X.1.2.1 dX9_count0_62 rfl (lv_at hl 1 rfl) ?_
    refine lv_iload_n X.1.1 X.1.2.1 dX9_count0_63 rfl (lv_at hl 0 rfl) ?_
    obtain ⟨z17, ez17, hf⟩ := obd hf
    refine r_callVV (As := [.int x11, .int x16]) (rest := []) X hw (c_X9_look ez17) (cwV 2 X.1.2.2.2.2 (guV um_X9_157 ui_X9_look us_X9_look un_X9 uo_X9_look) rfl rfl rfl (by decide +kernel) ⟨Nat.le_of_ble_eq_true rfl, Nat.le_of_ble_eq_true rfl⟩) g_a0 (by decide) rfl rfl hl.1 rfl (Nat.le_of_ble_eq_true rfl) dX9_count0_64 ⟨Nat.zero_le _, Nat.zero_le _⟩ (fun H locs hw => ?_)
    refine lv_iconst (v := (0 : Int32)) X.1.1 X.1.2.1 dX9_count0_67 (by decide) ?_
    refine lv_istore (lv' := [(4, .int (0 : Int32)), (3, .int x16), (2, .int x11), (0, .ref a0), (1, .int p1)]) X.1.1 X.1.2.1 dX9_count0_68 hl (by decide) rfl (fun ls hl => ?_)
    refine lv_iconst (v := (0 : Int32)) X.1.1 X.1.2.1 dX9_count0_70 (by decide) ?_
    refine lv_istore (lv' := [(5, .int (0 : Int32)), (4, .int (0 : Int32)), (3, .int x16), (2, .int x11), (0, .ref a0), (1, .int p1)]) X.1.1 X.1.2.1 dX9_count0_71 hl (by decide) rfl (fun ls hl => ?_)
    obtain ⟨z90, ez90, hf⟩ := obd hf
    refine wlp_X9_count0_73 X g_a0 g_q8 eq8 fuel _ _ _ _ _ _ _ ez90 hw (lv_sub hl [1, 0, 2, 3, 4, 5] rfl) (fun x ex H locs ls hw hl => ?_)
    subst ex
    refine lv_aload_n X.1.1 X.1.2.1 dX9_count0_304 rfl (lv_at hl 4 rfl) ?_
    refine lv_iload_n X.1.1 X.1.2.1 dX9_count0_305 rfl (lv_at hl 3 rfl) ?_
    obtain ⟨z91, ez91, hf⟩ := obd hf
    refine r_callVI (As := [.int x11]) (rest := []) X hw (c_X9_spans ez91) (cwV 1 X.1.2.2.2.2 (guV um_X9_121 ui_X9_spans us_X9_spans un_X9 uo_X9_spans) rfl rfl rfl (by decide +kernel) ⟨Nat.le_of_ble_eq_true rfl, Nat.le_of_ble_eq_true rfl⟩) g_a0 (by decide) rfl rfl hl.1 rfl (Nat.le_of_ble_eq_true rfl) dX9_count0_306 ⟨Nat.zero_le _, Nat.zero_le _⟩ (fun H locs hw => ?_)
    refine lv_istore (lv' := [(5, .int z91), (4, .int z90.1), (3, .int x16), (2, .int x11), (0, .ref a0), (1, .int p1)]) X.1.1 X.1.2.1 dX9_count0_309 hl (by decide) rfl (fun ls hl => ?_)
    refine lv_ldc2 (v := (1441440000000 : Int64)) X.1.1 X.1.2.1 X.1.2.2.2.1 (X.1.2.2.2.2 _ uk_X9_201) dX9_count0_311 ?_
    refine lv_aload_n X.1.1 X.1.2.1 dX9_count0_314 rfl (lv_at hl 4 rfl) ?_
    refine lv_iload_n X.1.1 X.1.2.1 dX9_count0_315 rfl (lv_at hl 5 rfl) ?_
    refine lv_aload_n X.1.1 X.1.2.1 dX9_count0_316 rfl (lv_at hl 4 rfl) ?_
    refine lv_iload_n X.1.1 X.1.2.1 dX9_count0_317 rfl (lv_at hl 5 rfl) ?_
    refine lv_aload_n X.1.1 X.1.2.1 dX9_count0_318 rfl (lv_at hl 4 rfl) ?_
    refine r_getq (k := 9) (j := 1) X hw rfl inX9 g_a0 rfl (by decide) (by decide) uf_X9_13 rfl dX9_count0_319 eq8 ?_
    refine lv_aload_n X.1.1 X.1.2.1 dX9_count0_322 rfl (lv_at hl 4 rfl) ?_
    refine lv_iload_n X.1.1 X.1.2.1 dX9_count0_323 rfl (lv_at hl 5 rfl) ?_
    obtain ⟨z92, ez92, hf⟩ := obd hf
    refine r_callVI (As := [.int p1]) (rest := [.ref q8, .int p1, .ref a0, .int p1, .ref a0, .long (1441440000000 : Int64)]) X hw (c_X9_base ez92) (cwV 1 X.1.2.2.2.2 (guV um_X9_170 ui_X9_base us_X9_base un_X9 uo_X9_base) rfl rfl rfl (by decide +kernel) ⟨Nat.le_of_ble_eq_true rfl, Nat.le_of_ble_eq_true rfl⟩) g_a0 (by decide) rfl rfl hl.1 rfl (Nat.le_of_ble_eq_true rfl) dX9_count0_324 ⟨Nat.zero_le _, Nat.zero_le _⟩ (fun H locs hw => ?_)
    refine lv_bipush (v := (25 : Int32)) X.1.1 X.1.2.1 dX9_count0_327 (by decide) ?_
    refine lv_iadd X.1.1 X.1.2.1 dX9_count0_329 ?_
    obtain ⟨i_93, hf⟩ := ogd hf
    refine r_iald X hw g_q8 i_93 dX9_count0_330 ?_
    obtain ⟨z94, ez94, hf⟩ := obd hf
    refine r_callVI (As := [.int p1, .int (zI z90.2.2 q8 (z92 + (25 : Int32)).toNatClampNeg)]) (rest := [.int p1, .ref a0, .long (1441440000000 : Int64)]) X hw (c_X9_boundOf ez94) (cwV 2 X.1.2.2.2.2 (guV um_X9_198 ui_X9_boundOf us_X9_boundOf un_X9 uo_X9_boundOf) rfl rfl rfl (by decide +kernel) ⟨Nat.le_of_ble_eq_true rfl, Nat.le_of_ble_eq_true rfl⟩) g_a0 (by decide) rfl rfl hl.1 rfl (Nat.le_of_ble_eq_true rfl) dX9_count0_331 ⟨Nat.zero_le _, Nat.zero_le _⟩ (fun H locs hw => ?_)
    obtain ⟨z95, ez95, hf⟩ := obd hf
    refine r_callVL (As := [.int p1, .int z94]) (rest := [.long (1441440000000 : Int64)]) X hw (c_X9_bears ez95) (cwV 2 X.1.2.2.2.2 (guV um_X9_203 ui_X9_bears us_X9_bears un_X9 uo_X9_bears) rfl rfl rfl (by decide +kernel) ⟨Nat.le_of_ble_eq_true rfl, Nat.le_of_ble_eq_true rfl⟩) g_a0 (by decide) rfl rfl hl.1 rfl (Nat.le_of_ble_eq_true rfl) dX9_count0_334 ⟨Nat.zero_le _, Nat.zero_le _⟩ (fun H locs hw => ?_)
    obtain ⟨n_96, hf⟩ := ogd hf
    refine lv_ldiv X.1.1 X.1.2.1 dX9_count0_337 n_96 ?_
    refine lv_topl (fun x97 ex97 => ?_)
    have hf := oltE ex97 hf
    refine lv_lstore (lv' := [(6, .long x97), (5, .int z91), (4, .int z90.1), (3, .int x16), (2, .int x11), (0, .ref a0), (1, .int p1)]) X.1.1 X.1.2.1 dX9_count0_338 hl (by decide) rfl (fun ls hl => ?_)
    refine lv_iload_n X.1.1 X.1.2.1 dX9_count0_340 rfl (lv_at hl 3 rfl) ?_
    refine lv_istore (lv' := [(8, .int x16), (6, .long x97), (5, .int z91), (4, .int z90.1), (3, .int x16), (2, .int x11), (0, .ref a0), (1, .int p1)]) X.1.1 X.1.2.1 dX9_count0_341 hl (by decide) rfl (fun ls hl => ?_)
    obtain ⟨z104, ez104, hf⟩ := obd hf
    refine wlp_X9_count0_343 X g_a0 fuel _ _ _ _ _ _ ez104 hw (lv_sub hl [0, 1, 2, 5, 6] rfl) (fun x ex H locs ls hw hl => ?_)
    subst ex
    cases hf
    exact r_retV X hw hr hlk dX9_count0_383
  · skip
    rw [if_neg (fun z => z c_13)] at hf
    cases hf
    exact r_retV X hw hr hlk dX9_count0_47
/-! X9_sum -/
def lp_X9_sum_21 (h : Hs) (a0 : Nat) (M : Mm) : Nat → Int64 → Int32 → Option (Int64 × Int32)
  | 0, _, _ => none
  | n + 1, v3, v5 =>
    if (7 : Int32) ≤ v5 then
      some (v3, v5)
    else
      dq (zR h a0 20) fun q5 =>
      gd (ok h q5 12) <|
      gd (inb v5 (zN h q5)) <|
      lt_ (v3 + (zJ M q5 v5.toNatClampNeg)) fun x7 =>
      lt_ (v5 + (1 : Int32)) fun x8 =>
      lp_X9_sum_21 h a0 M n x7 x8
set_option maxHeartbeats 4000000 in
set_option maxRecDepth 100000 in
theorem wlp_X9_sum_21 {l : Launch} {D : va_G} {cy : Nat → ClassId} {h : Hs} {a0 : Nat} {M : Mm} {p : Program} {e : Env} {s : State} {m : MethodId} {args : Array Value} {below : List Frame} {meth : Method} {c : Code} {A : Nat → Prop} (X : Cx p s m args c cX9_sum 6 gtbl RX9 D cy A) {Q : State → Prop} (g_a0 : ok h a0 9) : ∀ (n : Nat) (v3 : Int64) (v5 : Int32) (z : (Int64 × Int32)) (H : Heap) (locs : List Loc) (ls : Array Slot), lp_X9_sum_21 h a0 M n v3 v5 = some z → Wd D cy A s.heap h M H locs → lv_has ls 6 [(3, .long v3), (5, .int v5), (0, .ref a0)] → (∀ x : (Int64 × Int32), z = x → ∀ (H : Heap) (locs : List Loc) (ls : Array Slot), Wd D cy A s.heap h M H locs → lv_has ls 6 [(3, .long x.1), (5, .int x.2), (0, .ref a0)] → W p l e ({ frames := 7, cells := 0, slots := 0, locals := 172 } : Room) s m args below meth c H locs 0 0 Q (F0 m 44 ls [])) → W p l e ({ frames := 7, cells := 0, slots := 0, locals := 172 } : Room) s m args below meth c H locs 0 0 Q (F0 m 21 ls []) := by
  intro n
  induction n with
  | zero => intro v3 v5 z H locs ls hf hw hl kx; exact absurd hf (by intro q; cases q)
  | succ n ih =>
    intro v3 v5 z H locs ls hf hw hl kx
    unfold lp_X9_sum_21 at hf
    refine lv_iload X.1.1 X.1.2.1 dX9_sum_21 (lv_at hl 1 rfl) ?_
    refine lv_bipush (v := (7 : Int32)) X.1.1 X.1.2.1 dX9_sum_23 (by decide) ?_
    refine lv_icmp_ge (tgt := 44) X.1.1 X.1.2.1 dX9_sum_25 (by decide) (fun c_4 => ?_) (fun c_4 => ?_)
    · skip
      rw [if_pos c_4] at hf
      cases hf
      exact kx _ rfl _ _ _ hw (lv_sub hl [0, 1, 2] rfl)
    · skip
      rw [if_neg c_4] at hf
      refine lv_lload_n X.1.1 X.1.2.1 dX9_sum_28 rfl (lv_at hl 0 rfl) ?_
      refine lv_aload_n X.1.1 X.1.2.1 dX9_sum_29 rfl (lv_at hl 2 rfl) ?_
      obtain ⟨q5, eq5, hf⟩ := odq hf
      refine r_getq (k := 9) (j := 20) X hw rfl inX9 g_a0 rfl (by decide) (by decide) uf_X9_52 rfl dX9_sum_30 eq5 ?_
      refine lv_iload X.1.1 X.1.2.1 dX9_sum_33 (lv_at hl 1 rfl) ?_
      obtain ⟨g_q5, hf⟩ := ogd hf
      obtain ⟨i_6, hf⟩ := ogd hf
      refine r_lald X hw g_q5 i_6 dX9_sum_35 ?_
      refine lv_ladd X.1.1 X.1.2.1 dX9_sum_36 ?_
      refine lv_topl (fun x7 ex7 => ?_)
      have hf := oltE ex7 hf
      refine lv_lstore_n (lv' := [(3, .long x7), (5, .int v5), (0, .ref a0)]) X.1.1 X.1.2.1 dX9_sum_37 rfl hl (by decide) rfl (fun ls hl => ?_)
      obtain ⟨x8, ex8, hf⟩ := olt hf
      refine lv_iinc (v := x8) (lv' := [(5, .int x8), (3, .long x7), (0, .ref a0)]) X.1.1 X.1.2.1 dX9_sum_38 hl (k := 1) rfl (by rw [ex8]; rfl) (by decide) rfl (fun ls hl => ?_)
      refine lv_goto (tgt := 21) X.1.1 X.1.2.1 dX9_sum_41 (by decide) ?_
      exact ih _ _ _ _ _ _ hf hw (lv_sub hl [1, 0, 2] rfl) kx
def f_X9_sum (h : Hs) (a0 : Nat) (p1 : Int32) (p2 : Int32) (M : Mm) : Option (Int64 × Mm) :=
  gd (ok h a0 9) <|
  (f_X9_count0 h a0 p1 M).bind fun z1 =>
  Option.bind (
    if ¬ p2 = 0 then
      some (zJ z1 a0 21)
    else
      some (0 : Int64)
    ) fun y3 =>
  (lp_X9_sum_21 h a0 z1 fuel y3 (0 : Int32)).bind fun z9 =>
  some (z9.1, z1)
set_option maxHeartbeats 4000000 in
set_option maxRecDepth 100000 in
theorem c_X9_sum {l : Launch} {D : va_G} {cy : Nat → ClassId} {h : Hs} {a0 : Nat} {p1 : Int32} {p2 : Int32} {M : Mm} {z : (Int64 × Mm)} (hf : f_X9_sum h a0 p1 p2 M = some z) : CtL l D cy yX9_sum (wu yX9_sum cX9_sum 6 (some .long)) ({ frames := 7, cells := 0, slots := 0, locals := 172 }) [.ref a0, .int p1, .int p2] h M z.1 z.2 := by
  refine enterL (cc := cX9_sum) (maxL := 6) (ret := (some .long)) (by decide) (Nat.le_of_ble_eq_true rfl) ?_
  intro p e s m args below meth c A ls X hw hr hlk hl
  have hl : lv_has ls 6 [(0, .ref a0), (1, .int p1), (2, .int p2)] := hl
  unfold f_X9_sum at hf
  refine lv_aload_n X.1.1 X.1.2.1 dX9_sum_0 rfl (lv_at hl 0 rfl) ?_
  refine lv_iload_n X.1.1 X.1.2.1 dX9_sum_1 rfl (lv_at hl 1 rfl) ?_
  obtain ⟨g_a0, hf⟩ := ogd hf
  obtain ⟨z1, ez1, hf⟩ := obd hf
  refine r_callVV (As := [.int p1]) (rest := []) X hw (c_X9_count0 ez1) (cwV 1 X.1.2.2.2.2 (guV um_X9_206 ui_X9_count0 us_X9_count0 un_X9 uo_X9_count0) rfl rfl rfl (by decide +kernel) ⟨Nat.le_of_ble_eq_true rfl, Nat.le_of_ble_eq_true rfl⟩) g_a0 (by decide) rfl rfl hl.1 rfl (Nat.le_of_ble_eq_true rfl) dX9_sum_2 ⟨Nat.zero_le _, Nat.zero_le _⟩ (fun H locs hw => ?_)
  refine lv_iload_n X.1.1 X.1.2.1 dX9_sum_5 rfl (lv_at hl 2 rfl) ?_
  obtain ⟨y3, ey3, hf⟩ := obd hf
  have Jy3 : ∀ (H : Heap) (locs : List Loc) (ls : Array Slot), Wd D cy A s.heap h z1 H locs → lv_has ls 6 [(0, .ref a0)] → W p l e ({ frames := 7, cells := 0, slots := 0, locals := 172 } : Room) s m args below meth c H locs 0 0 (QL below D cy A h args s z.1 z.2) (F0 m 17 ls [.long y3]) := by
    intro H locs ls hw hl
    refine lv_lstore_n (lv' := [(3, .long y3), (0, .ref a0)]) X.1.1 X.1.2.1 dX9_sum_17 rfl hl (by decide) rfl (fun ls hl => ?_)
    refine lv_iconst (v := (0 : Int32)) X.1.1 X.1.2.1 dX9_sum_18 (by decide) ?_
    refine lv_istore (lv' := [(5, .int (0 : Int32)), (3, .long y3), (0, .ref a0)]) X.1.1 X.1.2.1 dX9_sum_19 hl (by decide) rfl (fun ls hl => ?_)
    obtain ⟨z9, ez9, hf⟩ := obd hf
    refine wlp_X9_sum_21 X g_a0 fuel _ _ _ _ _ _ ez9 hw (lv_sub hl [1, 0, 2] rfl) (fun x ex H locs ls hw hl => ?_)
    subst ex
    refine lv_lload_n X.1.1 X.1.2.1 dX9_sum_44 rfl (lv_at hl 0 rfl) ?_
    cases hf
    exact r_retL X hw hr hlk dX9_sum_45
  clear hf
  have hf := ey3
  clear ey3
  refine lv_if_ne (tgt := 13) X.1.1 X.1.2.1 dX9_sum_6 (by decide) (fun c_2 => ?_) (fun c_2 => ?_)
  · skip
    rw [if_pos c_2] at hf
    refine lv_aload_n X.1.1 X.1.2.1 dX9_sum_13 rfl (lv_at hl 0 rfl) ?_
    refine r_getl (k := 9) (j := 21) X hw rfl inX9 g_a0 rfl (by decide) (by decide) uf_X9_190 rfl dX9_sum_14 ?_
    cases hf
    exact Jy3 _ _ _ hw (lv_sub hl [0] rfl)
  · skip
    rw [if_neg (fun z => z c_2)] at hf
    refine lv_lconst (v := (0 : Int64)) X.1.1 X.1.2.1 dX9_sum_9 (by decide) ?_
    refine lv_goto (tgt := 17) X.1.1 X.1.2.1 dX9_sum_10 (by decide) ?_
    cases hf
    exact Jy3 _ _ _ hw (lv_sub hl [0] rfl)
/-! X9_damage -/
def lp_X9_damage_76 (h : Hs) (w4 : Int64) (w3 : Int32) (M : Mm) : Nat → Int64 → Int64 → Option (Int64 × Int64)
  | 0, _, _ => none
  | n + 1, v6, v8 =>
    if v6 = (0 : Int64) then
      some (v6, v8)
    else
      gd (¬ v6 = 0) <|
      lt_ (v8 - v8 / v6 * v6) fun x14 =>
      lp_X9_damage_76 h w4 w3 M n x14 v6
set_option maxHeartbeats 4000000 in
set_option maxRecDepth 100000 in
theorem wlp_X9_damage_76 {l : Launch} {D : va_G} {cy : Nat → ClassId} {h : Hs} {w4 : Int64} {w3 : Int32} {M : Mm} {p : Program} {e : Env} {s : State} {m : MethodId} {args : Array Value} {below : List Frame} {meth : Method} {c : Code} {A : Nat → Prop} (X : Cx p s m args c cX9_damage 12 gtbl RX9 D cy A) {Q : State → Prop} : ∀ (n : Nat) (v6 : Int64) (v8 : Int64) (z : (Int64 × Int64)) (H : Heap) (locs : List Loc) (ls : Array Slot), lp_X9_damage_76 h w4 w3 M n v6 v8 = some z → Wd D cy A s.heap h M H locs → lv_has ls 12 [(6, .long v6), (8, .long v8), (4, .long w4), (3, .int w3)] → (∀ x : (Int64 × Int64), z = x → ∀ (H : Heap) (locs : List Loc) (ls : Array Slot), Wd D cy A s.heap h M H locs → lv_has ls 12 [(6, .long x.1), (8, .long x.2), (4, .long w4), (3, .int w3)] → W p l e ({ frames := 8, cells := 0, slots := 0, locals := 197 } : Room) s m args below meth c H locs 0 0 Q (F0 m 101 ls [])) → W p l e ({ frames := 8, cells := 0, slots := 0, locals := 197 } : Room) s m args below meth c H locs 0 0 Q (F0 m 76 ls []) := by
  intro n
  induction n with
  | zero => intro v6 v8 z H locs ls hf hw hl kx; exact absurd hf (by intro q; cases q)
  | succ n ih =>
    intro v6 v8 z H locs ls hf hw hl kx
    unfold lp_X9_damage_76 at hf
    refine lv_lload X.1.1 X.1.2.1 dX9_damage_76 (lv_at hl 0 rfl) ?_
    refine lv_lconst (v := (0 : Int64)) X.1.1 X.1.2.1 dX9_damage_78 (by decide) ?_
    refine W.lcmp X.1.1 X.1.2.1 dX9_damage_79 ?_
    refine lv_if_eq (tgt := 101) X.1.1 X.1.2.1 dX9_damage_80 (by decide) (fun c_12 => ?_) (fun c_12 => ?_)
    · skip
      rw [lg_cmp_eq] at c_12
      rw [if_pos c_12] at hf
      cases hf
      exact kx _ rfl _ _ _ hw (lv_sub hl [0, 1, 2, 3] rfl)
    · skip
      rw [lg_cmp_eq] at c_12
      rw [if_neg c_12] at hf
      refine lv_lload X.1.1 X.1.2.1 dX9_damage_83 (lv_at hl 1 rfl) ?_
      refine lv_lload X.1.1 X.1.2.1 dX9_damage_85 (lv_at hl 0 rfl) ?_
      obtain ⟨n_13, hf⟩ := ogd hf
      refine lv_lrem X.1.1 X.1.2.1 dX9_damage_87 n_13 ?_
      refine lv_topl (fun x14 ex14 => ?_)
      have hf := oltE ex14 hf
      refine lv_lstore (lv' := [(10, .long x14), (6, .long v6), (8, .long v8), (4, .long w4), (3, .int w3)]) X.1.1 X.1.2.1 dX9_damage_88 hl (by decide) rfl (fun ls hl => ?_)
      refine lv_lload X.1.1 X.1.2.1 dX9_damage_90 (lv_at hl 1 rfl) ?_
      refine lv_lstore (lv' := [(8, .long v6), (10, .long x14), (6, .long v6), (4, .long w4), (3, .int w3)]) X.1.1 X.1.2.1 dX9_damage_92 hl (by decide) rfl (fun ls hl => ?_)
      refine lv_lload X.1.1 X.1.2.1 dX9_damage_94 (lv_at hl 1 rfl) ?_
      refine lv_lstore (lv' := [(6, .long x14), (8, .long v6), (10, .long x14), (4, .long w4), (3, .int w3)]) X.1.1 X.1.2.1 dX9_damage_96 hl (by decide) rfl (fun ls hl => ?_)
      refine lv_goto (tgt := 76) X.1.1 X.1.2.1 dX9_damage_98 (by decide) ?_
      exact ih _ _ _ _ _ _ hf hw (lv_sub hl [0, 1, 3, 4] rfl) kx
def f_X9_damage (h : Hs) (a0 : Nat) (p1 : Int32) (p2 : Int32) (p3 : Int32) (M : Mm) : Option (Int64 × Mm) :=
  (f_X9_no h p1 M).bind fun z1 =>
  Option.bind (
    if ¬ z1 = 0 then
      some (1 : Int32)
    else
      if p2 < 0 then
        some (1 : Int32)
      else
        if (1 : Int32) < p2 then
          some (1 : Int32)
        else
          if p3 < 0 then
            some (1 : Int32)
          else
            if p3 ≤ (2 : Int32) then
              some (0 : Int32)
            else
              some (1 : Int32)
    ) fun y7 =>
  gd (ok h a0 9) <|
  (f_X9_throwsIf h a0 y7 M).bind fun z8 =>
  if z8.1 = 0 then
    (f_X9_sum h a0 p1 p2 z8.2).bind fun z10 =>
    if ¬ p3 = (2 : Int32) then
      (lp_X9_damage_76 h z10.1 p3 z10.2 fuel z10.1 (1441440000000 : Int64)).bind fun z15 =>
      Option.bind (
        if ¬ p3 = 0 then
          some (1441440000000 : Int64)
        else
          some z10.1
        ) fun y17 =>
      gd (¬ z15.2 = 0) <|
      some (y17 / z15.2, z10.2)
    else
      if z10.1 < (1441440000000 : Int64) then
        some ((0 : Int64), z10.2)
      else
        some ((1 : Int64), z10.2)
  else
    some ((0 : Int64), z8.2)
set_option maxHeartbeats 4000000 in
set_option maxRecDepth 100000 in
theorem c_X9_damage {l : Launch} {D : va_G} {cy : Nat → ClassId} {h : Hs} {a0 : Nat} {p1 : Int32} {p2 : Int32} {p3 : Int32} {M : Mm} {z : (Int64 × Mm)} (hf : f_X9_damage h a0 p1 p2 p3 M = some z) : CtL l D cy yX9_damage (wu yX9_damage cX9_damage 12 (some .long)) ({ frames := 8, cells := 0, slots := 0, locals := 197 }) [.ref a0, .int p1, .int p2, .int p3] h M z.1 z.2 := by
  refine enterL (cc := cX9_damage) (maxL := 12) (ret := (some .long)) (by decide) (Nat.le_of_ble_eq_true rfl) ?_
  intro p e s m args below meth c A ls X hw hr hlk hl
  have hl : lv_has ls 12 [(0, .ref a0), (1, .int p1), (2, .int p2), (3, .int p3)] := hl
  unfold f_X9_damage at hf
  refine lv_aload_n X.1.1 X.1.2.1 dX9_damage_0 rfl (lv_at hl 0 rfl) ?_
  refine lv_iload_n X.1.1 X.1.2.1 dX9_damage_1 rfl (lv_at hl 1 rfl) ?_
  obtain ⟨z1, ez1, hf⟩ := obd hf
  refine r_callSI (As := [.int p1]) (rest := [.ref a0]) X hw (c_X9_no ez1) (va_cwS 1 X.1.2.2.2.2 (guS um_X9_71 ut_X9_no un_X9 uo_X9_no) rfl rfl rfl (by decide +kernel) ⟨Nat.le_of_ble_eq_true rfl, Nat.le_of_ble_eq_true rfl⟩) rfl hl.1 rfl (Nat.le_of_ble_eq_true rfl) dX9_damage_2 ⟨Nat.zero_le _, Nat.zero_le _⟩ (fun H locs hw => ?_)
  obtain ⟨y7, ey7, hf⟩ := obd hf
  have Jy7 : ∀ (H : Heap) (locs : List Loc) (ls : Array Slot), Wd D cy A s.heap h M H locs → lv_has ls 12 [(0, .ref a0), (1, .int p1), (2, .int p2), (3, .int p3)] → W p l e ({ frames := 8, cells := 0, slots := 0, locals := 197 } : Room) s m args below meth c H locs 0 0 (QL below D cy A h args s z.1 z.2) (F0 m 31 ls [.int y7, .ref a0]) := by
    intro H locs ls hw hl
    obtain ⟨g_a0, hf⟩ := ogd hf
    obtain ⟨z8, ez8, hf⟩ := obd hf
    refine r_callVI (As := [.int y7]) (rest := []) X hw (c_X9_throwsIf ez8) (cwV 1 X.1.2.2.2.2 (guV um_X9_160 ui_X9_throwsIf us_X9_throwsIf un_X9 uo_X9_throwsIf) rfl rfl rfl (by decide +kernel) ⟨Nat.le_of_ble_eq_true rfl, Nat.le_of_ble_eq_true rfl⟩) g_a0 (by decide) rfl rfl hl.1 rfl (Nat.le_of_ble_eq_true rfl) dX9_damage_31 ⟨Nat.zero_le _, Nat.zero_le _⟩ (fun H locs hw => ?_)
    refine lv_if_eq (tgt := 39) X.1.1 X.1.2.1 dX9_damage_34 (by decide) (fun c_9 => ?_) (fun c_9 => ?_)
    · skip
      rw [if_pos c_9] at hf
      refine lv_aload_n X.1.1 X.1.2.1 dX9_damage_39 rfl (lv_at hl 0 rfl) ?_
      refine lv_iload_n X.1.1 X.1.2.1 dX9_damage_40 rfl (lv_at hl 1 rfl) ?_
      refine lv_iload_n X.1.1 X.1.2.1 dX9_damage_41 rfl (lv_at hl 2 rfl) ?_
      obtain ⟨z10, ez10, hf⟩ := obd hf
      refine r_callVL (As := [.int p1, .int p2]) (rest := []) X hw (c_X9_sum ez10) (cwV 2 X.1.2.2.2.2 (guV um_X9_209 ui_X9_sum us_X9_sum un_X9 uo_X9_sum) rfl rfl rfl (by decide +kernel) ⟨Nat.le_of_ble_eq_true rfl, Nat.le_of_ble_eq_true rfl⟩) g_a0 (by decide) rfl rfl hl.1 rfl (Nat.le_of_ble_eq_true rfl) dX9_damage_42 ⟨Nat.zero_le _, Nat.zero_le _⟩ (fun H locs hw => ?_)
      refine lv_lstore (lv' := [(4, .long z10.1), (0, .ref a0), (1, .int p1), (2, .int p2), (3, .int p3)]) X.1.1 X.1.2.1 dX9_damage_45 hl (by decide) rfl (fun ls hl => ?_)
      refine lv_iload_n X.1.1 X.1.2.1 dX9_damage_47 rfl (lv_at hl 4 rfl) ?_
      refine lv_iconst (v := (2 : Int32)) X.1.1 X.1.2.1 dX9_damage_48 (by decide) ?_
      refine lv_icmp_ne (tgt := 67) X.1.1 X.1.2.1 dX9_damage_49 (by decide) (fun c_11 => ?_) (fun c_11 => ?_)
      · skip
        rw [if_pos c_11] at hf
        refine lv_lload X.1.1 X.1.2.1 dX9_damage_67 (lv_at hl 0 rfl) ?_
        refine lv_lstore (lv' := [(6, .long z10.1), (4, .long z10.1), (0, .ref a0), (1, .int p1), (2, .int p2), (3, .int p3)]) X.1.1 X.1.2.1 dX9_damage_69 hl (by decide) rfl (fun ls hl => ?_)
        refine lv_ldc2 (v := (1441440000000 : Int64)) X.1.1 X.1.2.1 X.1.2.2.2.1 (X.1.2.2.2.2 _ uk_X9_201) dX9_damage_71 ?_
        refine lv_lstore (lv' := [(8, .long (1441440000000 : Int64)), (6, .long z10.1), (4, .long z10.1), (0, .ref a0), (1, .int p1), (2, .int p2), (3, .int p3)]) X.1.1 X.1.2.1 dX9_damage_74 hl (by decide) rfl (fun ls hl => ?_)
        obtain ⟨z15, ez15, hf⟩ := obd hf
        refine wlp_X9_damage_76 X fuel _ _ _ _ _ _ ez15 hw (lv_sub hl [1, 0, 2, 6] rfl) (fun x ex H locs ls hw hl => ?_)
        subst ex
        refine lv_iload_n X.1.1 X.1.2.1 dX9_damage_101 rfl (lv_at hl 3 rfl) ?_
        obtain ⟨y17, ey17, hf⟩ := obd hf
        have Jy17 : ∀ (H : Heap) (locs : List Loc) (ls : Array Slot), Wd D cy A s.heap h z10.2 H locs → lv_has ls 12 [(8, .long z15.2)] → W p l e ({ frames := 8, cells := 0, slots := 0, locals := 197 } : Room) s m args below meth c H locs 0 0 (QL below D cy A h args s z.1 z.2) (F0 m 113 ls [.long y17]) := by
          intro H locs ls hw hl
          refine lv_lload X.1.1 X.1.2.1 dX9_damage_113 (lv_at hl 0 rfl) ?_
          obtain ⟨n_18, hf⟩ := ogd hf
          refine lv_ldiv X.1.1 X.1.2.1 dX9_damage_115 n_18 ?_
          cases hf
          exact r_retL X hw hr hlk dX9_damage_116
        clear hf
        have hf := ey17
        clear ey17
        refine lv_if_ne (tgt := 110) X.1.1 X.1.2.1 dX9_damage_102 (by decide) (fun c_16 => ?_) (fun c_16 => ?_)
        · skip
          rw [if_pos c_16] at hf
          refine lv_ldc2 (v := (1441440000000 : Int64)) X.1.1 X.1.2.1 X.1.2.2.2.1 (X.1.2.2.2.2 _ uk_X9_201) dX9_damage_110 ?_
          cases hf
          exact Jy17 _ _ _ hw (lv_sub hl [1] rfl)
        · skip
          rw [if_neg (fun z => z c_16)] at hf
          refine lv_lload X.1.1 X.1.2.1 dX9_damage_105 (lv_at hl 2 rfl) ?_
          refine lv_goto (tgt := 113) X.1.1 X.1.2.1 dX9_damage_107 (by decide) ?_
          cases hf
          exact Jy17 _ _ _ hw (lv_sub hl [1] rfl)
      · skip
        rw [if_neg (fun z => z c_11)] at hf
        refine lv_lload X.1.1 X.1.2.1 dX9_damage_52 (lv_at hl 0 rfl) ?_
        refine lv_ldc2 (v := (1441440000000 : Int64)) X.1.1 X.1.2.1 X.1.2.2.2.1 (X.1.2.2.2.2 _ uk_X9_201) dX9_damage_54 ?_
        refine W.lcmp X.1.1 X.1.2.1 dX9_damage_57 ?_
        refine lv_if_lt (tgt := 65) X.1.1 X.1.2.1 dX9_damage_58 (by decide) (fun c_19 => ?_) (fun c_19 => ?_)
        · skip
          rw [lg_cmp_lt] at c_19
          rw [if_pos c_19] at hf
          refine lv_lconst (v := (0 : Int64)) X.1.1 X.1.2.1 dX9_damage_65 (by decide) ?_
          cases hf
          exact r_retL X hw hr hlk dX9_damage_66
        · skip
          rw [lg_cmp_lt] at c_19
          rw [if_neg c_19] at hf
          refine lv_lconst (v := (1 : Int64)) X.1.1 X.1.2.1 dX9_damage_61 (by decide) ?_
          refine lv_goto (tgt := 66) X.1.1 X.1.2.1 dX9_damage_62 (by decide) ?_
          cases hf
          exact r_retL X hw hr hlk dX9_damage_66
    · skip
      rw [if_neg c_9] at hf
      refine lv_lconst (v := (0 : Int64)) X.1.1 X.1.2.1 dX9_damage_37 (by decide) ?_
      cases hf
      exact r_retL X hw hr hlk dX9_damage_38
  clear hf
  have hf := ey7
  clear ey7
  refine lv_if_ne (tgt := 26) X.1.1 X.1.2.1 dX9_damage_5 (by decide) (fun c_2 => ?_) (fun c_2 => ?_)
  · skip
    rw [if_pos c_2] at hf
    refine lv_iconst (v := (1 : Int32)) X.1.1 X.1.2.1 dX9_damage_26 (by decide) ?_
    refine lv_goto (tgt := 31) X.1.1 X.1.2.1 dX9_damage_27 (by decide) ?_
    cases hf
    exact Jy7 _ _ _ hw (lv_sub hl [0, 1, 2, 3] rfl)
  · skip
    rw [if_neg (fun z => z c_2)] at hf
    refine lv_iload_n X.1.1 X.1.2.1 dX9_damage_8 rfl (lv_at hl 2 rfl) ?_
    refine lv_if_lt (tgt := 26) X.1.1 X.1.2.1 dX9_damage_9 (by decide) (fun c_3 => ?_) (fun c_3 => ?_)
    · skip
      rw [if_pos c_3] at hf
      refine lv_iconst (v := (1 : Int32)) X.1.1 X.1.2.1 dX9_damage_26 (by decide) ?_
      refine lv_goto (tgt := 31) X.1.1 X.1.2.1 dX9_damage_27 (by decide) ?_
      cases hf
      exact Jy7 _ _ _ hw (lv_sub hl [0, 1, 2, 3] rfl)
    · skip
      rw [if_neg c_3] at hf
      refine lv_iload_n X.1.1 X.1.2.1 dX9_damage_12 rfl (lv_at hl 2 rfl) ?_
      refine lv_iconst (v := (1 : Int32)) X.1.1 X.1.2.1 dX9_damage_13 (by decide) ?_
      refine lv_icmp_gt (tgt := 26) X.1.1 X.1.2.1 dX9_damage_14 (by decide) (fun c_4 => ?_) (fun c_4 => ?_)
      · skip
        rw [if_pos c_4] at hf
        refine lv_iconst (v := (1 : Int32)) X.1.1 X.1.2.1 dX9_damage_26 (by decide) ?_
        refine lv_goto (tgt := 31) X.1.1 X.1.2.1 dX9_damage_27 (by decide) ?_
        cases hf
        exact Jy7 _ _ _ hw (lv_sub hl [0, 1, 2, 3] rfl)
      · skip
        rw [if_neg c_4] at hf
        refine lv_iload_n X.1.1 X.1.2.1 dX9_damage_17 rfl (lv_at hl 3 rfl) ?_
        refine lv_if_lt (tgt := 26) X.1.1 X.1.2.1 dX9_damage_18 (by decide) (fun c_5 => ?_) (fun c_5 => ?_)
        · skip
          rw [if_pos c_5] at hf
          refine lv_iconst (v := (1 : Int32)) X.1.1 X.1.2.1 dX9_damage_26 (by decide) ?_
          refine lv_goto (tgt := 31) X.1.1 X.1.2.1 dX9_damage_27 (by decide) ?_
          cases hf
          exact Jy7 _ _ _ hw (lv_sub hl [0, 1, 2, 3] rfl)
        · skip
          rw [if_neg c_5] at hf
          refine lv_iload_n X.1.1 X.1.2.1 dX9_damage_21 rfl (lv_at hl 3 rfl) ?_
          refine lv_iconst (v := (2 : Int32)) X.1.1 X.1.2.1 dX9_damage_22 (by decide) ?_
          refine lv_icmp_le (tgt := 30) X.1.1 X.1.2.1 dX9_damage_23 (by decide) (fun c_6 => ?_) (fun c_6 => ?_)
          · skip
            rw [if_pos c_6] at hf
            refine lv_iconst (v := (0 : Int32)) X.1.1 X.1.2.1 dX9_damage_30 (by decide) ?_
            cases hf
            exact Jy7 _ _ _ hw (lv_sub hl [0, 1, 2, 3] rfl)
          · skip
            rw [if_neg c_6] at hf
            refine lv_iconst (v := (1 : Int32)) X.1.1 X.1.2.1 dX9_damage_26 (by decide) ?_
            refine lv_goto (tgt := 31) X.1.1 X.1.2.1 dX9_damage_27 (by decide) ?_
            cases hf
            exact Jy7 _ _ _ hw (lv_sub hl [0, 1, 2, 3] rfl)
/-! X9_part -/
def f_X9_part (h : Hs) (a0 : Nat) (p1 : Int32) (p2 : Int32) (M : Mm) : Option (Int64 × Mm) :=
  (f_X9_no h p1 M).bind fun z1 =>
  Option.bind (
    if ¬ z1 = 0 then
      some (1 : Int32)
    else
      if p2 < 0 then
        some (1 : Int32)
      else
        if (6 : Int32) < p2 then
          some (1 : Int32)
        else
          if (6 : Int32) ≤ p2 then
            some (0 : Int32)
          else
            gd (ok h a0 9) <|
            dq (zR h a0 1) fun q6 =>
            (f_X9_base h a0 p1 M).bind fun z7 =>
            gd (ok h q6 11) <|
            gd (inb (z7 + (2 : Int32)) (zN h q6)) <|
            if p2 < (zI M q6 (z7 + (2 : Int32)).toNatClampNeg) then
              some (0 : Int32)
            else
              some (1 : Int32)
    ) fun y10 =>
  gd (ok h a0 9) <|
  (f_X9_throwsIf h a0 y10 M).bind fun z11 =>
  if z11.1 = 0 then
    (f_X9_count0 h a0 p1 z11.2).bind fun z13 =>
    dq (zR h a0 20) fun q14 =>
    gd (ok h q14 12) <|
    gd (inb p2 (zN h q14)) <|
    some (zJ z13 q14 p2.toNatClampNeg, z13)
  else
    some ((0 : Int64), z11.2)
set_option maxHeartbeats 4000000 in
set_option maxRecDepth 100000 in
theorem c_X9_part {l : Launch} {D : va_G} {cy : Nat → ClassId} {h : Hs} {a0 : Nat} {p1 : Int32} {p2 : Int32} {M : Mm} {z : (Int64 × Mm)} (hf : f_X9_part h a0 p1 p2 M = some z) : CtL l D cy yX9_part (wu yX9_part cX9_part 3 (some .long)) ({ frames := 7, cells := 0, slots := 0, locals := 172 }) [.ref a0, .int p1, .int p2] h M z.1 z.2 := by
  refine enterL (cc := cX9_part) (maxL := 3) (ret := (some .long)) (by decide) (Nat.le_of_ble_eq_true rfl) ?_
  intro p e s m args below meth c A ls X hw hr hlk hl
  have hl : lv_has ls 3 [(0, .ref a0), (1, .int p1), (2, .int p2)] := hl
  unfold f_X9_part at hf
  refine lv_aload_n X.1.1 X.1.2.1 dX9_part_0 rfl (lv_at hl 0 rfl) ?_
  refine lv_iload_n X.1.1 X.1.2.1 dX9_part_1 rfl (lv_at hl 1 rfl) ?_
  obtain ⟨z1, ez1, hf⟩ := obd hf
  refine r_callSI (As := [.int p1]) (rest := [.ref a0]) X hw (c_X9_no ez1) (va_cwS 1 X.1.2.2.2.2 (guS um_X9_71 ut_X9_no un_X9 uo_X9_no) rfl rfl rfl (by decide +kernel) ⟨Nat.le_of_ble_eq_true rfl, Nat.le_of_ble_eq_true rfl⟩) rfl hl.1 rfl (Nat.le_of_ble_eq_true rfl) dX9_part_2 ⟨Nat.zero_le _, Nat.zero_le _⟩ (fun H locs hw => ?_)
  obtain ⟨y10, ey10, hf⟩ := obd hf
  have Jy10 : ∀ (H : Heap) (locs : List Loc) (ls : Array Slot), Wd D cy A s.heap h M H locs → lv_has ls 3 [(0, .ref a0), (1, .int p1), (2, .int p2)] → W p l e ({ frames := 7, cells := 0, slots := 0, locals := 172 } : Room) s m args below meth c H locs 0 0 (QL below D cy A h args s z.1 z.2) (F0 m 45 ls [.int y10, .ref a0]) := by
    intro H locs ls hw hl
    obtain ⟨g_a0, hf⟩ := ogd hf
    obtain ⟨z11, ez11, hf⟩ := obd hf
    refine r_callVI (As := [.int y10]) (rest := []) X hw (c_X9_throwsIf ez11) (cwV 1 X.1.2.2.2.2 (guV um_X9_160 ui_X9_throwsIf us_X9_throwsIf un_X9 uo_X9_throwsIf) rfl rfl rfl (by decide +kernel) ⟨Nat.le_of_ble_eq_true rfl, Nat.le_of_ble_eq_true rfl⟩) g_a0 (by decide) rfl rfl hl.1 rfl (Nat.le_of_ble_eq_true rfl) dX9_part_45 ⟨Nat.zero_le _, Nat.zero_le _⟩ (fun H locs hw => ?_)
    refine lv_if_eq (tgt := 53) X.1.1 X.1.2.1 dX9_part_48 (by decide) (fun c_12 => ?_) (fun c_12 => ?_)
    · skip
      rw [if_pos c_12] at hf
      refine lv_aload_n X.1.1 X.1.2.1 dX9_part_53 rfl (lv_at hl 0 rfl) ?_
      refine lv_iload_n X.1.1 X.1.2.1 dX9_part_54 rfl (lv_at hl 1 rfl) ?_
      obtain ⟨z13, ez13, hf⟩ := obd hf
      refine r_callVV (As := [.int p1]) (rest := []) X hw (c_X9_count0 ez13) (cwV 1 X.1.2.2.2.2 (guV um_X9_206 ui_X9_count0 us_X9_count0 un_X9 uo_X9_count0) rfl rfl rfl (by decide +kernel) ⟨Nat.le_of_ble_eq_true rfl, Nat.le_of_ble_eq_true rfl⟩) g_a0 (by decide) rfl rfl hl.1 rfl (Nat.le_of_ble_eq_true rfl) dX9_part_55 ⟨Nat.zero_le _, Nat.zero_le _⟩ (fun H locs hw => ?_)
      refine lv_aload_n X.1.1 X.1.2.1 dX9_part_58 rfl (lv_at hl 0 rfl) ?_
      obtain ⟨q14, eq14, hf⟩ := odq hf
      refine r_getq (k := 9) (j := 20) X hw rfl inX9 g_a0 rfl (by decide) (by decide) uf_X9_52 rfl dX9_part_59 eq14 ?_
      refine lv_iload_n X.1.1 X.1.2.1 dX9_part_62 rfl (lv_at hl 2 rfl) ?_
      obtain ⟨g_q14, hf⟩ := ogd hf
      obtain ⟨i_15, hf⟩ := ogd hf
      refine r_lald X hw g_q14 i_15 dX9_part_63 ?_
      cases hf
      exact r_retL X hw hr hlk dX9_part_64
    · skip
      rw [if_neg c_12] at hf
      refine lv_lconst (v := (0 : Int64)) X.1.1 X.1.2.1 dX9_part_51 (by decide) ?_
      cases hf
      exact r_retL X hw hr hlk dX9_part_52
  clear hf
  have hf := ey10
  clear ey10
  refine lv_if_ne (tgt := 40) X.1.1 X.1.2.1 dX9_part_5 (by decide) (fun c_2 => ?_) (fun c_2 => ?_)
  · skip
    rw [if_pos c_2] at hf
    refine lv_iconst (v := (1 : Int32)) X.1.1 X.1.2.1 dX9_part_40 (by decide) ?_
    refine lv_goto (tgt := 45) X.1.1 X.1.2.1 dX9_part_41 (by decide) ?_
    cases hf
    exact Jy10 _ _ _ hw (lv_sub hl [0, 1, 2] rfl)
  · skip
    rw [if_neg (fun z => z c_2)] at hf
    refine lv_iload_n X.1.1 X.1.2.1 dX9_part_8 rfl (lv_at hl 2 rfl) ?_
    refine lv_if_lt (tgt := 40) X.1.1 X.1.2.1 dX9_part_9 (by decide) (fun c_3 => ?_) (fun c_3 => ?_)
    · skip
      rw [if_pos c_3] at hf
      refine lv_iconst (v := (1 : Int32)) X.1.1 X.1.2.1 dX9_part_40 (by decide) ?_
      refine lv_goto (tgt := 45) X.1.1 X.1.2.1 dX9_part_41 (by decide) ?_
      cases hf
      exact Jy10 _ _ _ hw (lv_sub hl [0, 1, 2] rfl)
    · skip
      rw [if_neg c_3] at hf
      refine lv_iload_n X.1.1 X.1.2.1 dX9_part_12 rfl (lv_at hl 2 rfl) ?_
      refine lv_bipush (v := (6 : Int32)) X.1.1 X.1.2.1 dX9_part_13 (by decide) ?_
      refine lv_icmp_gt (tgt := 40) X.1.1 X.1.2.1 dX9_part_15 (by decide) (fun c_4 => ?_) (fun c_4 => ?_)
      · skip
        rw [if_pos c_4] at hf
        refine lv_iconst (v := (1 : Int32)) X.1.1 X.1.2.1 dX9_part_40 (by decide) ?_
        refine lv_goto (tgt := 45) X.1.1 X.1.2.1 dX9_part_41 (by decide) ?_
        cases hf
        exact Jy10 _ _ _ hw (lv_sub hl [0, 1, 2] rfl)
      · skip
        rw [if_neg c_4] at hf
        refine lv_iload_n X.1.1 X.1.2.1 dX9_part_18 rfl (lv_at hl 2 rfl) ?_
        refine lv_bipush (v := (6 : Int32)) X.1.1 X.1.2.1 dX9_part_19 (by decide) ?_
        refine lv_icmp_ge (tgt := 44) X.1.1 X.1.2.1 dX9_part_21 (by decide) (fun c_5 => ?_) (fun c_5 => ?_)
        · skip
          rw [if_pos c_5] at hf
          refine lv_iconst (v := (0 : Int32)) X.1.1 X.1.2.1 dX9_part_44 (by decide) ?_
          cases hf
          exact Jy10 _ _ _ hw (lv_sub hl [0, 1, 2] rfl)
        · skip
          rw [if_neg c_5] at hf
          refine lv_iload_n X.1.1 X.1.2.1 dX9_part_24 rfl (lv_at hl 2 rfl) ?_
          refine lv_aload_n X.1.1 X.1.2.1 dX9_part_25 rfl (lv_at hl 0 rfl) ?_
          obtain ⟨g_a0, hf⟩ := ogd hf
          obtain ⟨q6, eq6, hf⟩ := odq hf
          refine r_getq (k := 9) (j := 1) X hw rfl inX9 g_a0 rfl (by decide) (by decide) uf_X9_13 rfl dX9_part_26 eq6 ?_
          refine lv_aload_n X.1.1 X.1.2.1 dX9_part_29 rfl (lv_at hl 0 rfl) ?_
          refine lv_iload_n X.1.1 X.1.2.1 dX9_part_30 rfl (lv_at hl 1 rfl) ?_
          obtain ⟨z7, ez7, hf⟩ := obd hf
          refine r_callVI (As := [.int p1]) (rest := [.ref q6, .int p2, .ref a0]) X hw (c_X9_base ez7) (cwV 1 X.1.2.2.2.2 (guV um_X9_170 ui_X9_base us_X9_base un_X9 uo_X9_base) rfl rfl rfl (by decide +kernel) ⟨Nat.le_of_ble_eq_true rfl, Nat.le_of_ble_eq_true rfl⟩) g_a0 (by decide) rfl rfl hl.1 rfl (Nat.le_of_ble_eq_true rfl) dX9_part_31 ⟨Nat.zero_le _, Nat.zero_le _⟩ (fun H locs hw => ?_)
          refine lv_iconst (v := (2 : Int32)) X.1.1 X.1.2.1 dX9_part_34 (by decide) ?_
          refine lv_iadd X.1.1 X.1.2.1 dX9_part_35 ?_
          obtain ⟨g_q6, hf⟩ := ogd hf
          obtain ⟨i_8, hf⟩ := ogd hf
          refine r_iald X hw g_q6 i_8 dX9_part_36 ?_
          refine lv_icmp_lt (tgt := 44) X.1.1 X.1.2.1 dX9_part_37 (by decide) (fun c_9 => ?_) (fun c_9 => ?_)
          · skip
            rw [if_pos c_9] at hf
            refine lv_iconst (v := (0 : Int32)) X.1.1 X.1.2.1 dX9_part_44 (by decide) ?_
            cases hf
            exact Jy10 _ _ _ hw (lv_sub hl [0, 1, 2] rfl)
          · skip
            rw [if_neg c_9] at hf
            refine lv_iconst (v := (1 : Int32)) X.1.1 X.1.2.1 dX9_part_40 (by decide) ?_
            refine lv_goto (tgt := 45) X.1.1 X.1.2.1 dX9_part_41 (by decide) ?_
            cases hf
            exact Jy10 _ _ _ hw (lv_sub hl [0, 1, 2] rfl)
/-! X9_parts -/
def lp_X9_parts_32 (h : Hs) (w3 : Int32) (w2 : Int32) (a0 : Nat) (M : Mm) : Nat → Int32 → Int32 → Option (Int32 × Int32)
  | 0, _, _ => none
  | n + 1, v4, v5 =>
    if (7 : Int32) ≤ v5 then
      some (v4, v5)
    else
      dq (zR h a0 20) fun q7 =>
      gd (ok h q7 12) <|
      gd (inb v5 (zN h q7)) <|
      gd (inb w3 (zN h q7)) <|
      Option.bind (
        if (zJ M q7 w3.toNatClampNeg) < (zJ M q7 v5.toNatClampNeg) then
          some (1 : Int32)
        else
          gd (inb v5 (zN h q7)) <|
          gd (inb w3 (zN h q7)) <|
          if ¬ (zJ M q7 v5.toNatClampNeg) = (zJ M q7 w3.toNatClampNeg) then
            some (0 : Int32)
          else
            if w3 ≤ v5 then
              some (0 : Int32)
            else
              some (1 : Int32)
        ) fun y15 =>
      lt_ (v4 + y15) fun x16 =>
      lt_ (v5 + (1 : Int32)) fun x17 =>
      lp_X9_parts_32 h w3 w2 a0 M n x16 x17
set_option maxHeartbeats 4000000 in
set_option maxRecDepth 100000 in
theorem wlp_X9_parts_32 {l : Launch} {D : va_G} {cy : Nat → ClassId} {h : Hs} {w3 : Int32} {w2 : Int32} {a0 : Nat} {M : Mm} {p : Program} {e : Env} {s : State} {m : MethodId} {args : Array Value} {below : List Frame} {meth : Method} {c : Code} {A : Nat → Prop} (X : Cx p s m args c cX9_parts 6 gtbl RX9 D cy A) {Q : State → Prop} (g_a0 : ok h a0 9) : ∀ (n : Nat) (v4 : Int32) (v5 : Int32) (z : (Int32 × Int32)) (H : Heap) (locs : List Loc) (ls : Array Slot), lp_X9_parts_32 h w3 w2 a0 M n v4 v5 = some z → Wd D cy A s.heap h M H locs → lv_has ls 6 [(4, .int v4), (5, .int v5), (3, .int w3), (0, .ref a0), (2, .int w2)] → (∀ x : (Int32 × Int32), z = x → ∀ (H : Heap) (locs : List Loc) (ls : Array Slot), Wd D cy A s.heap h M H locs → lv_has ls 6 [(4, .int x.1), (5, .int x.2), (3, .int w3), (0, .ref a0), (2, .int w2)] → W p l e ({ frames := 7, cells := 0, slots := 0, locals := 172 } : Room) s m args below meth c H locs 0 0 Q (F0 m 95 ls [])) → W p l e ({ frames := 7, cells := 0, slots := 0, locals := 172 } : Room) s m args below meth c H locs 0 0 Q (F0 m 32 ls []) := by
  intro n
  induction n with
  | zero => intro v4 v5 z H locs ls hf hw hl kx; exact absurd hf (by intro q; cases q)
  | succ n ih =>
    intro v4 v5 z H locs ls hf hw hl kx
    unfold lp_X9_parts_32 at hf
    refine lv_iload X.1.1 X.1.2.1 dX9_parts_32 (lv_at hl 1 rfl) ?_
    refine lv_bipush (v := (7 : Int32)) X.1.1 X.1.2.1 dX9_parts_34 (by decide) ?_
    refine lv_icmp_ge (tgt := 95) X.1.1 X.1.2.1 dX9_parts_36 (by decide) (fun c_6 => ?_) (fun c_6 => ?_)
    · skip
      rw [if_pos c_6] at hf
      cases hf
      exact kx _ rfl _ _ _ hw (lv_sub hl [0, 1, 2, 3, 4] rfl)
    · skip
      rw [if_neg c_6] at hf
      refine lv_iload X.1.1 X.1.2.1 dX9_parts_39 (lv_at hl 0 rfl) ?_
      refine lv_aload_n X.1.1 X.1.2.1 dX9_parts_41 rfl (lv_at hl 3 rfl) ?_
      obtain ⟨q7, eq7, hf⟩ := odq hf
      refine r_getq (k := 9) (j := 20) X hw rfl inX9 g_a0 rfl (by decide) (by decide) uf_X9_52 rfl dX9_parts_42 eq7 ?_
      refine lv_iload X.1.1 X.1.2.1 dX9_parts_45 (lv_at hl 1 rfl) ?_
      obtain ⟨g_q7, hf⟩ := ogd hf
      obtain ⟨i_8, hf⟩ := ogd hf
      refine r_lald X hw g_q7 i_8 dX9_parts_47 ?_
      refine lv_aload_n X.1.1 X.1.2.1 dX9_parts_48 rfl (lv_at hl 3 rfl) ?_
      refine r_getq (k := 9) (j := 20) X hw rfl inX9 g_a0 rfl (by decide) (by decide) uf_X9_52 rfl dX9_parts_49 eq7 ?_
      refine lv_iload_n X.1.1 X.1.2.1 dX9_parts_52 rfl (lv_at hl 2 rfl) ?_
      obtain ⟨i_9, hf⟩ := ogd hf
      refine r_lald X hw g_q7 i_9 dX9_parts_53 ?_
      refine W.lcmp X.1.1 X.1.2.1 dX9_parts_54 ?_
      obtain ⟨y15, ey15, hf⟩ := obd hf
      have Jy15 : ∀ (H : Heap) (locs : List Loc) (ls : Array Slot), Wd D cy A s.heap h M H locs → lv_has ls 6 [(5, .int v5), (3, .int w3), (0, .ref a0), (2, .int w2)] → W p l e ({ frames := 7, cells := 0, slots := 0, locals := 172 } : Room) s m args below meth c H locs 0 0 Q (F0 m 86 ls [.int y15, .int v4]) := by
        intro H locs ls hw hl
        refine lv_iadd X.1.1 X.1.2.1 dX9_parts_86 ?_
        refine lv_topi (fun x16 ex16 => ?_)
        have hf := oltE ex16 hf
        refine lv_istore (lv' := [(4, .int x16), (5, .int v5), (3, .int w3), (0, .ref a0), (2, .int w2)]) X.1.1 X.1.2.1 dX9_parts_87 hl (by decide) rfl (fun ls hl => ?_)
        obtain ⟨x17, ex17, hf⟩ := olt hf
        refine lv_iinc (v := x17) (lv' := [(5, .int x17), (4, .int x16), (3, .int w3), (0, .ref a0), (2, .int w2)]) X.1.1 X.1.2.1 dX9_parts_89 hl (k := 1) rfl (by rw [ex17]; rfl) (by decide) rfl (fun ls hl => ?_)
        refine lv_goto (tgt := 32) X.1.1 X.1.2.1 dX9_parts_92 (by decide) ?_
        exact ih _ _ _ _ _ _ hf hw (lv_sub hl [1, 0, 2, 3, 4] rfl) kx
      clear hf
      have hf := ey15
      clear ey15
      refine lv_if_gt (tgt := 81) X.1.1 X.1.2.1 dX9_parts_55 (by decide) (fun c_10 => ?_) (fun c_10 => ?_)
      · skip
        rw [lg_cmp_gt] at c_10
        rw [if_pos c_10] at hf
        refine lv_iconst (v := (1 : Int32)) X.1.1 X.1.2.1 dX9_parts_81 (by decide) ?_
        refine lv_goto (tgt := 86) X.1.1 X.1.2.1 dX9_parts_82 (by decide) ?_
        cases hf
        exact Jy15 _ _ _ hw (lv_sub hl [1, 2, 3, 4] rfl)
      · skip
        rw [lg_cmp_gt] at c_10
        rw [if_neg c_10] at hf
        refine lv_aload_n X.1.1 X.1.2.1 dX9_parts_58 rfl (lv_at hl 3 rfl) ?_
        refine r_getq (k := 9) (j := 20) X hw rfl inX9 g_a0 rfl (by decide) (by decide) uf_X9_52 rfl dX9_parts_59 eq7 ?_
        refine lv_iload X.1.1 X.1.2.1 dX9_parts_62 (lv_at hl 1 rfl) ?_
        obtain ⟨i_11, hf⟩ := ogd hf
        refine r_lald X hw g_q7 i_11 dX9_parts_64 ?_
        refine lv_aload_n X.1.1 X.1.2.1 dX9_parts_65 rfl (lv_at hl 3 rfl) ?_
        refine r_getq (k := 9) (j := 20) X hw rfl inX9 g_a0 rfl (by decide) (by decide) uf_X9_52 rfl dX9_parts_66 eq7 ?_
        refine lv_iload_n X.1.1 X.1.2.1 dX9_parts_69 rfl (lv_at hl 2 rfl) ?_
        obtain ⟨i_12, hf⟩ := ogd hf
        refine r_lald X hw g_q7 i_12 dX9_parts_70 ?_
        refine W.lcmp X.1.1 X.1.2.1 dX9_parts_71 ?_
        refine lv_if_ne (tgt := 85) X.1.1 X.1.2.1 dX9_parts_72 (by decide) (fun c_13 => ?_) (fun c_13 => ?_)
        · skip
          rw [lg_cmp_eq] at c_13
          rw [if_pos c_13] at hf
          refine lv_iconst (v := (0 : Int32)) X.1.1 X.1.2.1 dX9_parts_85 (by decide) ?_
          cases hf
          exact Jy15 _ _ _ hw (lv_sub hl [1, 2, 3, 4] rfl)
        · skip
          rw [lg_cmp_eq] at c_13
          rw [if_neg (fun z => z c_13)] at hf
          refine lv_iload X.1.1 X.1.2.1 dX9_parts_75 (lv_at hl 1 rfl) ?_
          refine lv_iload_n X.1.1 X.1.2.1 dX9_parts_77 rfl (lv_at hl 2 rfl) ?_
          refine lv_icmp_ge (tgt := 85) X.1.1 X.1.2.1 dX9_parts_78 (by decide) (fun c_14 => ?_) (fun c_14 => ?_)
          · skip
            rw [if_pos c_14] at hf
            refine lv_iconst (v := (0 : Int32)) X.1.1 X.1.2.1 dX9_parts_85 (by decide) ?_
            cases hf
            exact Jy15 _ _ _ hw (lv_sub hl [1, 2, 3, 4] rfl)
          · skip
            rw [if_neg c_14] at hf
            refine lv_iconst (v := (1 : Int32)) X.1.1 X.1.2.1 dX9_parts_81 (by decide) ?_
            refine lv_goto (tgt := 86) X.1.1 X.1.2.1 dX9_parts_82 (by decide) ?_
            cases hf
            exact Jy15 _ _ _ hw (lv_sub hl [1, 2, 3, 4] rfl)
def lp_X9_parts_20 (h : Hs) (w2 : Int32) (a0 : Nat) (M : Mm) : Nat → Int32 → Option ((Int32 × Mm) ⊕ Int32)
  | 0, _ => none
  | n + 1, v3 =>
    if (7 : Int32) ≤ v3 then
      some (.inr v3)
    else
      (lp_X9_parts_32 h v3 w2 a0 M fuel (0 : Int32) (0 : Int32)).bind fun z18 =>
      if ¬ z18.1 = w2 then
        lt_ (v3 + (1 : Int32)) fun x20 =>
        lp_X9_parts_20 h w2 a0 M n x20
      else
        dq (zR h a0 20) fun q21 =>
        gd (ok h q21 12) <|
        gd (inb v3 (zN h q21)) <|
        if (zJ M q21 v3.toNatClampNeg) ≤ (0 : Int64) then
          lt_ (v3 + (1 : Int32)) fun x24 =>
          lp_X9_parts_20 h w2 a0 M n x24
        else
          some (.inl (v3, M))
set_option maxHeartbeats 4000000 in
set_option maxRecDepth 100000 in
theorem wlp_X9_parts_20 {l : Launch} {D : va_G} {cy : Nat → ClassId} {h : Hs} {w2 : Int32} {a0 : Nat} {M : Mm} {p : Program} {e : Env} {s : State} {m : MethodId} {args : Array Value} {below : List Frame} {meth : Method} {c : Code} {A : Nat → Prop} (X : Cx p s m args c cX9_parts 6 gtbl RX9 D cy A) {zf : (Int32 × Mm)} (hr : meth.sig.returnType = (some .int)) (hlk : meth.locks = false) (g_a0 : ok h a0 9) : ∀ (n : Nat) (v3 : Int32) (z : ((Int32 × Mm) ⊕ Int32)) (H : Heap) (locs : List Loc) (ls : Array Slot), lp_X9_parts_20 h w2 a0 M n v3 = some z → Wd D cy A s.heap h M H locs → lv_has ls 6 [(3, .int v3), (0, .ref a0), (2, .int w2)] → (∀ rr, z = .inl rr → rr = zf) → (∀ x : Int32, z = .inr x → ∀ (H : Heap) (locs : List Loc) (ls : Array Slot), Wd D cy A s.heap h M H locs → lv_has ls 6 [(3, .int x), (0, .ref a0), (2, .int w2)] → W p l e ({ frames := 7, cells := 0, slots := 0, locals := 172 } : Room) s m args below meth c H locs 0 0 (QI below D cy A h args s zf.1 zf.2) (F0 m 120 ls [])) → W p l e ({ frames := 7, cells := 0, slots := 0, locals := 172 } : Room) s m args below meth c H locs 0 0 (QI below D cy A h args s zf.1 zf.2) (F0 m 20 ls []) := by
  intro n
  induction n with
  | zero => intro v3 z H locs ls hf hw hl kr kx; exact absurd hf (by intro q; cases q)
  | succ n ih =>
    intro v3 z H locs ls hf hw hl kr kx
    unfold lp_X9_parts_20 at hf
    refine lv_iload_n X.1.1 X.1.2.1 dX9_parts_20 rfl (lv_at hl 0 rfl) ?_
    refine lv_bipush (v := (7 : Int32)) X.1.1 X.1.2.1 dX9_parts_21 (by decide) ?_
    refine lv_icmp_ge (tgt := 120) X.1.1 X.1.2.1 dX9_parts_23 (by decide) (fun c_5 => ?_) (fun c_5 => ?_)
    · skip
      rw [if_pos c_5] at hf
      cases hf
      exact kx _ rfl _ _ _ hw (lv_sub hl [0, 1, 2] rfl)
    · skip
      rw [if_neg c_5] at hf
      refine lv_iconst (v := (0 : Int32)) X.1.1 X.1.2.1 dX9_parts_26 (by decide) ?_
      refine lv_istore (lv' := [(4, .int (0 : Int32)), (3, .int v3), (0, .ref a0), (2, .int w2)]) X.1.1 X.1.2.1 dX9_parts_27 hl (by decide) rfl (fun ls hl => ?_)
      refine lv_iconst (v := (0 : Int32)) X.1.1 X.1.2.1 dX9_parts_29 (by decide) ?_
      refine lv_istore (lv' := [(5, .int (0 : Int32)), (4, .int (0 : Int32)), (3, .int v3), (0, .ref a0), (2, .int w2)]) X.1.1 X.1.2.1 dX9_parts_30 hl (by decide) rfl (fun ls hl => ?_)
      obtain ⟨z18, ez18, hf⟩ := obd hf
      refine wlp_X9_parts_32 X g_a0 fuel _ _ _ _ _ _ ez18 hw (lv_sub hl [1, 0, 2, 3, 4] rfl) (fun x ex H locs ls hw hl => ?_)
      subst ex
      refine lv_iload X.1.1 X.1.2.1 dX9_parts_95 (lv_at hl 0 rfl) ?_
      refine lv_iload_n X.1.1 X.1.2.1 dX9_parts_97 rfl (lv_at hl 4 rfl) ?_
      refine lv_icmp_ne (tgt := 114) X.1.1 X.1.2.1 dX9_parts_98 (by decide) (fun c_19 => ?_) (fun c_19 => ?_)
      · skip
        rw [if_pos c_19] at hf
        obtain ⟨x20, ex20, hf⟩ := olt hf
        refine lv_iinc (v := x20) (lv' := [(3, .int x20), (4, .int z18.1), (5, .int z18.2), (0, .ref a0), (2, .int w2)]) X.1.1 X.1.2.1 dX9_parts_114 hl (k := 2) rfl (by rw [ex20]; rfl) (by decide) rfl (fun ls hl => ?_)
        refine lv_goto (tgt := 20) X.1.1 X.1.2.1 dX9_parts_117 (by decide) ?_
        exact ih _ _ _ _ _ hf hw (lv_sub hl [0, 3, 4] rfl) kr kx
      · skip
        rw [if_neg (fun z => z c_19)] at hf
        refine lv_aload_n X.1.1 X.1.2.1 dX9_parts_101 rfl (lv_at hl 3 rfl) ?_
        obtain ⟨q21, eq21, hf⟩ := odq hf
        refine r_getq (k := 9) (j := 20) X hw rfl inX9 g_a0 rfl (by decide) (by decide) uf_X9_52 rfl dX9_parts_102 eq21 ?_
        refine lv_iload_n X.1.1 X.1.2.1 dX9_parts_105 rfl (lv_at hl 2 rfl) ?_
        obtain ⟨g_q21, hf⟩ := ogd hf
        obtain ⟨i_22, hf⟩ := ogd hf
        refine r_lald X hw g_q21 i_22 dX9_parts_106 ?_
        refine lv_lconst (v := (0 : Int64)) X.1.1 X.1.2.1 dX9_parts_107 (by decide) ?_
        refine W.lcmp X.1.1 X.1.2.1 dX9_parts_108 ?_
        refine lv_if_le (tgt := 114) X.1.1 X.1.2.1 dX9_parts_109 (by decide) (fun c_23 => ?_) (fun c_23 => ?_)
        · skip
          rw [lg_cmp_le] at c_23
          rw [if_pos c_23] at hf
          obtain ⟨x24, ex24, hf⟩ := olt hf
          refine lv_iinc (v := x24) (lv' := [(3, .int x24), (4, .int z18.1), (5, .int z18.2), (0, .ref a0), (2, .int w2)]) X.1.1 X.1.2.1 dX9_parts_114 hl (k := 2) rfl (by rw [ex24]; rfl) (by decide) rfl (fun ls hl => ?_)
          refine lv_goto (tgt := 20) X.1.1 X.1.2.1 dX9_parts_117 (by decide) ?_
          exact ih _ _ _ _ _ hf hw (lv_sub hl [0, 3, 4] rfl) kr kx
        · skip
          rw [lg_cmp_le] at c_23
          rw [if_neg c_23] at hf
          refine lv_iload_n X.1.1 X.1.2.1 dX9_parts_112 rfl (lv_at hl 2 rfl) ?_
          cases hf
          cases kr _ rfl
          exact r_retI (v := v3) X hw hr hlk rfl dX9_parts_113
def f_X9_parts (h : Hs) (a0 : Nat) (p1 : Int32) (p2 : Int32) (M : Mm) : Option (Int32 × Mm) :=
  (f_X9_no h p1 M).bind fun z1 =>
  gd (ok h a0 9) <|
  (f_X9_throwsIf h a0 z1 M).bind fun z2 =>
  if z2.1 = 0 then
    (f_X9_count0 h a0 p1 z2.2).bind fun z4 =>
    (lp_X9_parts_20 h p2 a0 z4 fuel (0 : Int32)).bind fun z25 =>
    sm z25 (fun r => some r) (fun y26 =>
      some ((-1 : Int32), z4)
      )
  else
    some ((0 : Int32), z2.2)
set_option maxHeartbeats 4000000 in
set_option maxRecDepth 100000 in
theorem c_X9_parts {l : Launch} {D : va_G} {cy : Nat → ClassId} {h : Hs} {a0 : Nat} {p1 : Int32} {p2 : Int32} {M : Mm} {z : (Int32 × Mm)} (hf : f_X9_parts h a0 p1 p2 M = some z) : CtI l D cy yX9_parts (wu yX9_parts cX9_parts 6 (some .int)) ({ frames := 7, cells := 0, slots := 0, locals := 172 }) [.ref a0, .int p1, .int p2] h M z.1 z.2 := by
  refine enterI (cc := cX9_parts) (maxL := 6) (ret := (some .int)) (by decide) (Nat.le_of_ble_eq_true rfl) ?_
  intro p e s m args below meth c A ls X hw hr hlk hl
  have hl : lv_has ls 6 [(0, .ref a0), (1, .int p1), (2, .int p2)] := hl
  unfold f_X9_parts at hf
  refine lv_aload_n X.1.1 X.1.2.1 dX9_parts_0 rfl (lv_at hl 0 rfl) ?_
  refine lv_iload_n X.1.1 X.1.2.1 dX9_parts_1 rfl (lv_at hl 1 rfl) ?_
  obtain ⟨z1, ez1, hf⟩ := obd hf
  refine r_callSI (As := [.int p1]) (rest := [.ref a0]) X hw (c_X9_no ez1) (va_cwS 1 X.1.2.2.2.2 (guS um_X9_71 ut_X9_no un_X9 uo_X9_no) rfl rfl rfl (by decide +kernel) ⟨Nat.le_of_ble_eq_true rfl, Nat.le_of_ble_eq_true rfl⟩) rfl hl.1 rfl (Nat.le_of_ble_eq_true rfl) dX9_parts_2 ⟨Nat.zero_le _, Nat.zero_le _⟩ (fun H locs hw => ?_)
  obtain ⟨g_a0, hf⟩ := ogd hf
  obtain ⟨z2, ez2, hf⟩ := obd hf
  refine r_callVI (As := [.int z1]) (rest := []) X hw (c_X9_throwsIf ez2) (cwV 1 X.1.2.2.2.2 (guV um_X9_160 ui_X9_throwsIf us_X9_throwsIf un_X9 uo_X9_throwsIf) rfl rfl rfl (by decide +kernel) ⟨Nat.le_of_ble_eq_true rfl, Nat.le_of_ble_eq_true rfl⟩) g_a0 (by decide) rfl rfl hl.1 rfl (Nat.le_of_ble_eq_true rfl) dX9_parts_5 ⟨Nat.zero_le _, Nat.zero_le _⟩ (fun H locs hw => ?_)
  refine lv_if_eq (tgt := 13) X.1.1 X.1.2.1 dX9_parts_8 (by decide) (fun c_3 => ?_) (fun c_3 => ?_)
  · skip
    rw [if_pos c_3] at hf
    refine lv_aload_n X.1.1 X.1.2.1 dX9_parts_13 rfl (lv_at hl 0 rfl) ?_
    refine lv_iload_n X.1.1 X.1.2.1 dX9_parts_14 rfl (lv_at hl 1 rfl) ?_
    obtain ⟨z4, ez4, hf⟩ := obd hf
    refine r_callVV (As := [.int p1]) (rest := []) X hw (c_X9_count0 ez4) (cwV 1 X.1.2.2.2.2 (guV um_X9_206 ui_X9_count0 us_X9_count0 un_X9 uo_X9_count0) rfl rfl rfl (by decide +kernel) ⟨Nat.le_of_ble_eq_true rfl, Nat.le_of_ble_eq_true rfl⟩) g_a0 (by decide) rfl rfl hl.1 rfl (Nat.le_of_ble_eq_true rfl) dX9_parts_15 ⟨Nat.zero_le _, Nat.zero_le _⟩ (fun H locs hw => ?_)
    refine lv_iconst (v := (0 : Int32)) X.1.1 X.1.2.1 dX9_parts_18 (by decide) ?_
    refine lv_istore_n (lv' := [(3, .int (0 : Int32)), (0, .ref a0), (1, .int p1), (2, .int p2)]) X.1.1 X.1.2.1 dX9_parts_19 rfl hl (by decide) rfl (fun ls hl => ?_)
    obtain ⟨z25, ez25, hf⟩ := obd hf
    refine wlp_X9_parts_20 X hr hlk g_a0 fuel _ _ _ _ _ ez25 hw (lv_sub hl [0, 1, 3] rfl) (fun rr er => ?_) (fun y26 ex H locs ls hw hl => ?_)
    · subst er
      exact Option.some.inj hf
    · subst ex
      dsimp only [sm] at hf
      refine lv_iconst (v := (-1 : Int32)) X.1.1 X.1.2.1 dX9_parts_120 (by decide) ?_
      cases hf
      exact r_retI (v := (-1 : Int32)) X hw hr hlk rfl dX9_parts_121
  · skip
    rw [if_neg c_3] at hf
    refine lv_iconst (v := (0 : Int32)) X.1.1 X.1.2.1 dX9_parts_11 (by decide) ?_
    cases hf
    exact r_retI (v := (0 : Int32)) X hw hr hlk rfl dX9_parts_12
/-! X9_left -/
def f_X9_left (h : Hs) (a0 : Nat) (p1 : Int32) (p2 : Int32) (M : Mm) : Option (Int32 × Mm) :=
  gd (ok h a0 9) <|
  lt_ (sI M a0 0 (0 : Int32)) fun M1 =>
  (f_X9_no h p1 M1).bind fun z2 =>
  if ¬ z2 = 0 then
    some ((-1 : Int32), M1)
  else
    if p2 < (1 : Int32) then
      some ((-1 : Int32), M1)
    else
      if p2 ≤ (100000 : Int32) then
        (f_X9_sum h a0 p1 (0 : Int32) M1).bind fun z6 =>
        if ¬ z6.1 = (0 : Int64) then
          gd (¬ z6.1 = 0) <|
          lt_ ((((((1441440000000 : Int64) * p2.toInt64) + z6.1) - (1 : Int64)) / z6.1) - p2.toInt64) fun x9 =>
          if (0 : Int64) ≤ x9 then
            if x9 ≤ (2147483647 : Int64) then
              some (x9.toInt32, z6.2)
            else
              some ((2147483647 : Int32), z6.2)
          else
            some ((0 : Int32), z6.2)
        else
          some ((-1 : Int32), z6.2)
      else
        some ((-1 : Int32), M1)
set_option maxHeartbeats 4000000 in
set_option maxRecDepth 100000 in
theorem c_X9_left {l : Launch} {D : va_G} {cy : Nat → ClassId} {h : Hs} {a0 : Nat} {p1 : Int32} {p2 : Int32} {M : Mm} {z : (Int32 × Mm)} (hf : f_X9_left h a0 p1 p2 M = some z) : CtI l D cy yX9_left (wu yX9_left cX9_left 7 (some .int)) ({ frames := 8, cells := 0, slots := 0, locals := 197 }) [.ref a0, .int p1, .int p2] h M z.1 z.2 := by
  refine enterI (cc := cX9_left) (maxL := 7) (ret := (some .int)) (by decide) (Nat.le_of_ble_eq_true rfl) ?_
  intro p e s m args below meth c A ls X hw hr hlk hl
  have hl : lv_has ls 7 [(0, .ref a0), (1, .int p1), (2, .int p2)] := hl
  unfold f_X9_left at hf
  refine lv_aload_n X.1.1 X.1.2.1 dX9_left_0 rfl (lv_at hl 0 rfl) ?_
  refine lv_iconst (v := (0 : Int32)) X.1.1 X.1.2.1 dX9_left_1 (by decide) ?_
  obtain ⟨g_a0, hf⟩ := ogd hf
  refine r_puti (k := 9) (j := 0) X hw rfl inX9 tyX9_ok nmX9 g_a0 rfl (by decide) (by decide) uf_X9_1 rfl rfl rfl rfl dX9_left_2 (fun H locs hw => ?_)
  obtain ⟨M1, eM1, hf⟩ := olt hf
  rw [← eM1] at hw
  refine lv_iload_n X.1.1 X.1.2.1 dX9_left_5 rfl (lv_at hl 1 rfl) ?_
  obtain ⟨z2, ez2, hf⟩ := obd hf
  refine r_callSI (As := [.int p1]) (rest := []) X hw (c_X9_no ez2) (va_cwS 1 X.1.2.2.2.2 (guS um_X9_71 ut_X9_no un_X9 uo_X9_no) rfl rfl rfl (by decide +kernel) ⟨Nat.le_of_ble_eq_true rfl, Nat.le_of_ble_eq_true rfl⟩) rfl hl.1 rfl (Nat.le_of_ble_eq_true rfl) dX9_left_6 ⟨Nat.zero_le _, Nat.zero_le _⟩ (fun H locs hw => ?_)
  refine lv_if_ne (tgt := 23) X.1.1 X.1.2.1 dX9_left_9 (by decide) (fun c_3 => ?_) (fun c_3 => ?_)
  · skip
    rw [if_pos c_3] at hf
    refine lv_iconst (v := (-1 : Int32)) X.1.1 X.1.2.1 dX9_left_23 (by decide) ?_
    cases hf
    exact r_retI (v := (-1 : Int32)) X hw hr hlk rfl dX9_left_24
  · skip
    rw [if_neg (fun z => z c_3)] at hf
    refine lv_iload_n X.1.1 X.1.2.1 dX9_left_12 rfl (lv_at hl 2 rfl) ?_
    refine lv_iconst (v := (1 : Int32)) X.1.1 X.1.2.1 dX9_left_13 (by decide) ?_
    refine lv_icmp_lt (tgt := 23) X.1.1 X.1.2.1 dX9_left_14 (by decide) (fun c_4 => ?_) (fun c_4 => ?_)
    · skip
      rw [if_pos c_4] at hf
      refine lv_iconst (v := (-1 : Int32)) X.1.1 X.1.2.1 dX9_left_23 (by decide) ?_
      cases hf
      exact r_retI (v := (-1 : Int32)) X hw hr hlk rfl dX9_left_24
    · skip
      rw [if_neg c_4] at hf
      refine lv_iload_n X.1.1 X.1.2.1 dX9_left_17 rfl (lv_at hl 2 rfl) ?_
      refine lv_ldc (v := (100000 : Int32)) X.1.1 X.1.2.1 X.1.2.2.2.1 (X.1.2.2.2.2 _ uc_X9_75) dX9_left_18 ?_
      refine lv_icmp_le (tgt := 25) X.1.1 X.1.2.1 dX9_left_20 (by decide) (fun c_5 => ?_) (fun c_5 => ?_)
      · skip
        rw [if_pos c_5] at hf
        refine lv_aload_n X.1.1 X.1.2.1 dX9_left_25 rfl (lv_at hl 0 rfl) ?_
        refine lv_iload_n X.1.1 X.1.2.1 dX9_left_26 rfl (lv_at hl 1 rfl) ?_
        refine lv_iconst (v := (0 : Int32)) X.1.1 X.1.2.1 dX9_left_27 (by decide) ?_
        obtain ⟨z6, ez6, hf⟩ := obd hf
        refine r_callVL (As := [.int p1, .int (0 : Int32)]) (rest := []) X hw (c_X9_sum ez6) (cwV 2 X.1.2.2.2.2 (guV um_X9_209 ui_X9_sum us_X9_sum un_X9 uo_X9_sum) rfl rfl rfl (by decide +kernel) ⟨Nat.le_of_ble_eq_true rfl, Nat.le_of_ble_eq_true rfl⟩) g_a0 (by decide) rfl rfl hl.1 rfl (Nat.le_of_ble_eq_true rfl) dX9_left_28 ⟨Nat.zero_le _, Nat.zero_le _⟩ (fun H locs hw => ?_)
        refine lv_lstore_n (lv' := [(3, .long z6.1), (0, .ref a0), (1, .int p1), (2, .int p2)]) X.1.1 X.1.2.1 dX9_left_31 rfl hl (by decide) rfl (fun ls hl => ?_)
        refine lv_lload_n X.1.1 X.1.2.1 dX9_left_32 rfl (lv_at hl 0 rfl) ?_
        refine lv_lconst (v := (0 : Int64)) X.1.1 X.1.2.1 dX9_left_33 (by decide) ?_
        refine W.lcmp X.1.1 X.1.2.1 dX9_left_34 ?_
        refine lv_if_ne (tgt := 40) X.1.1 X.1.2.1 dX9_left_35 (by decide) (fun c_7 => ?_) (fun c_7 => ?_)
        · skip
          rw [lg_cmp_eq] at c_7
          rw [if_pos c_7] at hf
          refine lv_ldc2 (v := (1441440000000 : Int64)) X.1.1 X.1.2.1 X.1.2.2.2.1 (X.1.2.2.2.2 _ uk_X9_201) dX9_left_40 ?_
          refine lv_iload_n X.1.1 X.1.2.1 dX9_left_43 rfl (lv_at hl 3 rfl) ?_
          refine lv_i2l X.1.1 X.1.2.1 dX9_left_44 rfl ?_
          refine lv_lmul X.1.1 X.1.2.1 dX9_left_45 ?_
          refine lv_lload_n X.1.1 X.1.2.1 dX9_left_46 rfl (lv_at hl 0 rfl) ?_
          refine lv_ladd X.1.1 X.1.2.1 dX9_left_47 ?_
          refine lv_lconst (v := (1 : Int64)) X.1.1 X.1.2.1 dX9_left_48 (by decide) ?_
          refine lv_lsub X.1.1 X.1.2.1 dX9_left_49 ?_
          refine lv_lload_n X.1.1 X.1.2.1 dX9_left_50 rfl (lv_at hl 0 rfl) ?_
          obtain ⟨n_8, hf⟩ := ogd hf
          refine lv_ldiv X.1.1 X.1.2.1 dX9_left_51 n_8 ?_
          refine lv_iload_n X.1.1 X.1.2.1 dX9_left_52 rfl (lv_at hl 3 rfl) ?_
          refine lv_i2l X.1.1 X.1.2.1 dX9_left_53 rfl ?_
          refine lv_lsub X.1.1 X.1.2.1 dX9_left_54 ?_
          refine lv_topl (fun x9 ex9 => ?_)
          have hf := oltE ex9 hf
          refine lv_lstore (lv' := [(5, .long x9), (3, .long z6.1), (0, .ref a0), (1, .int p1), (2, .int p2)]) X.1.1 X.1.2.1 dX9_left_55 hl (by decide) rfl (fun ls hl => ?_)
          refine lv_lload X.1.1 X.1.2.1 dX9_left_57 (lv_at hl 0 rfl) ?_
          refine lv_lconst (v := (0 : Int64)) X.1.1 X.1.2.1 dX9_left_59 (by decide) ?_
          refine W.lcmp X.1.1 X.1.2.1 dX9_left_60 ?_
          refine lv_if_ge (tgt := 68) X.1.1 X.1.2.1 dX9_left_61 (by decide) (fun c_10 => ?_) (fun c_10 => ?_)
          · skip
            rw [lg_cmp_ge] at c_10
            rw [if_pos c_10] at hf
            refine lv_lload X.1.1 X.1.2.1 dX9_left_68 (lv_at hl 0 rfl) ?_
            refine lv_ldc2 (v := (2147483647 : Int64)) X.1.1 X.1.2.1 X.1.2.2.2.1 (X.1.2.2.2.2 _ uk_X9_212) dX9_left_70 ?_
            refine W.lcmp X.1.1 X.1.2.1 dX9_left_73 ?_
            refine lv_if_le (tgt := 82) X.1.1 X.1.2.1 dX9_left_74 (by decide) (fun c_11 => ?_) (fun c_11 => ?_)
            · skip
              rw [lg_cmp_le] at c_11
              rw [if_pos c_11] at hf
              refine lv_lload X.1.1 X.1.2.1 dX9_left_82 (lv_at hl 0 rfl) ?_
              refine lv_l2i X.1.1 X.1.2.1 dX9_left_84 rfl ?_
              cases hf
              exact r_retI (v := x9.toInt32) X hw hr hlk rfl dX9_left_85
            · skip
              rw [lg_cmp_le] at c_11
              rw [if_neg c_11] at hf
              refine lv_ldc (v := (2147483647 : Int32)) X.1.1 X.1.2.1 X.1.2.2.2.1 (X.1.2.2.2.2 _ uc_X9_214) dX9_left_77 ?_
              refine lv_goto (tgt := 85) X.1.1 X.1.2.1 dX9_left_79 (by decide) ?_
              cases hf
              exact r_retI (v := (2147483647 : Int32)) X hw hr hlk rfl dX9_left_85
          · skip
            rw [lg_cmp_ge] at c_10
            rw [if_neg c_10] at hf
            refine lv_iconst (v := (0 : Int32)) X.1.1 X.1.2.1 dX9_left_64 (by decide) ?_
            refine lv_goto (tgt := 85) X.1.1 X.1.2.1 dX9_left_65 (by decide) ?_
            cases hf
            exact r_retI (v := (0 : Int32)) X hw hr hlk rfl dX9_left_85
        · skip
          rw [lg_cmp_eq] at c_7
          rw [if_neg (fun z => z c_7)] at hf
          refine lv_iconst (v := (-1 : Int32)) X.1.1 X.1.2.1 dX9_left_38 (by decide) ?_
          cases hf
          exact r_retI (v := (-1 : Int32)) X hw hr hlk rfl dX9_left_39
      · skip
        rw [if_neg c_5] at hf
        refine lv_iconst (v := (-1 : Int32)) X.1.1 X.1.2.1 dX9_left_23 (by decide) ?_
        cases hf
        exact r_retI (v := (-1 : Int32)) X hw hr hlk rfl dX9_left_24
/-! X9_grown -/
def lp_X9_grown_43 (h : Hs) (w3 : Int32) (w2 : Int32) (a0 : Nat) (q3 : Nat) (M : Mm) : Nat → Int32 → Int32 → Option (Int32 × Int32)
  | 0, _, _ => none
  | n + 1, v5, v6 =>
    if v6 < 0 then
      some (v5, v6)
    else
      gd (inb ((w3 + (1 : Int32)) + ((2 : Int32) * v6)) (zN h q3)) <|
      Option.bind (
        if (zI M q3 ((w3 + (1 : Int32)) + ((2 : Int32) * v6)).toNatClampNeg) < w2 then
          some v5
        else
          gd (inb ((w3 + (2 : Int32)) + ((2 : Int32) * v6)) (zN h q3)) <|
          lt_ (zI M q3 ((w3 + (2 : Int32)) + ((2 : Int32) * v6)).toNatClampNeg) fun x14 =>
          some x14
        ) fun y15 =>
      lt_ (v6 + (-1 : Int32)) fun x16 =>
      lp_X9_grown_43 h w3 w2 a0 q3 M n y15 x16
set_option maxHeartbeats 4000000 in
set_option maxRecDepth 100000 in
theorem wlp_X9_grown_43 {l : Launch} {D : va_G} {cy : Nat → ClassId} {h : Hs} {w3 : Int32} {w2 : Int32} {a0 : Nat} {q3 : Nat} {M : Mm} {p : Program} {e : Env} {s : State} {m : MethodId} {args : Array Value} {below : List Frame} {meth : Method} {c : Code} {A : Nat → Prop} (X : Cx p s m args c cX9_grown 7 gtbl RX9 D cy A) {Q : State → Prop} (g_a0 : ok h a0 9) (g_q3 : ok h q3 11) (eq3 : zR h a0 1 = some q3) : ∀ (n : Nat) (v5 : Int32) (v6 : Int32) (z : (Int32 × Int32)) (H : Heap) (locs : List Loc) (ls : Array Slot), lp_X9_grown_43 h w3 w2 a0 q3 M n v5 v6 = some z → Wd D cy A s.heap h M H locs → lv_has ls 7 [(5, .int v5), (6, .int v6), (3, .int w3), (0, .ref a0), (2, .int w2)] → (∀ x : (Int32 × Int32), z = x → ∀ (H : Heap) (locs : List Loc) (ls : Array Slot), Wd D cy A s.heap h M H locs → lv_has ls 7 [(5, .int x.1), (6, .int x.2), (3, .int w3), (0, .ref a0), (2, .int w2)] → W p l e ({ frames := 1, cells := 0, slots := 0, locals := 21 } : Room) s m args below meth c H locs 0 0 Q (F0 m 86 ls [])) → W p l e ({ frames := 1, cells := 0, slots := 0, locals := 21 } : Room) s m args below meth c H locs 0 0 Q (F0 m 43 ls []) := by
  intro n
  induction n with
  | zero => intro v5 v6 z H locs ls hf hw hl kx; exact absurd hf (by intro q; cases q)
  | succ n ih =>
    intro v5 v6 z H locs ls hf hw hl kx
    unfold lp_X9_grown_43 at hf
    refine lv_iload X.1.1 X.1.2.1 dX9_grown_43 (lv_at hl 1 rfl) ?_
    refine lv_if_lt (tgt := 86) X.1.1 X.1.2.1 dX9_grown_45 (by decide) (fun c_10 => ?_) (fun c_10 => ?_)
    · skip
      rw [if_pos c_10] at hf
      cases hf
      exact kx _ rfl _ _ _ hw (lv_sub hl [0, 1, 2, 3, 4] rfl)
    · skip
      rw [if_neg c_10] at hf
      refine lv_aload_n X.1.1 X.1.2.1 dX9_grown_48 rfl (lv_at hl 3 rfl) ?_
      refine r_getq (k := 9) (j := 1) X hw rfl inX9 g_a0 rfl (by decide) (by decide) uf_X9_13 rfl dX9_grown_49 eq3 ?_
      refine lv_iload_n X.1.1 X.1.2.1 dX9_grown_52 rfl (lv_at hl 2 rfl) ?_
      refine lv_iconst (v := (1 : Int32)) X.1.1 X.1.2.1 dX9_grown_53 (by decide) ?_
      refine lv_iadd X.1.1 X.1.2.1 dX9_grown_54 ?_
      refine lv_iconst (v := (2 : Int32)) X.1.1 X.1.2.1 dX9_grown_55 (by decide) ?_
      refine lv_iload X.1.1 X.1.2.1 dX9_grown_56 (lv_at hl 1 rfl) ?_
      refine lv_imul X.1.1 X.1.2.1 dX9_grown_58 ?_
      refine lv_iadd X.1.1 X.1.2.1 dX9_grown_59 ?_
      obtain ⟨i_11, hf⟩ := ogd hf
      refine r_iald X hw g_q3 i_11 dX9_grown_60 ?_
      refine lv_iload_n X.1.1 X.1.2.1 dX9_grown_61 rfl (lv_at hl 4 rfl) ?_
      obtain ⟨y15, ey15, hf⟩ := obd hf
      have Jy15 : ∀ (H : Heap) (locs : List Loc) (ls : Array Slot), Wd D cy A s.heap h M H locs → lv_has ls 7 [(5, .int y15), (6, .int v6), (3, .int w3), (0, .ref a0), (2, .int w2)] → W p l e ({ frames := 1, cells := 0, slots := 0, locals := 21 } : Room) s m args below meth c H locs 0 0 Q (F0 m 80 ls []) := by
        intro H locs ls hw hl
        obtain ⟨x16, ex16, hf⟩ := olt hf
        refine lv_iinc (v := x16) (lv' := [(6, .int x16), (5, .int y15), (3, .int w3), (0, .ref a0), (2, .int w2)]) X.1.1 X.1.2.1 dX9_grown_80 hl (k := 1) rfl (by rw [ex16]; rfl) (by decide) rfl (fun ls hl => ?_)
        refine lv_goto (tgt := 43) X.1.1 X.1.2.1 dX9_grown_83 (by decide) ?_
        exact ih _ _ _ _ _ _ hf hw (lv_sub hl [1, 0, 2, 3, 4] rfl) kx
      clear hf
      have hf := ey15
      clear ey15
      refine lv_icmp_lt (tgt := 80) X.1.1 X.1.2.1 dX9_grown_62 (by decide) (fun c_12 => ?_) (fun c_12 => ?_)
      · skip
        rw [if_pos c_12] at hf
        cases hf
        exact Jy15 _ _ _ hw (lv_sub hl [0, 1, 2, 3, 4] rfl)
      · skip
        rw [if_neg c_12] at hf
        refine lv_aload_n X.1.1 X.1.2.1 dX9_grown_65 rfl (lv_at hl 3 rfl) ?_
        refine r_getq (k := 9) (j := 1) X hw rfl inX9 g_a0 rfl (by decide) (by decide) uf_X9_13 rfl dX9_grown_66 eq3 ?_
        refine lv_iload_n X.1.1 X.1.2.1 dX9_grown_69 rfl (lv_at hl 2 rfl) ?_
        refine lv_iconst (v := (2 : Int32)) X.1.1 X.1.2.1 dX9_grown_70 (by decide) ?_
        refine lv_iadd X.1.1 X.1.2.1 dX9_grown_71 ?_
        refine lv_iconst (v := (2 : Int32)) X.1.1 X.1.2.1 dX9_grown_72 (by decide) ?_
        refine lv_iload X.1.1 X.1.2.1 dX9_grown_73 (lv_at hl 1 rfl) ?_
        refine lv_imul X.1.1 X.1.2.1 dX9_grown_75 ?_
        refine lv_iadd X.1.1 X.1.2.1 dX9_grown_76 ?_
        obtain ⟨i_13, hf⟩ := ogd hf
        refine r_iald X hw g_q3 i_13 dX9_grown_77 ?_
        refine lv_topi (fun x14 ex14 => ?_)
        have hf := oltE ex14 hf
        refine lv_istore (lv' := [(5, .int x14), (6, .int v6), (3, .int w3), (0, .ref a0), (2, .int w2)]) X.1.1 X.1.2.1 dX9_grown_78 hl (by decide) rfl (fun ls hl => ?_)
        cases hf
        exact Jy15 _ _ _ hw (lv_sub hl [0, 1, 2, 3, 4] rfl)
def f_X9_grown (h : Hs) (a0 : Nat) (p1 : Int32) (p2 : Int32) (M : Mm) : Option Int32 :=
  gd (ok h a0 9) <|
  (f_X9_base h a0 p1 M).bind fun z1 =>
  lt_ (z1 + (28 : Int32)) fun x2 =>
  dq (zR h a0 1) fun q3 =>
  gd (ok h q3 11) <|
  gd (inb x2 (zN h q3)) <|
  lt_ (zI M q3 x2.toNatClampNeg) fun x5 =>
  if ¬ x5 = 0 then
    gd (inb (x2 + ((2 : Int32) * x5)) (zN h q3)) <|
    lt_ (zI M q3 (x2 + ((2 : Int32) * x5)).toNatClampNeg) fun x8 =>
    lt_ (x5 - (1 : Int32)) fun x9 =>
    (lp_X9_grown_43 h x2 p2 a0 q3 M fuel x8 x9).bind fun z17 =>
    if (p2 + z17.1) ≤ (1000000000 : Int32) then
      some (p2 + z17.1)
    else
      some (1000000000 : Int32)
  else
    some p2
set_option maxHeartbeats 4000000 in
set_option maxRecDepth 100000 in
theorem c_X9_grown {l : Launch} {D : va_G} {cy : Nat → ClassId} {h : Hs} {a0 : Nat} {p1 : Int32} {p2 : Int32} {M : Mm} {z : Int32} (hf : f_X9_grown h a0 p1 p2 M = some z) : CtI l D cy yX9_grown (wu yX9_grown cX9_grown 7 (some .int)) ({ frames := 1, cells := 0, slots := 0, locals := 21 }) [.ref a0, .int p1, .int p2] h M z M := by
  refine enterI (cc := cX9_grown) (maxL := 7) (ret := (some .int)) (by decide) (Nat.le_of_ble_eq_true rfl) ?_
  intro p e s m args below meth c A ls X hw hr hlk hl
  have hl : lv_has ls 7 [(0, .ref a0), (1, .int p1), (2, .int p2)] := hl
  unfold f_X9_grown at hf
  refine lv_aload_n X.1.1 X.1.2.1 dX9_grown_0 rfl (lv_at hl 0 rfl) ?_
  refine lv_iload_n X.1.1 X.1.2.1 dX9_grown_1 rfl (lv_at hl 1 rfl) ?_
  obtain ⟨g_a0, hf⟩ := ogd hf
  obtain ⟨z1, ez1, hf⟩ := obd hf
  refine r_callVI (As := [.int p1]) (rest := []) X hw (c_X9_base ez1) (cwV 1 X.1.2.2.2.2 (guV um_X9_170 ui_X9_base us_X9_base un_X9 uo_X9_base) rfl rfl rfl (by decide +kernel) ⟨Nat.le_of_ble_eq_true rfl, Nat.le_of_ble_eq_true rfl⟩) g_a0 (by decide) rfl rfl hl.1 rfl (Nat.le_of_ble_eq_true rfl) dX9_grown_2 ⟨Nat.zero_le _, Nat.zero_le _⟩ (fun H locs hw => ?_)
  refine lv_bipush (v := (28 : Int32)) X.1.1 X.1.2.1 dX9_grown_5 (by decide) ?_
  refine lv_iadd X.1.1 X.1.2.1 dX9_grown_7 ?_
  refine lv_topi (fun x2 ex2 => ?_)
  have hf := oltE ex2 hf
  refine lv_istore_n (lv' := [(3, .int x2), (0, .ref a0), (1, .int p1), (2, .int p2)]) X.1.1 X.1.2.1 dX9_grown_8 rfl hl (by decide) rfl (fun ls hl => ?_)
  refine lv_aload_n X.1.1 X.1.2.1 dX9_grown_9 rfl (lv_at hl 1 rfl) ?_
  obtain ⟨q3, eq3, hf⟩ := odq hf
  refine r_getq (k := 9) (j := 1) X hw rfl inX9 g_a0 rfl (by decide) (by decide) uf_X9_13 rfl dX9_grown_10 eq3 ?_
  refine lv_iload_n X.1.1 X.1.2.1 dX9_grown_13 rfl (lv_at hl 0 rfl) ?_
  obtain ⟨g_q3, hf⟩ := ogd hf
  obtain ⟨i_4, hf⟩ := ogd hf
  refine r_iald X hw g_q3 i_4 dX9_grown_14 ?_
  refine lv_topi (fun x5 ex5 => ?_)
  have hf := oltE ex5 hf
  refine lv_istore (lv' := [(4, .int x5), (3, .int x2), (0, .ref a0), (1, .int p1), (2, .int p2)]) X.1.1 X.1.2.1 dX9_grown_15 hl (by decide) rfl (fun ls hl => ?_)
  refine lv_iload X.1.1 X.1.2.1 dX9_grown_17 (lv_at hl 0 rfl) ?_
  refine lv_if_ne (tgt := 24) X.1.1 X.1.2.1 dX9_grown_19 (by decide) (fun c_6 => ?_) (fun c_6 => ?_)
  · skip
    rw [if_pos c_6] at hf
    refine lv_aload_n X.1.1 X.1.2.1 dX9_grown_24 rfl (lv_at hl 2 rfl) ?_
    refine r_getq (k := 9) (j := 1) X hw rfl inX9 g_a0 rfl (by decide) (by decide) uf_X9_13 rfl dX9_grown_25 eq3 ?_
    refine lv_iload_n X.1.1 X.1.2.1 dX9_grown_28 rfl (lv_at hl 1 rfl) ?_
    refine lv_iconst (v := (2 : Int32)) X.1.1 X.1.2.1 dX9_grown_29 (by decide) ?_
    refine lv_iload X.1.1 X.1.2.1 dX9_grown_30 (lv_at hl 0 rfl) ?_
    refine lv_imul X.1.1 X.1.2.1 dX9_grown_32 ?_
    refine lv_iadd X.1.1 X.1.2.1 dX9_grown_33 ?_
    obtain ⟨i_7, hf⟩ := ogd hf
    refine r_iald X hw g_q3 i_7 dX9_grown_34 ?_
    refine lv_topi (fun x8 ex8 => ?_)
    have hf := oltE ex8 hf
    refine lv_istore (lv' := [(5, .int x8), (4, .int x5), (3, .int x2), (0, .ref a0), (1, .int p1), (2, .int p2)]) X.1.1 X.1.2.1 dX9_grown_35 hl (by decide) rfl (fun ls hl => ?_)
    refine lv_iload X.1.1 X.1.2.1 dX9_grown_37 (lv_at hl 1 rfl) ?_
    refine lv_iconst (v := (1 : Int32)) X.1.1 X.1.2.1 dX9_grown_39 (by decide) ?_
    refine lv_isub X.1.1 X.1.2.1 dX9_grown_40 ?_
    refine lv_topi (fun x9 ex9 => ?_)
    have hf := oltE ex9 hf
    refine lv_istore (lv' := [(6, .int x9), (5, .int x8), (4, .int x5), (3, .int x2), (0, .ref a0), (1, .int p1), (2, .int p2)]) X.1.1 X.1.2.1 dX9_grown_41 hl (by decide) rfl (fun ls hl => ?_)
    obtain ⟨z17, ez17, hf⟩ := obd hf
    refine wlp_X9_grown_43 X g_a0 g_q3 eq3 fuel _ _ _ _ _ _ ez17 hw (lv_sub hl [1, 0, 3, 4, 6] rfl) (fun x ex H locs ls hw hl => ?_)
    subst ex
    refine lv_iload_n X.1.1 X.1.2.1 dX9_grown_86 rfl (lv_at hl 4 rfl) ?_
    refine lv_iload X.1.1 X.1.2.1 dX9_grown_87 (lv_at hl 0 rfl) ?_
    refine lv_iadd X.1.1 X.1.2.1 dX9_grown_89 ?_
    refine lv_ldc (v := (1000000000 : Int32)) X.1.1 X.1.2.1 X.1.2.2.2.1 (X.1.2.2.2.2 _ uc_X9_215) dX9_grown_90 ?_
    refine lv_icmp_le (tgt := 100) X.1.1 X.1.2.1 dX9_grown_92 (by decide) (fun c_18 => ?_) (fun c_18 => ?_)
    · skip
      rw [if_pos c_18] at hf
      refine lv_iload_n X.1.1 X.1.2.1 dX9_grown_100 rfl (lv_at hl 4 rfl) ?_
      refine lv_iload X.1.1 X.1.2.1 dX9_grown_101 (lv_at hl 0 rfl) ?_
      refine lv_iadd X.1.1 X.1.2.1 dX9_grown_103 ?_
      cases hf
      exact r_retI X hw hr hlk rfl dX9_grown_104
    · skip
      rw [if_neg c_18] at hf
      refine lv_ldc (v := (1000000000 : Int32)) X.1.1 X.1.2.1 X.1.2.2.2.1 (X.1.2.2.2.2 _ uc_X9_215) dX9_grown_95 ?_
      refine lv_goto (tgt := 104) X.1.1 X.1.2.1 dX9_grown_97 (by decide) ?_
      cases hf
      exact r_retI X hw hr hlk rfl dX9_grown_104
  · skip
    rw [if_neg (fun z => z c_6)] at hf
    refine lv_iload_n X.1.1 X.1.2.1 dX9_grown_22 rfl (lv_at hl 4 rfl) ?_
    cases hf
    exact r_retI X hw hr hlk rfl dX9_grown_23
/-! X9_lengthOf -/
def lp_X9_lengthOf_61 (h : Hs) (w1 : Int32) (a0 : Nat) (q1 : Nat) (M : Mm) : Nat → Int32 → Int32 → Option (Int32 × Int32)
  | 0, _, _ => none
  | n + 1, v2, v4 =>
    if (zI M a0 16) ≤ v4 then
      some (v2, v4)
    else
      (f_X9_rangeOf h a0 v4 M).bind fun z15 =>
      (f_X9_meanOf h a0 v4 M).bind fun z16 =>
      (f_X9_effect h a0 w1 z15 z16 M).bind fun z17 =>
      (f_X9_base h a0 w1 M).bind fun z18 =>
      gd (inb (z18 + (27 : Int32)) (zN h q1)) <|
      Option.bind (
        if z17 ≤ (zI M q1 (z18 + (27 : Int32)).toNatClampNeg) then
          some v2
        else
          (f_X9_grown h a0 w1 v2 M).bind fun z21 =>
          some z21
        ) fun y22 =>
      lt_ (v4 + (1 : Int32)) fun x23 =>
      lp_X9_lengthOf_61 h w1 a0 q1 M n y22 x23
set_option maxHeartbeats 4000000 in
set_option maxRecDepth 100000 in
theorem wlp_X9_lengthOf_61 {l : Launch} {D : va_G} {cy : Nat → ClassId} {h : Hs} {w1 : Int32} {a0 : Nat} {q1 : Nat} {M : Mm} {p : Program} {e : Env} {s : State} {m : MethodId} {args : Array Value} {below : List Frame} {meth : Method} {c : Code} {A : Nat → Prop} (X : Cx p s m args c cX9_lengthOf 5 gtbl RX9 D cy A) {Q : State → Prop} (g_a0 : ok h a0 9) (g_q1 : ok h q1 11) (eq1 : zR h a0 1 = some q1) : ∀ (n : Nat) (v2 : Int32) (v4 : Int32) (z : (Int32 × Int32)) (H : Heap) (locs : List Loc) (ls : Array Slot), lp_X9_lengthOf_61 h w1 a0 q1 M n v2 v4 = some z → Wd D cy A s.heap h M H locs → lv_has ls 5 [(2, .int v2), (4, .int v4), (0, .ref a0), (1, .int w1)] → (∀ x : (Int32 × Int32), z = x → ∀ (H : Heap) (locs : List Loc) (ls : Array Slot), Wd D cy A s.heap h M H locs → lv_has ls 5 [(2, .int x.1), (4, .int x.2), (0, .ref a0), (1, .int w1)] → W p l e ({ frames := 6, cells := 0, slots := 0, locals := 142 } : Room) s m args below meth c H locs 0 0 Q (F0 m 116 ls [])) → W p l e ({ frames := 6, cells := 0, slots := 0, locals := 142 } : Room) s m args below meth c H locs 0 0 Q (F0 m 61 ls []) := by
  intro n
  induction n with
  | zero => intro v2 v4 z H locs ls hf hw hl kx; exact absurd hf (by intro q; cases q)
  | succ n ih =>
    intro v2 v4 z H locs ls hf hw hl kx
    unfold lp_X9_lengthOf_61 at hf
    refine lv_iload X.1.1 X.1.2.1 dX9_lengthOf_61 (lv_at hl 1 rfl) ?_
    refine lv_aload_n X.1.1 X.1.2.1 dX9_lengthOf_63 rfl (lv_at hl 2 rfl) ?_
    refine r_geti (k := 9) (j := 16) X hw rfl inX9 g_a0 rfl (by decide) (by decide) uf_X9_141 rfl dX9_lengthOf_64 ?_
    refine lv_icmp_ge (tgt := 116) X.1.1 X.1.2.1 dX9_lengthOf_67 (by decide) (fun c_14 => ?_) (fun c_14 => ?_)
    · skip
      rw [if_pos c_14] at hf
      cases hf
      exact kx _ rfl _ _ _ hw (lv_sub hl [0, 1, 2, 3] rfl)
    · skip
      rw [if_neg c_14] at hf
      refine lv_aload_n X.1.1 X.1.2.1 dX9_lengthOf_70 rfl (lv_at hl 2 rfl) ?_
      refine lv_iload_n X.1.1 X.1.2.1 dX9_lengthOf_71 rfl (lv_at hl 3 rfl) ?_
      refine lv_aload_n X.1.1 X.1.2.1 dX9_lengthOf_72 rfl (lv_at hl 2 rfl) ?_
      refine lv_iload X.1.1 X.1.2.1 dX9_lengthOf_73 (lv_at hl 1 rfl) ?_
      obtain ⟨z15, ez15, hf⟩ := obd hf
      refine r_callVI (As := [.int v4]) (rest := [.int w1, .ref a0]) X hw (c_X9_rangeOf ez15) (cwV 1 X.1.2.2.2.2 (guV um_X9_164 ui_X9_rangeOf us_X9_rangeOf un_X9 uo_X9_rangeOf) rfl rfl rfl (by decide +kernel) ⟨Nat.le_of_ble_eq_true rfl, Nat.le_of_ble_eq_true rfl⟩) g_a0 (by decide) rfl rfl hl.1 rfl (Nat.le_of_ble_eq_true rfl) dX9_lengthOf_75 ⟨Nat.zero_le _, Nat.zero_le _⟩ (fun H locs hw => ?_)
      refine lv_aload_n X.1.1 X.1.2.1 dX9_lengthOf_78 rfl (lv_at hl 2 rfl) ?_
      refine lv_iload X.1.1 X.1.2.1 dX9_lengthOf_79 (lv_at hl 1 rfl) ?_
      obtain ⟨z16, ez16, hf⟩ := obd hf
      refine r_callVI (As := [.int v4]) (rest := [.int z15, .int w1, .ref a0]) X hw (c_X9_meanOf ez16) (cwV 1 X.1.2.2.2.2 (guV um_X9_167 ui_X9_meanOf us_X9_meanOf un_X9 uo_X9_meanOf) rfl rfl rfl (by decide +kernel) ⟨Nat.le_of_ble_eq_true rfl, Nat.le_of_ble_eq_true rfl⟩) g_a0 (by decide) rfl rfl hl.1 rfl (Nat.le_of_ble_eq_true rfl) dX9_lengthOf_81 ⟨Nat.zero_le _, Nat.zero_le _⟩ (fun H locs hw => ?_)
      obtain ⟨z17, ez17, hf⟩ := obd hf
      refine r_callVI (As := [.int w1, .int z15, .int z16]) (rest := []) X hw (c_X9_effect ez17) (cwV 3 X.1.2.2.2.2 (guV um_X9_194 ui_X9_effect us_X9_effect un_X9 uo_X9_effect) rfl rfl rfl (by decide +kernel) ⟨Nat.le_of_ble_eq_true rfl, Nat.le_of_ble_eq_true rfl⟩) g_a0 (by decide) rfl rfl hl.1 rfl (Nat.le_of_ble_eq_true rfl) dX9_lengthOf_84 ⟨Nat.zero_le _, Nat.zero_le _⟩ (fun H locs hw => ?_)
      refine lv_aload_n X.1.1 X.1.2.1 dX9_lengthOf_87 rfl (lv_at hl 2 rfl) ?_
      refine r_getq (k := 9) (j := 1) X hw rfl inX9 g_a0 rfl (by decide) (by decide) uf_X9_13 rfl dX9_lengthOf_88 eq1 ?_
      refine lv_aload_n X.1.1 X.1.2.1 dX9_lengthOf_91 rfl (lv_at hl 2 rfl) ?_
      refine lv_iload_n X.1.1 X.1.2.1 dX9_lengthOf_92 rfl (lv_at hl 3 rfl) ?_
      obtain ⟨z18, ez18, hf⟩ := obd hf
      refine r_callVI (As := [.int w1]) (rest := [.ref q1, .int z17]) X hw (c_X9_base ez18) (cwV 1 X.1.2.2.2.2 (guV um_X9_170 ui_X9_base us_X9_base un_X9 uo_X9_base) rfl rfl rfl (by decide +kernel) ⟨Nat.le_of_ble_eq_true rfl, Nat.le_of_ble_eq_true rfl⟩) g_a0 (by decide) rfl rfl hl.1 rfl (Nat.le_of_ble_eq_true rfl) dX9_lengthOf_93 ⟨Nat.zero_le _, Nat.zero_le _⟩ (fun H locs hw => ?_)
      refine lv_bipush (v := (27 : Int32)) X.1.1 X.1.2.1 dX9_lengthOf_96 (by decide) ?_
      refine lv_iadd X.1.1 X.1.2.1 dX9_lengthOf_98 ?_
      obtain ⟨i_19, hf⟩ := ogd hf
      refine r_iald X hw g_q1 i_19 dX9_lengthOf_99 ?_
      obtain ⟨y22, ey22, hf⟩ := obd hf
      have Jy22 : ∀ (H : Heap) (locs : List Loc) (ls : Array Slot), Wd D cy A s.heap h M H locs → lv_has ls 5 [(2, .int y22), (4, .int v4), (0, .ref a0), (1, .int w1)] → W p l e ({ frames := 6, cells := 0, slots := 0, locals := 142 } : Room) s m args below meth c H locs 0 0 Q (F0 m 110 ls []) := by
        intro H locs ls hw hl
        obtain ⟨x23, ex23, hf⟩ := olt hf
        refine lv_iinc (v := x23) (lv' := [(4, .int x23), (2, .int y22), (0, .ref a0), (1, .int w1)]) X.1.1 X.1.2.1 dX9_lengthOf_110 hl (k := 1) rfl (by rw [ex23]; rfl) (by decide) rfl (fun ls hl => ?_)
        refine lv_goto (tgt := 61) X.1.1 X.1.2.1 dX9_lengthOf_113 (by decide) ?_
        exact ih _ _ _ _ _ _ hf hw (lv_sub hl [1, 0, 2, 3] rfl) kx
      clear hf
      have hf := ey22
      clear ey22
      refine lv_icmp_le (tgt := 110) X.1.1 X.1.2.1 dX9_lengthOf_100 (by decide) (fun c_20 => ?_) (fun c_20 => ?_)
      · skip
        rw [if_pos c_20] at hf
        cases hf
        exact Jy22 _ _ _ hw (lv_sub hl [0, 1, 2, 3] rfl)
      · skip
        rw [if_neg c_20] at hf
        refine lv_aload_n X.1.1 X.1.2.1 dX9_lengthOf_103 rfl (lv_at hl 2 rfl) ?_
        refine lv_iload_n X.1.1 X.1.2.1 dX9_lengthOf_104 rfl (lv_at hl 3 rfl) ?_
        refine lv_iload_n X.1.1 X.1.2.1 dX9_lengthOf_105 rfl (lv_at hl 0 rfl) ?_
        obtain ⟨z21, ez21, hf⟩ := obd hf
        refine r_callVI (As := [.int w1, .int v2]) (rest := []) X hw (c_X9_grown ez21) (cwV 2 X.1.2.2.2.2 (guV um_X9_216 ui_X9_grown us_X9_grown un_X9 uo_X9_grown) rfl rfl rfl (by decide +kernel) ⟨Nat.le_of_ble_eq_true rfl, Nat.le_of_ble_eq_true rfl⟩) g_a0 (by decide) rfl rfl hl.1 rfl (Nat.le_of_ble_eq_true rfl) dX9_lengthOf_106 ⟨Nat.zero_le _, Nat.zero_le _⟩ (fun H locs hw => ?_)
        refine lv_istore_n (lv' := [(2, .int z21), (4, .int v4), (0, .ref a0), (1, .int w1)]) X.1.1 X.1.2.1 dX9_lengthOf_109 rfl hl (by decide) rfl (fun ls hl => ?_)
        cases hf
        exact Jy22 _ _ _ hw (lv_sub hl [0, 1, 2, 3] rfl)
def f_X9_lengthOf (h : Hs) (a0 : Nat) (p1 : Int32) (M : Mm) : Option (Int32 × Mm) :=
  gd (ok h a0 9) <|
  dq (zR h a0 1) fun q1 =>
  (f_X9_base h a0 p1 M).bind fun z2 =>
  gd (ok h q1 11) <|
  gd (inb (z2 + (26 : Int32)) (zN h q1)) <|
  lt_ (zI M q1 (z2 + (26 : Int32)).toNatClampNeg) fun x4 =>
  (f_X9_base h a0 p1 M).bind fun z5 =>
  gd (inb (z5 + (0 : Int32)) (zN h q1)) <|
  lt_ (zI M q1 (z5 + (0 : Int32)).toNatClampNeg) fun x7 =>
  if x4 < 0 then
    some (x4, M)
  else
    (f_X9_isGauge h a0 x7 M).bind fun z9 =>
    if ¬ z9 = 0 then
      (f_X9_base h a0 p1 M).bind fun z11 =>
      gd (inb (z11 + (1 : Int32)) (zN h q1)) <|
      (f_X9_look h a0 x7 (zI M q1 (z11 + (1 : Int32)).toNatClampNeg) M).bind fun z13 =>
      (lp_X9_lengthOf_61 h p1 a0 q1 z13 fuel x4 (0 : Int32)).bind fun z24 =>
      some (z24.1, z13)
    else
      some (x4, M)
set_option maxHeartbeats 4000000 in
set_option maxRecDepth 100000 in
theorem c_X9_lengthOf {l : Launch} {D : va_G} {cy : Nat → ClassId} {h : Hs} {a0 : Nat} {p1 : Int32} {M : Mm} {z : (Int32 × Mm)} (hf : f_X9_lengthOf h a0 p1 M = some z) : CtI l D cy yX9_lengthOf (wu yX9_lengthOf cX9_lengthOf 5 (some .int)) ({ frames := 6, cells := 0, slots := 0, locals := 142 }) [.ref a0, .int p1] h M z.1 z.2 := by
  refine enterI (cc := cX9_lengthOf) (maxL := 5) (ret := (some .int)) (by decide) (Nat.le_of_ble_eq_true rfl) ?_
  intro p e s m args below meth c A ls X hw hr hlk hl
  have hl : lv_has ls 5 [(0, .ref a0), (1, .int p1)] := hl
  unfold f_X9_lengthOf at hf
  refine lv_aload_n X.1.1 X.1.2.1 dX9_lengthOf_0 rfl (lv_at hl 0 rfl) ?_
  obtain ⟨g_a0, hf⟩ := ogd hf
  obtain ⟨q1, eq1, hf⟩ := odq hf
  refine r_getq (k := 9) (j := 1) X hw rfl inX9 g_a0 rfl (by decide) (by decide) uf_X9_13 rfl dX9_lengthOf_1 eq1 ?_
  refine lv_aload_n X.1.1 X.1.2.1 dX9_lengthOf_4 rfl (lv_at hl 0 rfl) ?_
  refine lv_iload_n X.1.1 X.1.2.1 dX9_lengthOf_5 rfl (lv_at hl 1 rfl) ?_
  obtain ⟨z2, ez2, hf⟩ := obd hf
  refine r_callVI (As := [.int p1]) (rest := [.ref q1]) X hw (c_X9_base ez2) (cwV 1 X.1.2.2.2.2 (guV um_X9_170 ui_X9_base us_X9_base un_X9 uo_X9_base) rfl rfl rfl (by decide +kernel) ⟨Nat.le_of_ble_eq_true rfl, Nat.le_of_ble_eq_true rfl⟩) g_a0 (by decide) rfl rfl hl.1 rfl (Nat.le_of_ble_eq_true rfl) dX9_lengthOf_6 ⟨Nat.zero_le _, Nat.zero_le _⟩ (fun H locs hw => ?_)
  refine lv_bipush (v := (26 : Int32)) X.1.1 X.1.2.1 dX9_lengthOf_9 (by decide) ?_
  refine lv_iadd X.1.1 X.1.2.1 dX9_lengthOf_11 ?_
  obtain ⟨g_q1, hf⟩ := ogd hf
  obtain ⟨i_3, hf⟩ := ogd hf
  refine r_iald X hw g_q1 i_3 dX9_lengthOf_12 ?_
  refine lv_topi (fun x4 ex4 => ?_)
  have hf := oltE ex4 hf
  refine lv_istore_n (lv' := [(2, .int x4), (0, .ref a0), (1, .int p1)]) X.1.1 X.1.2.1 dX9_lengthOf_13 rfl hl (by decide) rfl (fun ls hl => ?_)
  refine lv_aload_n X.1.1 X.1.2.1 dX9_lengthOf_14 rfl (lv_at hl 1 rfl) ?_
  refine r_getq (k := 9) (j := 1) X hw rfl inX9 g_a0 rfl (by decide) (by decide) uf_X9_13 rfl dX9_lengthOf_15 eq1 ?_
  refine lv_aload_n X.1.1 X.1.2.1 dX9_lengthOf_18 rfl (lv_at hl 1 rfl) ?_
  refine lv_iload_n X.1.1 X.1.2.1 dX9_lengthOf_19 rfl (lv_at hl 2 rfl) ?_
  obtain ⟨z5, ez5, hf⟩ := obd hf
  refine r_callVI (As := [.int p1]) (rest := [.ref q1]) X hw (c_X9_base ez5) (cwV 1 X.1.2.2.2.2 (guV um_X9_170 ui_X9_base us_X9_base un_X9 uo_X9_base) rfl rfl rfl (by decide +kernel) ⟨Nat.le_of_ble_eq_true rfl, Nat.le_of_ble_eq_true rfl⟩) g_a0 (by decide) rfl rfl hl.1 rfl (Nat.le_of_ble_eq_true rfl) dX9_lengthOf_20 ⟨Nat.zero_le _, Nat.zero_le _⟩ (fun H locs hw => ?_)
  refine lv_iconst (v := (0 : Int32)) X.1.1 X.1.2.1 dX9_lengthOf_23 (by decide) ?_
  refine lv_iadd X.1.1 X.1.2.1 dX9_lengthOf_24 ?_
  obtain ⟨i_6, hf⟩ := ogd hf
  refine r_iald X hw g_q1 i_6 dX9_lengthOf_25 ?_
  refine lv_topi (fun x7 ex7 => ?_)
  have hf := oltE ex7 hf
  refine lv_istore_n (lv' := [(3, .int x7), (2, .int x4), (0, .ref a0), (1, .int p1)]) X.1.1 X.1.2.1 dX9_lengthOf_26 rfl hl (by decide) rfl (fun ls hl => ?_)
  refine lv_iload_n X.1.1 X.1.2.1 dX9_lengthOf_27 rfl (lv_at hl 1 rfl) ?_
  refine lv_if_lt (tgt := 39) X.1.1 X.1.2.1 dX9_lengthOf_28 (by decide) (fun c_8 => ?_) (fun c_8 => ?_)
  · skip
    rw [if_pos c_8] at hf
    refine lv_iload_n X.1.1 X.1.2.1 dX9_lengthOf_39 rfl (lv_at hl 1 rfl) ?_
    cases hf
    exact r_retI (v := x4) X hw hr hlk rfl dX9_lengthOf_40
  · skip
    rw [if_neg c_8] at hf
    refine lv_aload_n X.1.1 X.1.2.1 dX9_lengthOf_31 rfl (lv_at hl 2 rfl) ?_
    refine lv_iload_n X.1.1 X.1.2.1 dX9_lengthOf_32 rfl (lv_at hl 0 rfl) ?_
    obtain ⟨z9, ez9, hf⟩ := obd hf
    refine r_callVI (As := [.int x7]) (rest := []) X hw (c_X9_isGauge ez9) (cwV 1 X.1.2.2.2.2 (guV um_X9_154 ui_X9_isGauge us_X9_isGauge un_X9 uo_X9_isGauge) rfl rfl rfl (by decide +kernel) ⟨Nat.le_of_ble_eq_true rfl, Nat.le_of_ble_eq_true rfl⟩) g_a0 (by decide) rfl rfl hl.1 rfl (Nat.le_of_ble_eq_true rfl) dX9_lengthOf_33 ⟨Nat.zero_le _, Nat.zero_le _⟩ (fun H locs hw => ?_)
    refine lv_if_ne (tgt := 41) X.1.1 X.1.2.1 dX9_lengthOf_36 (by decide) (fun c_10 => ?_) (fun c_10 => ?_)
    · skip
      rw [if_pos c_10] at hf
      refine lv_aload_n X.1.1 X.1.2.1 dX9_lengthOf_41 rfl (lv_at hl 2 rfl) ?_
      refine lv_iload_n X.1.1 X.1.2.1 dX9_lengthOf_42 rfl (lv_at hl 0 rfl) ?_
      refine lv_aload_n X.1.1 X.1.2.1 dX9_lengthOf_43 rfl (lv_at hl 2 rfl) ?_
      refine r_getq (k := 9) (j := 1) X hw rfl inX9 g_a0 rfl (by decide) (by decide) uf_X9_13 rfl dX9_lengthOf_44 eq1 ?_
      refine lv_aload_n X.1.1 X.1.2.1 dX9_lengthOf_47 rfl (lv_at hl 2 rfl) ?_
      refine lv_iload_n X.1.1 X.1.2.1 dX9_lengthOf_48 rfl (lv_at hl 3 rfl) ?_
      obtain ⟨z11, ez11, hf⟩ := obd hf
      refine r_callVI (As := [.int p1]) (rest := [.ref q1, .int x7, .ref a0]) X hw (c_X9_base ez11) (cwV 1 X.1.2.2.2.2 (guV um_X9_170 ui_X9_base us_X9_base un_X9 uo_X9_base) rfl rfl rfl (by decide +kernel) ⟨Nat.le_of_ble_eq_true rfl, Nat.le_of_ble_eq_true rfl⟩) g_a0 (by decide) rfl rfl hl.1 rfl (Nat.le_of_ble_eq_true rfl) dX9_lengthOf_49 ⟨Nat.zero_le _, Nat.zero_le _⟩ (fun H locs hw => ?_)
      refine lv_iconst (v := (1 : Int32)) X.1.1 X.1.2.1 dX9_lengthOf_52 (by decide) ?_
      refine lv_iadd X.1.1 X.1.2.1 dX9_lengthOf_53 ?_
      obtain ⟨i_12, hf⟩ := ogd hf
      refine r_iald X hw g_q1 i_12 dX9_lengthOf_54 ?_
      obtain ⟨z13, ez13, hf⟩ := obd hf
      refine r_callVV (As := [.int x7, .int (zI M q1 (z11 + (1 : Int32)).toNatClampNeg)]) (rest := []) X hw (c_X9_look ez13) (cwV 2 X.1.2.2.2.2 (guV um_X9_157 ui_X9_look us_X9_look un_X9 uo_X9_look) rfl rfl rfl (by decide +kernel) ⟨Nat.le_of_ble_eq_true rfl, Nat.le_of_ble_eq_true rfl⟩) g_a0 (by decide) rfl rfl hl.1 rfl (Nat.le_of_ble_eq_true rfl) dX9_lengthOf_55 ⟨Nat.zero_le _, Nat.zero_le _⟩ (fun H locs hw => ?_)
      refine lv_iconst (v := (0 : Int32)) X.1.1 X.1.2.1 dX9_lengthOf_58 (by decide) ?_
      refine lv_istore (lv' := [(4, .int (0 : Int32)), (3, .int x7), (2, .int x4), (0, .ref a0), (1, .int p1)]) X.1.1 X.1.2.1 dX9_lengthOf_59 hl (by decide) rfl (fun ls hl => ?_)
      obtain ⟨z24, ez24, hf⟩ := obd hf
      refine wlp_X9_lengthOf_61 X g_a0 g_q1 eq1 fuel _ _ _ _ _ _ ez24 hw (lv_sub hl [2, 0, 3, 4] rfl) (fun x ex H locs ls hw hl => ?_)
      subst ex
      refine lv_iload_n X.1.1 X.1.2.1 dX9_lengthOf_116 rfl (lv_at hl 0 rfl) ?_
      cases hf
      exact r_retI (v := z24.1) X hw hr hlk rfl dX9_lengthOf_117
    · skip
      rw [if_neg (fun z => z c_10)] at hf
      refine lv_iload_n X.1.1 X.1.2.1 dX9_lengthOf_39 rfl (lv_at hl 1 rfl) ?_
      cases hf
      exact r_retI (v := x4) X hw hr hlk rfl dX9_lengthOf_40
/-! X9_length -/
def f_X9_length (h : Hs) (a0 : Nat) (p1 : Int32) (M : Mm) : Option (Int32 × Mm) :=
  gd (ok h a0 9) <|
  lt_ (sI M a0 0 (0 : Int32)) fun M1 =>
  (f_X9_no h p1 M1).bind fun z2 =>
  if z2 = 0 then
    (f_X9_lengthOf h a0 p1 M1).bind fun z4 =>
    some (z4.1, z4.2)
  else
    some ((-1 : Int32), M1)
set_option maxHeartbeats 4000000 in
set_option maxRecDepth 100000 in
theorem c_X9_length {l : Launch} {D : va_G} {cy : Nat → ClassId} {h : Hs} {a0 : Nat} {p1 : Int32} {M : Mm} {z : (Int32 × Mm)} (hf : f_X9_length h a0 p1 M = some z) : CtI l D cy yX9_length (wu yX9_length cX9_length 2 (some .int)) ({ frames := 7, cells := 0, slots := 0, locals := 166 }) [.ref a0, .int p1] h M z.1 z.2 := by
  refine enterI (cc := cX9_length) (maxL := 2) (ret := (some .int)) (by decide) (Nat.le_of_ble_eq_true rfl) ?_
  intro p e s m args below meth c A ls X hw hr hlk hl
  have hl : lv_has ls 2 [(0, .ref a0), (1, .int p1)] := hl
  unfold f_X9_length at hf
  refine lv_aload_n X.1.1 X.1.2.1 dX9_length_0 rfl (lv_at hl 0 rfl) ?_
  refine lv_iconst (v := (0 : Int32)) X.1.1 X.1.2.1 dX9_length_1 (by decide) ?_
  obtain ⟨g_a0, hf⟩ := ogd hf
  refine r_puti (k := 9) (j := 0) X hw rfl inX9 tyX9_ok nmX9 g_a0 rfl (by decide) (by decide) uf_X9_1 rfl rfl rfl rfl dX9_length_2 (fun H locs hw => ?_)
  obtain ⟨M1, eM1, hf⟩ := olt hf
  rw [← eM1] at hw
  refine lv_iload_n X.1.1 X.1.2.1 dX9_length_5 rfl (lv_at hl 1 rfl) ?_
  obtain ⟨z2, ez2, hf⟩ := obd hf
  refine r_callSI (As := [.int p1]) (rest := []) X hw (c_X9_no ez2) (va_cwS 1 X.1.2.2.2.2 (guS um_X9_71 ut_X9_no un_X9 uo_X9_no) rfl rfl rfl (by decide +kernel) ⟨Nat.le_of_ble_eq_true rfl, Nat.le_of_ble_eq_true rfl⟩) rfl hl.1 rfl (Nat.le_of_ble_eq_true rfl) dX9_length_6 ⟨Nat.zero_le _, Nat.zero_le _⟩ (fun H locs hw => ?_)
  refine lv_if_eq (tgt := 16) X.1.1 X.1.2.1 dX9_length_9 (by decide) (fun c_3 => ?_) (fun c_3 => ?_)
  · skip
    rw [if_pos c_3] at hf
    refine lv_aload_n X.1.1 X.1.2.1 dX9_length_16 rfl (lv_at hl 0 rfl) ?_
    refine lv_iload_n X.1.1 X.1.2.1 dX9_length_17 rfl (lv_at hl 1 rfl) ?_
    obtain ⟨z4, ez4, hf⟩ := obd hf
    refine r_callVI (As := [.int p1]) (rest := []) X hw (c_X9_lengthOf ez4) (cwV 1 X.1.2.2.2.2 (guV um_X9_219 ui_X9_lengthOf us_X9_lengthOf un_X9 uo_X9_lengthOf) rfl rfl rfl (by decide +kernel) ⟨Nat.le_of_ble_eq_true rfl, Nat.le_of_ble_eq_true rfl⟩) g_a0 (by decide) rfl rfl hl.1 rfl (Nat.le_of_ble_eq_true rfl) dX9_length_18 ⟨Nat.zero_le _, Nat.zero_le _⟩ (fun H locs hw => ?_)
    cases hf
    exact r_retI (v := z4.1) X hw hr hlk rfl dX9_length_21
  · skip
    rw [if_neg c_3] at hf
    refine lv_iconst (v := (-1 : Int32)) X.1.1 X.1.2.1 dX9_length_12 (by decide) ?_
    refine lv_goto (tgt := 21) X.1.1 X.1.2.1 dX9_length_13 (by decide) ?_
    cases hf
    exact r_retI (v := (-1 : Int32)) X hw hr hlk rfl dX9_length_21
/-! X9_cyclesTo -/
def lp_X9_cyclesTo_6 (h : Hs) (w1 : Int32) (w3 : Int32) (a0 : Nat) (M : Mm) : Nat → Int32 → Int32 → Option (Int32 × Int32)
  | 0, _, _ => none
  | n + 1, v4, v5 =>
    if w3 ≤ v4 then
      some (v4, v5)
    else
      if (100000 : Int32) ≤ v5 then
        some (v4, v5)
      else
        gd (ok h a0 9) <|
        (f_X9_grown h a0 w1 v4 M).bind fun z3 =>
        lt_ (v5 + (1 : Int32)) fun x4 =>
        lp_X9_cyclesTo_6 h w1 w3 a0 M n z3 x4
set_option maxHeartbeats 4000000 in
set_option maxRecDepth 100000 in
theorem wlp_X9_cyclesTo_6 {l : Launch} {D : va_G} {cy : Nat → ClassId} {h : Hs} {w1 : Int32} {w3 : Int32} {a0 : Nat} {M : Mm} {p : Program} {e : Env} {s : State} {m : MethodId} {args : Array Value} {below : List Frame} {meth : Method} {c : Code} {A : Nat → Prop} (X : Cx p s m args c cX9_cyclesTo 6 gtbl RX9 D cy A) {Q : State → Prop} : ∀ (n : Nat) (v4 : Int32) (v5 : Int32) (z : (Int32 × Int32)) (H : Heap) (locs : List Loc) (ls : Array Slot), lp_X9_cyclesTo_6 h w1 w3 a0 M n v4 v5 = some z → Wd D cy A s.heap h M H locs → lv_has ls 6 [(4, .int v4), (5, .int v5), (0, .ref a0), (1, .int w1), (3, .int w3)] → (∀ x : (Int32 × Int32), z = x → ∀ (H : Heap) (locs : List Loc) (ls : Array Slot), Wd D cy A s.heap h M H locs → lv_has ls 6 [(4, .int x.1), (5, .int x.2), (0, .ref a0), (1, .int w1), (3, .int w3)] → W p l e ({ frames := 2, cells := 0, slots := 0, locals := 47 } : Room) s m args below meth c H locs 0 0 Q (F0 m 34 ls [])) → W p l e ({ frames := 2, cells := 0, slots := 0, locals := 47 } : Room) s m args below meth c H locs 0 0 Q (F0 m 6 ls []) := by
  intro n
  induction n with
  | zero => intro v4 v5 z H locs ls hf hw hl kx; exact absurd hf (by intro q; cases q)
  | succ n ih =>
    intro v4 v5 z H locs ls hf hw hl kx
    unfold lp_X9_cyclesTo_6 at hf
    refine lv_iload X.1.1 X.1.2.1 dX9_cyclesTo_6 (lv_at hl 0 rfl) ?_
    refine lv_iload_n X.1.1 X.1.2.1 dX9_cyclesTo_8 rfl (lv_at hl 4 rfl) ?_
    refine lv_icmp_ge (tgt := 34) X.1.1 X.1.2.1 dX9_cyclesTo_9 (by decide) (fun c_1 => ?_) (fun c_1 => ?_)
    · skip
      rw [if_pos c_1] at hf
      cases hf
      exact kx _ rfl _ _ _ hw (lv_sub hl [0, 1, 2, 3, 4] rfl)
    · skip
      rw [if_neg c_1] at hf
      refine lv_iload X.1.1 X.1.2.1 dX9_cyclesTo_12 (lv_at hl 1 rfl) ?_
      refine lv_ldc (v := (100000 : Int32)) X.1.1 X.1.2.1 X.1.2.2.2.1 (X.1.2.2.2.2 _ uc_X9_75) dX9_cyclesTo_14 ?_
      refine lv_icmp_ge (tgt := 34) X.1.1 X.1.2.1 dX9_cyclesTo_16 (by decide) (fun c_2 => ?_) (fun c_2 => ?_)
      · skip
        rw [if_pos c_2] at hf
        cases hf
        exact kx _ rfl _ _ _ hw (lv_sub hl [0, 1, 2, 3, 4] rfl)
      · skip
        rw [if_neg c_2] at hf
        refine lv_aload_n X.1.1 X.1.2.1 dX9_cyclesTo_19 rfl (lv_at hl 2 rfl) ?_
        refine lv_iload_n X.1.1 X.1.2.1 dX9_cyclesTo_20 rfl (lv_at hl 3 rfl) ?_
        refine lv_iload X.1.1 X.1.2.1 dX9_cyclesTo_21 (lv_at hl 0 rfl) ?_
        obtain ⟨g_a0, hf⟩ := ogd hf
        obtain ⟨z3, ez3, hf⟩ := obd hf
        refine r_callVI (As := [.int w1, .int v4]) (rest := []) X hw (c_X9_grown ez3) (cwV 2 X.1.2.2.2.2 (guV um_X9_216 ui_X9_grown us_X9_grown un_X9 uo_X9_grown) rfl rfl rfl (by decide +kernel) ⟨Nat.le_of_ble_eq_true rfl, Nat.le_of_ble_eq_true rfl⟩) g_a0 (by decide) rfl rfl hl.1 rfl (Nat.le_of_ble_eq_true rfl) dX9_cyclesTo_23 ⟨Nat.zero_le _, Nat.zero_le _⟩ (fun H locs hw => ?_)
        refine lv_istore (lv' := [(4, .int z3), (5, .int v5), (0, .ref a0), (1, .int w1), (3, .int w3)]) X.1.1 X.1.2.1 dX9_cyclesTo_26 hl (by decide) rfl (fun ls hl => ?_)
        obtain ⟨x4, ex4, hf⟩ := olt hf
        refine lv_iinc (v := x4) (lv' := [(5, .int x4), (4, .int z3), (0, .ref a0), (1, .int w1), (3, .int w3)]) X.1.1 X.1.2.1 dX9_cyclesTo_28 hl (k := 1) rfl (by rw [ex4]; rfl) (by decide) rfl (fun ls hl => ?_)
        refine lv_goto (tgt := 6) X.1.1 X.1.2.1 dX9_cyclesTo_31 (by decide) ?_
        exact ih _ _ _ _ _ _ hf hw (lv_sub hl [1, 0, 2, 3, 4] rfl) kx
def f_X9_cyclesTo (h : Hs) (a0 : Nat) (p1 : Int32) (p2 : Int32) (p3 : Int32) (M : Mm) : Option Int32 :=
  (lp_X9_cyclesTo_6 h p1 p3 a0 M fuel p2 (0 : Int32)).bind fun z5 =>
  if p3 ≤ z5.1 then
    some z5.2
  else
    some (-1 : Int32)
set_option maxHeartbeats 4000000 in
set_option maxRecDepth 100000 in
theorem c_X9_cyclesTo {l : Launch} {D : va_G} {cy : Nat → ClassId} {h : Hs} {a0 : Nat} {p1 : Int32} {p2 : Int32} {p3 : Int32} {M : Mm} {z : Int32} (hf : f_X9_cyclesTo h a0 p1 p2 p3 M = some z) : CtI l D cy yX9_cyclesTo (wu yX9_cyclesTo cX9_cyclesTo 6 (some .int)) ({ frames := 2, cells := 0, slots := 0, locals := 47 }) [.ref a0, .int p1, .int p2, .int p3] h M z M := by
  refine enterI (cc := cX9_cyclesTo) (maxL := 6) (ret := (some .int)) (by decide) (Nat.le_of_ble_eq_true rfl) ?_
  intro p e s m args below meth c A ls X hw hr hlk hl
  have hl : lv_has ls 6 [(0, .ref a0), (1, .int p1), (2, .int p2), (3, .int p3)] := hl
  unfold f_X9_cyclesTo at hf
  refine lv_iload_n X.1.1 X.1.2.1 dX9_cyclesTo_0 rfl (lv_at hl 2 rfl) ?_
  refine lv_istore (lv' := [(4, .int p2), (0, .ref a0), (1, .int p1), (2, .int p2), (3, .int p3)]) X.1.1 X.1.2.1 dX9_cyclesTo_1 hl (by decide) rfl (fun ls hl => ?_)
  refine lv_iconst (v := (0 : Int32)) X.1.1 X.1.2.1 dX9_cyclesTo_3 (by decide) ?_
  refine lv_istore (lv' := [(5, .int (0 : Int32)), (4, .int p2), (0, .ref a0), (1, .int p1), (2, .int p2), (3, .int p3)]) X.1.1 X.1.2.1 dX9_cyclesTo_4 hl (by decide) rfl (fun ls hl => ?_)
  obtain ⟨z5, ez5, hf⟩ := obd hf
  refine wlp_X9_cyclesTo_6 X fuel _ _ _ _ _ _ ez5 hw (lv_sub hl [1, 0, 2, 3, 5] rfl) (fun x ex H locs ls hw hl => ?_)
  subst ex
  refine lv_iload X.1.1 X.1.2.1 dX9_cyclesTo_34 (lv_at hl 0 rfl) ?_
  refine lv_iload_n X.1.1 X.1.2.1 dX9_cyclesTo_36 rfl (lv_at hl 4 rfl) ?_
  refine lv_icmp_ge (tgt := 44) X.1.1 X.1.2.1 dX9_cyclesTo_37 (by decide) (fun c_6 => ?_) (fun c_6 => ?_)
  · skip
    rw [if_pos c_6] at hf
    refine lv_iload X.1.1 X.1.2.1 dX9_cyclesTo_44 (lv_at hl 1 rfl) ?_
    cases hf
    exact r_retI X hw hr hlk rfl dX9_cyclesTo_46
  · skip
    rw [if_neg c_6] at hf
    refine lv_iconst (v := (-1 : Int32)) X.1.1 X.1.2.1 dX9_cyclesTo_40 (by decide) ?_
    refine lv_goto (tgt := 46) X.1.1 X.1.2.1 dX9_cyclesTo_41 (by decide) ?_
    cases hf
    exact r_retI X hw hr hlk rfl dX9_cyclesTo_46
/-! X9_due -/
def f_X9_due (h : Hs) (a0 : Nat) (p1 : Int32) (p2 : Int32) (p3 : Int32) (p4 : Int32) (p5 : Int32) (M : Mm) : Option (Int32 × Mm) :=
  gd (ok h a0 9) <|
  lt_ (sI M a0 0 (0 : Int32)) fun M1 =>
  (f_X9_no h p1 M1).bind fun z2 =>
  if ¬ z2 = 0 then
    some ((-1 : Int32), M1)
  else
    if p2 < (1 : Int32) then
      some ((-1 : Int32), M1)
    else
      if (1000 : Int32) < p2 then
        some ((-1 : Int32), M1)
      else
        if p3 < 0 then
          some ((-1 : Int32), M1)
        else
          if p4 < 0 then
            some ((-1 : Int32), M1)
          else
            if p4 < p3 then
              some ((-1 : Int32), M1)
            else
              if p5 < (1 : Int32) then
                some ((-1 : Int32), M1)
              else
                if p5 ≤ (10000 : Int32) then
                  (f_X9_lengthOf h a0 p1 M1).bind fun z11 =>
                  if 0 ≤ z11.1 then
                    (f_X9_cyclesTo h a0 p1 z11.1 p4 z11.2).bind fun z13 =>
                    if 0 ≤ z13 then
                      (f_X9_cyclesTo h a0 p1 z11.1 p3 z11.2).bind fun z15 =>
                      gd (¬ p2 = 0) <|
                      lt_ (((z15 + p2) - (1 : Int32)) / p2) fun x17 =>
                      gd (¬ p2 = 0) <|
                      lt_ (((z13 + p2) - (1 : Int32)) / p2) fun x19 =>
                      lt_ ((x19 - p5) - (1 : Int32)) fun x20 =>
                      if x17 ≤ x20 then
                        some (x20, z11.2)
                      else
                        some ((-1 : Int32), z11.2)
                    else
                      some ((-1 : Int32), z11.2)
                  else
                    some ((-1 : Int32), z11.2)
                else
                  some ((-1 : Int32), M1)
set_option maxHeartbeats 4000000 in
set_option maxRecDepth 100000 in
theorem c_X9_due {l : Launch} {D : va_G} {cy : Nat → ClassId} {h : Hs} {a0 : Nat} {p1 : Int32} {p2 : Int32} {p3 : Int32} {p4 : Int32} {p5 : Int32} {M : Mm} {z : (Int32 × Mm)} (hf : f_X9_due h a0 p1 p2 p3 p4 p5 M = some z) : CtI l D cy yX9_due (wu yX9_due cX9_due 11 (some .int)) ({ frames := 7, cells := 0, slots := 0, locals := 166 }) [.ref a0, .int p1, .int p2, .int p3, .int p4, .int p5] h M z.1 z.2 := by
  refine enterI (cc := cX9_due) (maxL := 11) (ret := (some .int)) (by decide) (Nat.le_of_ble_eq_true rfl) ?_
  intro p e s m args below meth c A ls X hw hr hlk hl
  have hl : lv_has ls 11 [(0, .ref a0), (1, .int p1), (2, .int p2), (3, .int p3), (4, .int p4), (5, .int p5)] := hl
  unfold f_X9_due at hf
  refine lv_aload_n X.1.1 X.1.2.1 dX9_due_0 rfl (lv_at hl 0 rfl) ?_
  refine lv_iconst (v := (0 : Int32)) X.1.1 X.1.2.1 dX9_due_1 (by decide) ?_
  obtain ⟨g_a0, hf⟩ := ogd hf
  refine r_puti (k := 9) (j := 0) X hw rfl inX9 tyX9_ok nmX9 g_a0 rfl (by decide) (by decide) uf_X9_1 rfl rfl rfl rfl dX9_due_2 (fun H locs hw => ?_)
  obtain ⟨M1, eM1, hf⟩ := olt hf
  rw [← eM1] at hw
  refine lv_iload_n X.1.1 X.1.2.1 dX9_due_5 rfl (lv_at hl 1 rfl) ?_
  obtain ⟨z2, ez2, hf⟩ := obd hf
  refine r_callSI (As := [.int p1]) (rest := []) X hw (c_X9_no ez2) (va_cwS 1 X.1.2.2.2.2 (guS um_X9_71 ut_X9_no un_X9 uo_X9_no) rfl rfl rfl (by decide +kernel) ⟨Nat.le_of_ble_eq_true rfl, Nat.le_of_ble_eq_true rfl⟩) rfl hl.1 rfl (Nat.le_of_ble_eq_true rfl) dX9_due_6 ⟨Nat.zero_le _, Nat.zero_le _⟩ (fun H locs hw => ?_)
  refine lv_if_ne (tgt := 53) X.1.1 X.1.2.1 dX9_due_9 (by decide) (fun c_3 => ?_) (fun c_3 => ?_)
  · skip
    rw [if_pos c_3] at hf
    refine lv_iconst (v := (-1 : Int32)) X.1.1 X.1.2.1 dX9_due_53 (by decide) ?_
    cases hf
    exact r_retI (v := (-1 : Int32)) X hw hr hlk rfl dX9_due_54
  · skip
    rw [if_neg (fun z => z c_3)] at hf
    refine lv_iload_n X.1.1 X.1.2.1 dX9_due_12 rfl (lv_at hl 2 rfl) ?_
    refine lv_iconst (v := (1 : Int32)) X.1.1 X.1.2.1 dX9_due_13 (by decide) ?_
    refine lv_icmp_lt (tgt := 53) X.1.1 X.1.2.1 dX9_due_14 (by decide) (fun c_4 => ?_) (fun c_4 => ?_)
    · skip
      rw [if_pos c_4] at hf
      refine lv_iconst (v := (-1 : Int32)) X.1.1 X.1.2.1 dX9_due_53 (by decide) ?_
      cases hf
      exact r_retI (v := (-1 : Int32)) X hw hr hlk rfl dX9_due_54
    · skip
      rw [if_neg c_4] at hf
      refine lv_iload_n X.1.1 X.1.2.1 dX9_due_17 rfl (lv_at hl 2 rfl) ?_
      refine lv_sipush (v := (1000 : Int32)) X.1.1 X.1.2.1 dX9_due_18 (by decide) ?_
      refine lv_icmp_gt (tgt := 53) X.1.1 X.1.2.1 dX9_due_21 (by decide) (fun c_5 => ?_) (fun c_5 => ?_)
      · skip
        rw [if_pos c_5] at hf
        refine lv_iconst (v := (-1 : Int32)) X.1.1 X.1.2.1 dX9_due_53 (by decide) ?_
        cases hf
        exact r_retI (v := (-1 : Int32)) X hw hr hlk rfl dX9_due_54
      · skip
        rw [if_neg c_5] at hf
        refine lv_iload_n X.1.1 X.1.2.1 dX9_due_24 rfl (lv_at hl 3 rfl) ?_
        refine lv_if_lt (tgt := 53) X.1.1 X.1.2.1 dX9_due_25 (by decide) (fun c_6 => ?_) (fun c_6 => ?_)
        · skip
          rw [if_pos c_6] at hf
          refine lv_iconst (v := (-1 : Int32)) X.1.1 X.1.2.1 dX9_due_53 (by decide) ?_
          cases hf
          exact r_retI (v := (-1 : Int32)) X hw hr hlk rfl dX9_due_54
        · skip
          rw [if_neg c_6] at hf
          refine lv_iload X.1.1 X.1.2.1 dX9_due_28 (lv_at hl 4 rfl) ?_
          refine lv_if_lt (tgt := 53) X.1.1 X.1.2.1 dX9_due_30 (by decide) (fun c_7 => ?_) (fun c_7 => ?_)
          · skip
            rw [if_pos c_7] at hf
            refine lv_iconst (v := (-1 : Int32)) X.1.1 X.1.2.1 dX9_due_53 (by decide) ?_
            cases hf
            exact r_retI (v := (-1 : Int32)) X hw hr hlk rfl dX9_due_54
          · skip
            rw [if_neg c_7] at hf
            refine lv_iload_n X.1.1 X.1.2.1 dX9_due_33 rfl (lv_at hl 3 rfl) ?_
            refine lv_iload X.1.1 X.1.2.1 dX9_due_34 (lv_at hl 4 rfl) ?_
            refine lv_icmp_gt (tgt := 53) X.1.1 X.1.2.1 dX9_due_36 (by decide) (fun c_8 => ?_) (fun c_8 => ?_)
            · skip
              rw [if_pos c_8] at hf
              refine lv_iconst (v := (-1 : Int32)) X.1.1 X.1.2.1 dX9_due_53 (by decide) ?_
              cases hf
              exact r_retI (v := (-1 : Int32)) X hw hr hlk rfl dX9_due_54
            · skip
              rw [if_neg c_8] at hf
              refine lv_iload X.1.1 X.1.2.1 dX9_due_39 (lv_at hl 5 rfl) ?_
              refine lv_iconst (v := (1 : Int32)) X.1.1 X.1.2.1 dX9_due_41 (by decide) ?_
              refine lv_icmp_lt (tgt := 53) X.1.1 X.1.2.1 dX9_due_42 (by decide) (fun c_9 => ?_) (fun c_9 => ?_)
              · skip
                rw [if_pos c_9] at hf
                refine lv_iconst (v := (-1 : Int32)) X.1.1 X.1.2.1 dX9_due_53 (by decide) ?_
                cases hf
                exact r_retI (v := (-1 : Int32)) X hw hr hlk rfl dX9_due_54
              · skip
                rw [if_neg c_9] at hf
                refine lv_iload X.1.1 X.1.2.1 dX9_due_45 (lv_at hl 5 rfl) ?_
                refine lv_sipush (v := (10000 : Int32)) X.1.1 X.1.2.1 dX9_due_47 (by decide) ?_
                refine lv_icmp_le (tgt := 55) X.1.1 X.1.2.1 dX9_due_50 (by decide) (fun c_10 => ?_) (fun c_10 => ?_)
                · skip
                  rw [if_pos c_10] at hf
                  refine lv_aload_n X.1.1 X.1.2.1 dX9_due_55 rfl (lv_at hl 0 rfl) ?_
                  refine lv_iload_n X.1.1 X.1.2.1 dX9_due_56 rfl (lv_at hl 1 rfl) ?_
                  obtain ⟨z11, ez11, hf⟩ := obd hf
                  refine r_callVI (As := [.int p1]) (rest := []) X hw (c_X9_lengthOf ez11) (cwV 1 X.1.2.2.2.2 (guV um_X9_219 ui_X9_lengthOf us_X9_lengthOf un_X9 uo_X9_lengthOf) rfl rfl rfl (by decide +kernel) ⟨Nat.le_of_ble_eq_true rfl, Nat.le_of_ble_eq_true rfl⟩) g_a0 (by decide) rfl rfl hl.1 rfl (Nat.le_of_ble_eq_true rfl) dX9_due_57 ⟨Nat.zero_le _, Nat.zero_le _⟩ (fun H locs hw => ?_)
                  refine lv_istore (lv' := [(6, .int z11.1), (0, .ref a0), (1, .int p1), (2, .int p2), (3, .int p3), (4, .int p4), (5, .int p5)]) X.1.1 X.1.2.1 dX9_due_60 hl (by decide) rfl (fun ls hl => ?_)
                  refine lv_iload X.1.1 X.1.2.1 dX9_due_62 (lv_at hl 0 rfl) ?_
                  refine lv_if_ge (tgt := 69) X.1.1 X.1.2.1 dX9_due_64 (by decide) (fun c_12 => ?_) (fun c_12 => ?_)
                  · skip
                    rw [if_pos c_12] at hf
                    refine lv_aload_n X.1.1 X.1.2.1 dX9_due_69 rfl (lv_at hl 1 rfl) ?_
                    refine lv_iload_n X.1.1 X.1.2.1 dX9_due_70 rfl (lv_at hl 2 rfl) ?_
                    refine lv_iload X.1.1 X.1.2.1 dX9_due_71 (lv_at hl 0 rfl) ?_
                    refine lv_iload X.1.1 X.1.2.1 dX9_due_73 (lv_at hl 5 rfl) ?_
                    obtain ⟨z13, ez13, hf⟩ := obd hf
                    refine r_callVI (As := [.int p1, .int z11.1, .int p4]) (rest := []) X hw (c_X9_cyclesTo ez13) (cwV 3 X.1.2.2.2.2 (guV um_X9_222 ui_X9_cyclesTo us_X9_cyclesTo un_X9 uo_X9_cyclesTo) rfl rfl rfl (by decide +kernel) ⟨Nat.le_of_ble_eq_true rfl, Nat.le_of_ble_eq_true rfl⟩) g_a0 (by decide) rfl rfl hl.1 rfl (Nat.le_of_ble_eq_true rfl) dX9_due_75 ⟨Nat.zero_le _, Nat.zero_le _⟩ (fun H locs hw => ?_)
                    refine lv_istore (lv' := [(7, .int z13), (6, .int z11.1), (0, .ref a0), (1, .int p1), (2, .int p2), (3, .int p3), (4, .int p4), (5, .int p5)]) X.1.1 X.1.2.1 dX9_due_78 hl (by decide) rfl (fun ls hl => ?_)
                    refine lv_iload X.1.1 X.1.2.1 dX9_due_80 (lv_at hl 0 rfl) ?_
                    refine lv_if_ge (tgt := 87) X.1.1 X.1.2.1 dX9_due_82 (by decide) (fun c_14 => ?_) (fun c_14 => ?_)
                    · skip
                      rw [if_pos c_14] at hf
                      refine lv_aload_n X.1.1 X.1.2.1 dX9_due_87 rfl (lv_at hl 2 rfl) ?_
                      refine lv_iload_n X.1.1 X.1.2.1 dX9_due_88 rfl (lv_at hl 3 rfl) ?_
                      refine lv_iload X.1.1 X.1.2.1 dX9_due_89 (lv_at hl 1 rfl) ?_
                      refine lv_iload_n X.1.1 X.1.2.1 dX9_due_91 rfl (lv_at hl 5 rfl) ?_
                      obtain ⟨z15, ez15, hf⟩ := obd hf
                      refine r_callVI (As := [.int p1, .int z11.1, .int p3]) (rest := []) X hw (c_X9_cyclesTo ez15) (cwV 3 X.1.2.2.2.2 (guV um_X9_222 ui_X9_cyclesTo us_X9_cyclesTo un_X9 uo_X9_cyclesTo) rfl rfl rfl (by decide +kernel) ⟨Nat.le_of_ble_eq_true rfl, Nat.le_of_ble_eq_true rfl⟩) g_a0 (by decide) rfl rfl hl.1 rfl (Nat.le_of_ble_eq_true rfl) dX9_due_92 ⟨Nat.zero_le _, Nat.zero_le _⟩ (fun H locs hw => ?_)
                      refine lv_iload_n X.1.1 X.1.2.1 dX9_due_95 rfl (lv_at hl 4 rfl) ?_
                      refine lv_iadd X.1.1 X.1.2.1 dX9_due_96 ?_
                      refine lv_iconst (v := (1 : Int32)) X.1.1 X.1.2.1 dX9_due_97 (by decide) ?_
                      refine lv_isub X.1.1 X.1.2.1 dX9_due_98 ?_
                      refine lv_iload_n X.1.1 X.1.2.1 dX9_due_99 rfl (lv_at hl 4 rfl) ?_
                      obtain ⟨n_16, hf⟩ := ogd hf
                      refine lv_idiv X.1.1 X.1.2.1 dX9_due_100 n_16 ?_
                      refine lv_topi (fun x17 ex17 => ?_)
                      have hf := oltE ex17 hf
                      refine lv_istore (lv' := [(8, .int x17), (7, .int z13), (6, .int z11.1), (0, .ref a0), (1, .int p1), (2, .int p2), (3, .int p3), (4, .int p4), (5, .int p5)]) X.1.1 X.1.2.1 dX9_due_101 hl (by decide) rfl (fun ls hl => ?_)
                      refine lv_iload X.1.1 X.1.2.1 dX9_due_103 (lv_at hl 1 rfl) ?_
                      refine lv_iload_n X.1.1 X.1.2.1 dX9_due_105 rfl (lv_at hl 5 rfl) ?_
                      refine lv_iadd X.1.1 X.1.2.1 dX9_due_106 ?_
                      refine lv_iconst (v := (1 : Int32)) X.1.1 X.1.2.1 dX9_due_107 (by decide) ?_
                      refine lv_isub X.1.1 X.1.2.1 dX9_due_108 ?_
                      refine lv_iload_n X.1.1 X.1.2.1 dX9_due_109 rfl (lv_at hl 5 rfl) ?_
                      obtain ⟨n_18, hf⟩ := ogd hf
                      refine lv_idiv X.1.1 X.1.2.1 dX9_due_110 n_18 ?_
                      refine lv_topi (fun x19 ex19 => ?_)
                      have hf := oltE ex19 hf
                      refine lv_istore (lv' := [(9, .int x19), (8, .int x17), (7, .int z13), (6, .int z11.1), (0, .ref a0), (1, .int p1), (2, .int p2), (3, .int p3), (4, .int p4), (5, .int p5)]) X.1.1 X.1.2.1 dX9_due_111 hl (by decide) rfl (fun ls hl => ?_)
                      refine lv_iload X.1.1 X.1.2.1 dX9_due_113 (lv_at hl 0 rfl) ?_
                      refine lv_iload X.1.1 X.1.2.1 dX9_due_115 (lv_at hl 9 rfl) ?_
                      refine lv_isub X.1.1 X.1.2.1 dX9_due_117 ?_
                      refine lv_iconst (v := (1 : Int32)) X.1.1 X.1.2.1 dX9_due_118 (by decide) ?_
                      refine lv_isub X.1.1 X.1.2.1 dX9_due_119 ?_
                      refine lv_topi (fun x20 ex20 => ?_)
                      have hf := oltE ex20 hf
                      refine lv_istore (lv' := [(10, .int x20), (9, .int x19), (8, .int x17), (7, .int z13), (6, .int z11.1), (0, .ref a0), (1, .int p1), (2, .int p2), (3, .int p3), (4, .int p4), (5, .int p5)]) X.1.1 X.1.2.1 dX9_due_120 hl (by decide) rfl (fun ls hl => ?_)
                      refine lv_iload X.1.1 X.1.2.1 dX9_due_122 (lv_at hl 0 rfl) ?_
                      refine lv_iload X.1.1 X.1.2.1 dX9_due_124 (lv_at hl 2 rfl) ?_
                      refine lv_icmp_ge (tgt := 133) X.1.1 X.1.2.1 dX9_due_126 (by decide) (fun c_21 => ?_) (fun c_21 => ?_)
                      · skip
                        rw [if_pos c_21] at hf
                        refine lv_iload X.1.1 X.1.2.1 dX9_due_133 (lv_at hl 0 rfl) ?_
                        cases hf
                        exact r_retI (v := x20) X hw hr hlk rfl dX9_due_135
                      · skip
                        rw [if_neg c_21] at hf
                        refine lv_iconst (v := (-1 : Int32)) X.1.1 X.1.2.1 dX9_due_129 (by decide) ?_
                        refine lv_goto (tgt := 135) X.1.1 X.1.2.1 dX9_due_130 (by decide) ?_
                        cases hf
                        exact r_retI (v := (-1 : Int32)) X hw hr hlk rfl dX9_due_135
                    · skip
                      rw [if_neg c_14] at hf
                      refine lv_iconst (v := (-1 : Int32)) X.1.1 X.1.2.1 dX9_due_85 (by decide) ?_
                      cases hf
                      exact r_retI (v := (-1 : Int32)) X hw hr hlk rfl dX9_due_86
                  · skip
                    rw [if_neg c_12] at hf
                    refine lv_iconst (v := (-1 : Int32)) X.1.1 X.1.2.1 dX9_due_67 (by decide) ?_
                    cases hf
                    exact r_retI (v := (-1 : Int32)) X hw hr hlk rfl dX9_due_68
                · skip
                  rw [if_neg c_10] at hf
                  refine lv_iconst (v := (-1 : Int32)) X.1.1 X.1.2.1 dX9_due_53 (by decide) ?_
                  cases hf
                  exact r_retI (v := (-1 : Int32)) X hw hr hlk rfl dX9_due_54
/-! X9_undo -/
def f_X9_undo (h : Hs) (a0 : Nat) (M : Mm) : Option (Int32 × Mm) :=
  gd (ok h a0 9) <|
  lt_ (sI M a0 0 (0 : Int32)) fun M1 =>
  if ¬ (zI M1 a0 4) = 0 then
    dq (zR h a0 2) fun q3 =>
    dq (zR h a0 1) fun q4 =>
    (f_X9_copy h a0 q3 q4 M1).bind fun z5 =>
    lt_ (sI z5 a0 4 (0 : Int32)) fun M6 =>
    some ((1 : Int32), M6)
  else
    some ((0 : Int32), M1)
set_option maxHeartbeats 4000000 in
set_option maxRecDepth 100000 in
theorem c_X9_undo {l : Launch} {D : va_G} {cy : Nat → ClassId} {h : Hs} {a0 : Nat} {M : Mm} {z : (Int32 × Mm)} (hf : f_X9_undo h a0 M = some z) : CtI l D cy yX9_undo (wu yX9_undo cX9_undo 1 (some .boolean)) ({ frames := 1, cells := 0, slots := 0, locals := 23 }) [.ref a0] h M z.1 z.2 := by
  refine enterI (cc := cX9_undo) (maxL := 1) (ret := (some .boolean)) (by decide) (Nat.le_of_ble_eq_true rfl) ?_
  intro p e s m args below meth c A ls X hw hr hlk hl
  have hl : lv_has ls 1 [(0, .ref a0)] := hl
  unfold f_X9_undo at hf
  refine lv_aload_n X.1.1 X.1.2.1 dX9_undo_0 rfl (lv_at hl 0 rfl) ?_
  refine lv_iconst (v := (0 : Int32)) X.1.1 X.1.2.1 dX9_undo_1 (by decide) ?_
  obtain ⟨g_a0, hf⟩ := ogd hf
  refine r_puti (k := 9) (j := 0) X hw rfl inX9 tyX9_ok nmX9 g_a0 rfl (by decide) (by decide) uf_X9_1 rfl rfl rfl rfl dX9_undo_2 (fun H locs hw => ?_)
  obtain ⟨M1, eM1, hf⟩ := olt hf
  rw [← eM1] at hw
  refine lv_aload_n X.1.1 X.1.2.1 dX9_undo_5 rfl (lv_at hl 0 rfl) ?_
  refine r_geti (k := 9) (j := 4) X hw rfl inX9 g_a0 rfl (by decide) (by decide) uf_X9_60 rfl dX9_undo_6 ?_
  refine lv_if_ne (tgt := 14) X.1.1 X.1.2.1 dX9_undo_9 (by decide) (fun c_2 => ?_) (fun c_2 => ?_)
  · skip
    rw [if_pos c_2] at hf
    refine lv_aload_n X.1.1 X.1.2.1 dX9_undo_14 rfl (lv_at hl 0 rfl) ?_
    refine lv_aload_n X.1.1 X.1.2.1 dX9_undo_15 rfl (lv_at hl 0 rfl) ?_
    obtain ⟨q3, eq3, hf⟩ := odq hf
    refine r_getq (k := 9) (j := 2) X hw rfl inX9 g_a0 rfl (by decide) (by decide) uf_X9_17 rfl dX9_undo_16 eq3 ?_
    refine lv_aload_n X.1.1 X.1.2.1 dX9_undo_19 rfl (lv_at hl 0 rfl) ?_
    obtain ⟨q4, eq4, hf⟩ := odq hf
    refine r_getq (k := 9) (j := 1) X hw rfl inX9 g_a0 rfl (by decide) (by decide) uf_X9_13 rfl dX9_undo_20 eq4 ?_
    obtain ⟨z5, ez5, hf⟩ := obd hf
    refine r_callVV (As := [.ref q3, .ref q4]) (rest := []) X hw (c_X9_copy ez5) (cwV 2 X.1.2.2.2.2 (guV um_X9_56 ui_X9_copy us_X9_copy un_X9 uo_X9_copy) rfl rfl rfl (by decide +kernel) ⟨Nat.le_of_ble_eq_true rfl, Nat.le_of_ble_eq_true rfl⟩) g_a0 (by decide) rfl rfl hl.1 rfl (Nat.le_of_ble_eq_true rfl) dX9_undo_23 ⟨Nat.zero_le _, Nat.zero_le _⟩ (fun H locs hw => ?_)
    refine lv_aload_n X.1.1 X.1.2.1 dX9_undo_26 rfl (lv_at hl 0 rfl) ?_
    refine lv_iconst (v := (0 : Int32)) X.1.1 X.1.2.1 dX9_undo_27 (by decide) ?_
    refine r_puti (k := 9) (j := 4) X hw rfl inX9 tyX9_ok nmX9 g_a0 rfl (by decide) (by decide) uf_X9_60 rfl rfl rfl rfl dX9_undo_28 (fun H locs hw => ?_)
    obtain ⟨M6, eM6, hf⟩ := olt hf
    rw [← eM6] at hw
    refine lv_iconst (v := (1 : Int32)) X.1.1 X.1.2.1 dX9_undo_31 (by decide) ?_
    cases hf
    exact r_retI (v := (1 : Int32)) X hw hr hlk rfl dX9_undo_32
  · skip
    rw [if_neg (fun z => z c_2)] at hf
    refine lv_iconst (v := (0 : Int32)) X.1.1 X.1.2.1 dX9_undo_12 (by decide) ?_
    cases hf
    exact r_retI (v := (0 : Int32)) X hw hr hlk rfl dX9_undo_13
/-! X9_image -/
def f_X9_image (h : Hs) (a0 : Nat) (M : Mm) : Option (Int32 × Mm) :=
  gd (ok h a0 9) <|
  lt_ (sI M a0 0 (0 : Int32)) fun M1 =>
  lt_ (zI M1 a0 5) fun x2 =>
  dq (zR h a0 1) fun q3 =>
  dq (zR h a0 3) fun q4 =>
  (f_X9_copy h a0 q3 q4 M1).bind fun z5 =>
  lt_ (sI z5 a0 5 (1 : Int32)) fun M6 =>
  gd (x2 = 0 ∨ x2 = 1) <|
  some (x2, M6)
set_option maxHeartbeats 4000000 in
set_option maxRecDepth 100000 in
theorem c_X9_image {l : Launch} {D : va_G} {cy : Nat → ClassId} {h : Hs} {a0 : Nat} {M : Mm} {z : (Int32 × Mm)} (hf : f_X9_image h a0 M = some z) : CtI l D cy yX9_image (wu yX9_image cX9_image 2 (some .boolean)) ({ frames := 1, cells := 0, slots := 0, locals := 23 }) [.ref a0] h M z.1 z.2 := by
  refine enterI (cc := cX9_image) (maxL := 2) (ret := (some .boolean)) (by decide) (Nat.le_of_ble_eq_true rfl) ?_
  intro p e s m args below meth c A ls X hw hr hlk hl
  have hl : lv_has ls 2 [(0, .ref a0)] := hl
  unfold f_X9_image at hf
  refine lv_aload_n X.1.1 X.1.2.1 dX9_image_0 rfl (lv_at hl 0 rfl) ?_
  refine lv_iconst (v := (0 : Int32)) X.1.1 X.1.2.1 dX9_image_1 (by decide) ?_
  obtain ⟨g_a0, hf⟩ := ogd hf
  refine r_puti (k := 9) (j := 0) X hw rfl inX9 tyX9_ok nmX9 g_a0 rfl (by decide) (by decide) uf_X9_1 rfl rfl rfl rfl dX9_image_2 (fun H locs hw => ?_)
  obtain ⟨M1, eM1, hf⟩ := olt hf
  rw [← eM1] at hw
  refine lv_aload_n X.1.1 X.1.2.1 dX9_image_5 rfl (lv_at hl 0 rfl) ?_
  refine r_geti (k := 9) (j := 5) X hw rfl inX9 g_a0 rfl (by decide) (by decide) uf_X9_225 rfl dX9_image_6 ?_
  refine lv_topi (fun x2 ex2 => ?_)
  have hf := oltE ex2 hf
  refine lv_istore_n (lv' := [(1, .int x2), (0, .ref a0)]) X.1.1 X.1.2.1 dX9_image_9 rfl hl (by decide) rfl (fun ls hl => ?_)
  refine lv_aload_n X.1.1 X.1.2.1 dX9_image_10 rfl (lv_at hl 1 rfl) ?_
  refine lv_aload_n X.1.1 X.1.2.1 dX9_image_11 rfl (lv_at hl 1 rfl) ?_
  obtain ⟨q3, eq3, hf⟩ := odq hf
  refine r_getq (k := 9) (j := 1) X hw rfl inX9 g_a0 rfl (by decide) (by decide) uf_X9_13 rfl dX9_image_12 eq3 ?_
  refine lv_aload_n X.1.1 X.1.2.1 dX9_image_15 rfl (lv_at hl 1 rfl) ?_
  obtain ⟨q4, eq4, hf⟩ := odq hf
  refine r_getq (k := 9) (j := 3) X hw rfl inX9 g_a0 rfl (by decide) (by decide) uf_X9_20 rfl dX9_image_16 eq4 ?_
  obtain ⟨z5, ez5, hf⟩ := obd hf
  refine r_callVV (As := [.ref q3, .ref q4]) (rest := []) X hw (c_X9_copy ez5) (cwV 2 X.1.2.2.2.2 (guV um_X9_56 ui_X9_copy us_X9_copy un_X9 uo_X9_copy) rfl rfl rfl (by decide +kernel) ⟨Nat.le_of_ble_eq_true rfl, Nat.le_of_ble_eq_true rfl⟩) g_a0 (by decide) rfl rfl hl.1 rfl (Nat.le_of_ble_eq_true rfl) dX9_image_19 ⟨Nat.zero_le _, Nat.zero_le _⟩ (fun H locs hw => ?_)
  refine lv_aload_n X.1.1 X.1.2.1 dX9_image_22 rfl (lv_at hl 1 rfl) ?_
  refine lv_iconst (v := (1 : Int32)) X.1.1 X.1.2.1 dX9_image_23 (by decide) ?_
  refine r_puti (k := 9) (j := 5) X hw rfl inX9 tyX9_ok nmX9 g_a0 rfl (by decide) (by decide) uf_X9_225 rfl rfl rfl rfl dX9_image_24 (fun H locs hw => ?_)
  obtain ⟨M6, eM6, hf⟩ := olt hf
  rw [← eM6] at hw
  refine lv_iload_n X.1.1 X.1.2.1 dX9_image_27 rfl (lv_at hl 0 rfl) ?_
  obtain ⟨b_7, hf⟩ := ogd hf
  cases hf
  exact r_retI (v := x2) X hw hr hlk (narZ b_7) dX9_image_28
