/-! X2_growthAt -/
def f_X2_growthAt (h : Hs) (a0 : Nat) (p1 : Int32) (M : Mm) : Option Int32 :=
  gd (ok h a0 2) <|
  dq (zR h a0 2) fun q1 =>
  gd (ok h q1 3) <|
  (f_X3_firstNotBelow h q1 p1 M).bind fun z2 =>
  Option.bind (
    if ¬ z2 = (-1 : Int32) then
      some z2
    else
      some ((zI M q1 2) - (1 : Int32))
    ) fun y4 =>
  (f_X3_valueAt h q1 y4 M).bind fun z5 =>
  some z5
set_option maxHeartbeats 4000000 in
set_option maxRecDepth 100000 in
theorem c_X2_growthAt {l : Launch} {D : va_G} {cy : Nat → ClassId} {h : Hs} {a0 : Nat} {p1 : Int32} {M : Mm} {z : Int32} (hf : f_X2_growthAt h a0 p1 M = some z) : CtI l D cy yX2_growthAt (wu yX2_growthAt cX2_growthAt 3 (some .int)) ({ frames := 1, cells := 0, slots := 0, locals := 22 }) [.ref a0, .int p1] h M z M := by
  refine enterI (cc := cX2_growthAt) (maxL := 3) (ret := (some .int)) (by decide) (Nat.le_of_ble_eq_true rfl) ?_
  intro p e s m args below meth c A ls X hw hr hlk hl
  have hl : lv_has ls 3 [(0, .ref a0), (1, .int p1)] := hl
  unfold f_X2_growthAt at hf
  refine lv_aload_n X.1.1 X.1.2.1 dX2_growthAt_0 rfl (lv_at hl 0 rfl) ?_
  obtain ⟨g_a0, hf⟩ := ogd hf
  obtain ⟨q1, eq1, hf⟩ := odq hf
  refine r_getq (k := 2) (j := 2) X hw rfl inX2 g_a0 rfl (by decide) (by decide) uf_X2_23 rfl dX2_growthAt_1 eq1 ?_
  refine lv_iload_n X.1.1 X.1.2.1 dX2_growthAt_4 rfl (lv_at hl 1 rfl) ?_
  obtain ⟨g_q1, hf⟩ := ogd hf
  obtain ⟨z2, ez2, hf⟩ := obd hf
  refine r_callVI (As := [.int p1]) (rest := []) X hw (c_X3_firstNotBelow ez2) (cwV 1 X.1.2.2.2.2 (guV um_X2_55 ui_X3_firstNotBelow us_X3_firstNotBelow un_X3 uo_X3_firstNotBelow) rfl rfl rfl (by decide +kernel) ⟨Nat.le_of_ble_eq_true rfl, Nat.le_of_ble_eq_true rfl⟩) g_q1 (by decide) rfl rfl hl.1 rfl (Nat.le_of_ble_eq_true rfl) dX2_growthAt_5 ⟨Nat.zero_le _, Nat.zero_le _⟩ (fun H locs hw => ?_)
  refine lv_istore_n (lv' := [(2, .int z2), (0, .ref a0), (1, .int p1)]) X.1.1 X.1.2.1 dX2_growthAt_8 rfl hl (by decide) rfl (fun ls hl => ?_)
  refine lv_aload_n X.1.1 X.1.2.1 dX2_growthAt_9 rfl (lv_at hl 1 rfl) ?_
  refine r_getq (k := 2) (j := 2) X hw rfl inX2 g_a0 rfl (by decide) (by decide) uf_X2_23 rfl dX2_growthAt_10 eq1 ?_
  refine lv_iload_n X.1.1 X.1.2.1 dX2_growthAt_13 rfl (lv_at hl 0 rfl) ?_
  refine lv_iconst (v := (-1 : Int32)) X.1.1 X.1.2.1 dX2_growthAt_14 (by decide) ?_
  obtain ⟨y4, ey4, hf⟩ := obd hf
  have Jy4 : ∀ (H : Heap) (locs : List Loc) (ls : Array Slot), Wd D cy A s.heap h M H locs → lv_has ls 3 [] → W p l e ({ frames := 1, cells := 0, slots := 0, locals := 22 } : Room) s m args below meth c H locs 0 0 (QI below D cy A h args s z M) (F0 m 31 ls [.int y4, .ref q1]) := by
    intro H locs ls hw hl
    obtain ⟨z5, ez5, hf⟩ := obd hf
    refine r_callVI (As := [.int y4]) (rest := []) X hw (c_X3_valueAt ez5) (cwV 1 X.1.2.2.2.2 (guV um_X2_59 ui_X3_valueAt us_X3_valueAt un_X3 uo_X3_valueAt) rfl rfl rfl (by decide +kernel) ⟨Nat.le_of_ble_eq_true rfl, Nat.le_of_ble_eq_true rfl⟩) g_q1 (by decide) rfl rfl hl.1 rfl (Nat.le_of_ble_eq_true rfl) dX2_growthAt_31 ⟨Nat.zero_le _, Nat.zero_le _⟩ (fun H locs hw => ?_)
    cases hf
    exact r_retI X hw hr hlk rfl dX2_growthAt_34
  clear hf
  have hf := ey4
  clear ey4
  refine lv_icmp_ne (tgt := 30) X.1.1 X.1.2.1 dX2_growthAt_15 (by decide) (fun c_3 => ?_) (fun c_3 => ?_)
  · skip
    rw [if_pos c_3] at hf
    refine lv_iload_n X.1.1 X.1.2.1 dX2_growthAt_30 rfl (lv_at hl 0 rfl) ?_
    cases hf
    exact Jy4 _ _ _ hw (lv_sub hl [] rfl)
  · skip
    rw [if_neg (fun z => z c_3)] at hf
    refine lv_aload_n X.1.1 X.1.2.1 dX2_growthAt_18 rfl (lv_at hl 1 rfl) ?_
    refine r_getq (k := 2) (j := 2) X hw rfl inX2 g_a0 rfl (by decide) (by decide) uf_X2_23 rfl dX2_growthAt_19 eq1 ?_
    refine r_geti (k := 3) (j := 2) X hw rfl inX3 g_q1 rfl (by decide) (by decide) uf_X2_67 rfl dX2_growthAt_22 ?_
    refine lv_iconst (v := (1 : Int32)) X.1.1 X.1.2.1 dX2_growthAt_25 (by decide) ?_
    refine lv_isub X.1.1 X.1.2.1 dX2_growthAt_26 ?_
    refine lv_goto (tgt := 31) X.1.1 X.1.2.1 dX2_growthAt_27 (by decide) ?_
    cases hf
    exact Jy4 _ _ _ hw (lv_sub hl [] rfl)
/-! X2_cyclesUntil -/
def lp_X2_cyclesUntil_19 (h : Hs) (w2 : Int32) (a0 : Nat) (M : Mm) : Nat → Int64 → Int64 → Int32 → Option (Int64 ⊕ (Int64 × Int64 × Int32))
  | 0, _, _, _ => none
  | n + 1, v3, v5, v7 =>
    gd (ok h a0 2) <|
    dq (zR h a0 2) fun q2 =>
    gd (ok h q2 3) <|
    if (zI M q2 2) ≤ v7 then
      some (.inr (v3, v5, v7))
    else
      Option.bind (
        if ¬ v7 = ((zI M q2 2) - (1 : Int32)) then
          some (0 : Int32)
        else
          some (1 : Int32)
        ) fun y5 =>
      Option.bind (
        if y5 = 0 then
          (f_X3_topAt h q2 v7 M).bind fun z7 =>
          some (if (z7.toInt64 + (1 : Int64)) < w2.toInt64 then z7.toInt64 + (1 : Int64) else w2.toInt64)
        else
          some w2.toInt64
        ) fun y8 =>
      (f_X3_valueAt h q2 v7 M).bind fun z9 =>
      if y8 ≤ v3 then
        lt_ (v7 + (1 : Int32)) fun x11 =>
        lp_X2_cyclesUntil_19 h w2 a0 M n v3 v5 x11
      else
        if (1 : Int64) ≤ z9.toInt64 then
          gd (¬ z9.toInt64 = 0) <|
          lt_ ((((y8 - v3) + z9.toInt64) - (1 : Int64)) / z9.toInt64) fun x14 =>
          lt_ (v5 + x14) fun x15 =>
          lt_ (v3 + (x14 * z9.toInt64)) fun x16 =>
          lt_ (v7 + (1 : Int32)) fun x17 =>
          lp_X2_cyclesUntil_19 h w2 a0 M n x16 x15 x17
        else
          some (.inl (-1 : Int64))
set_option maxHeartbeats 4000000 in
set_option maxRecDepth 100000 in
theorem wlp_X2_cyclesUntil_19 {l : Launch} {D : va_G} {cy : Nat → ClassId} {h : Hs} {w2 : Int32} {a0 : Nat} {M : Mm} {p : Program} {e : Env} {s : State} {m : MethodId} {args : Array Value} {below : List Frame} {meth : Method} {c : Code} {A : Nat → Prop} (X : Cx p s m args c cX2_cyclesUntil 15 gtbl RX2 D cy A) {zf : Int64} (hr : meth.sig.returnType = (some .long)) (hlk : meth.locks = false) : ∀ (n : Nat) (v3 : Int64) (v5 : Int64) (v7 : Int32) (z : (Int64 ⊕ (Int64 × Int64 × Int32))) (H : Heap) (locs : List Loc) (ls : Array Slot), lp_X2_cyclesUntil_19 h w2 a0 M n v3 v5 v7 = some z → Wd D cy A s.heap h M H locs → lv_has ls 15 [(3, .long v3), (5, .long v5), (7, .int v7), (0, .ref a0), (2, .int w2)] → (∀ rr, z = .inl rr → rr = zf) → (∀ x : (Int64 × Int64 × Int32), z = .inr x → ∀ (H : Heap) (locs : List Loc) (ls : Array Slot), Wd D cy A s.heap h M H locs → lv_has ls 15 [(3, .long x.1), (5, .long x.2.1), (7, .int x.2.2), (0, .ref a0), (2, .int w2)] → W p l e ({ frames := 1, cells := 0, slots := 0, locals := 25 } : Room) s m args below meth c H locs 0 0 (QL below D cy A h args s zf M) (F0 m 146 ls [])) → W p l e ({ frames := 1, cells := 0, slots := 0, locals := 25 } : Room) s m args below meth c H locs 0 0 (QL below D cy A h args s zf M) (F0 m 19 ls []) := by
  intro n
  induction n with
  | zero => intro v3 v5 v7 z H locs ls hf hw hl kr kx; exact absurd hf (by intro q; cases q)
  | succ n ih =>
    intro v3 v5 v7 z H locs ls hf hw hl kr kx
    unfold lp_X2_cyclesUntil_19 at hf
    refine lv_iload X.1.1 X.1.2.1 dX2_cyclesUntil_19 (lv_at hl 2 rfl) ?_
    refine lv_aload_n X.1.1 X.1.2.1 dX2_cyclesUntil_21 rfl (lv_at hl 3 rfl) ?_
    obtain ⟨g_a0, hf⟩ := ogd hf
    obtain ⟨q2, eq2, hf⟩ := odq hf
    refine r_getq (k := 2) (j := 2) X hw rfl inX2 g_a0 rfl (by decide) (by decide) uf_X2_23 rfl dX2_cyclesUntil_22 eq2 ?_
    obtain ⟨g_q2, hf⟩ := ogd hf
    refine r_geti (k := 3) (j := 2) X hw rfl inX3 g_q2 rfl (by decide) (by decide) uf_X2_67 rfl dX2_cyclesUntil_25 ?_
    refine lv_icmp_ge (tgt := 146) X.1.1 X.1.2.1 dX2_cyclesUntil_28 (by decide) (fun c_3 => ?_) (fun c_3 => ?_)
    · skip
      rw [if_pos c_3] at hf
      cases hf
      exact kx _ rfl _ _ _ hw (lv_sub hl [0, 1, 2, 3, 4] rfl)
    · skip
      rw [if_neg c_3] at hf
      refine lv_iload X.1.1 X.1.2.1 dX2_cyclesUntil_31 (lv_at hl 2 rfl) ?_
      refine lv_aload_n X.1.1 X.1.2.1 dX2_cyclesUntil_33 rfl (lv_at hl 3 rfl) ?_
      refine r_getq (k := 2) (j := 2) X hw rfl inX2 g_a0 rfl (by decide) (by decide) uf_X2_23 rfl dX2_cyclesUntil_34 eq2 ?_
      refine r_geti (k := 3) (j := 2) X hw rfl inX3 g_q2 rfl (by decide) (by decide) uf_X2_67 rfl dX2_cyclesUntil_37 ?_
      refine lv_iconst (v := (1 : Int32)) X.1.1 X.1.2.1 dX2_cyclesUntil_40 (by decide) ?_
      refine lv_isub X.1.1 X.1.2.1 dX2_cyclesUntil_41 ?_
      obtain ⟨y5, ey5, hf⟩ := obd hf
      have Jy5 : ∀ (H : Heap) (locs : List Loc) (ls : Array Slot), Wd D cy A s.heap h M H locs → lv_has ls 15 [(3, .long v3), (5, .long v5), (7, .int v7), (0, .ref a0), (2, .int w2)] → W p l e ({ frames := 1, cells := 0, slots := 0, locals := 25 } : Room) s m args below meth c H locs 0 0 (QL below D cy A h args s zf M) (F0 m 50 ls [.int y5]) := by
        intro H locs ls hw hl
        refine lv_istore (lv' := [(8, .int y5), (3, .long v3), (5, .long v5), (7, .int v7), (0, .ref a0), (2, .int w2)]) X.1.1 X.1.2.1 dX2_cyclesUntil_50 hl (by decide) rfl (fun ls hl => ?_)
        refine lv_iload X.1.1 X.1.2.1 dX2_cyclesUntil_52 (lv_at hl 0 rfl) ?_
        obtain ⟨y8, ey8, hf⟩ := obd hf
        have Jy8 : ∀ (H : Heap) (locs : List Loc) (ls : Array Slot), Wd D cy A s.heap h M H locs → lv_has ls 15 [(3, .long v3), (5, .long v5), (7, .int v7), (0, .ref a0), (2, .int w2)] → W p l e ({ frames := 1, cells := 0, slots := 0, locals := 25 } : Room) s m args below meth c H locs 0 0 (QL below D cy A h args s zf M) (F0 m 79 ls [.long y8]) := by
          intro H locs ls hw hl
          refine lv_lstore (lv' := [(9, .long y8), (3, .long v3), (5, .long v5), (7, .int v7), (0, .ref a0), (2, .int w2)]) X.1.1 X.1.2.1 dX2_cyclesUntil_79 hl (by decide) rfl (fun ls hl => ?_)
          refine lv_aload_n X.1.1 X.1.2.1 dX2_cyclesUntil_81 rfl (lv_at hl 4 rfl) ?_
          refine r_getq (k := 2) (j := 2) X hw rfl inX2 g_a0 rfl (by decide) (by decide) uf_X2_23 rfl dX2_cyclesUntil_82 eq2 ?_
          refine lv_iload X.1.1 X.1.2.1 dX2_cyclesUntil_85 (lv_at hl 3 rfl) ?_
          obtain ⟨z9, ez9, hf⟩ := obd hf
          refine r_callVI (As := [.int v7]) (rest := []) X hw (c_X3_valueAt ez9) (cwV 1 X.1.2.2.2.2 (guV um_X2_59 ui_X3_valueAt us_X3_valueAt un_X3 uo_X3_valueAt) rfl rfl rfl (by decide +kernel) ⟨Nat.le_of_ble_eq_true rfl, Nat.le_of_ble_eq_true rfl⟩) g_q2 (by decide) rfl rfl hl.1 rfl (Nat.le_of_ble_eq_true rfl) dX2_cyclesUntil_87 ⟨Nat.zero_le _, Nat.zero_le _⟩ (fun H locs hw => ?_)
          refine lv_i2l X.1.1 X.1.2.1 dX2_cyclesUntil_90 rfl ?_
          refine lv_lstore (lv' := [(11, .long z9.toInt64), (9, .long y8), (3, .long v3), (5, .long v5), (7, .int v7), (0, .ref a0), (2, .int w2)]) X.1.1 X.1.2.1 dX2_cyclesUntil_91 hl (by decide) rfl (fun ls hl => ?_)
          refine lv_lload_n X.1.1 X.1.2.1 dX2_cyclesUntil_93 rfl (lv_at hl 2 rfl) ?_
          refine lv_lload X.1.1 X.1.2.1 dX2_cyclesUntil_94 (lv_at hl 1 rfl) ?_
          refine W.lcmp X.1.1 X.1.2.1 dX2_cyclesUntil_96 ?_
          refine lv_if_ge (tgt := 140) X.1.1 X.1.2.1 dX2_cyclesUntil_97 (by decide) (fun c_10 => ?_) (fun c_10 => ?_)
          · skip
            rw [lg_cmp_ge] at c_10
            rw [if_pos c_10] at hf
            obtain ⟨x11, ex11, hf⟩ := olt hf
            refine lv_iinc (v := x11) (lv' := [(7, .int x11), (11, .long z9.toInt64), (9, .long y8), (3, .long v3), (5, .long v5), (0, .ref a0), (2, .int w2)]) X.1.1 X.1.2.1 dX2_cyclesUntil_140 hl (k := 4) rfl (by rw [ex11]; rfl) (by decide) rfl (fun ls hl => ?_)
            refine lv_goto (tgt := 19) X.1.1 X.1.2.1 dX2_cyclesUntil_143 (by decide) ?_
            exact ih _ _ _ _ _ _ _ hf hw (lv_sub hl [3, 4, 0, 5, 6] rfl) kr kx
          · skip
            rw [lg_cmp_ge] at c_10
            rw [if_neg c_10] at hf
            refine lv_lload X.1.1 X.1.2.1 dX2_cyclesUntil_100 (lv_at hl 0 rfl) ?_
            refine lv_lconst (v := (1 : Int64)) X.1.1 X.1.2.1 dX2_cyclesUntil_102 (by decide) ?_
            refine W.lcmp X.1.1 X.1.2.1 dX2_cyclesUntil_103 ?_
            refine lv_if_ge (tgt := 111) X.1.1 X.1.2.1 dX2_cyclesUntil_104 (by decide) (fun c_12 => ?_) (fun c_12 => ?_)
            · skip
              rw [lg_cmp_ge] at c_12
              rw [if_pos c_12] at hf
              refine lv_lload X.1.1 X.1.2.1 dX2_cyclesUntil_111 (lv_at hl 1 rfl) ?_
              refine lv_lload_n X.1.1 X.1.2.1 dX2_cyclesUntil_113 rfl (lv_at hl 2 rfl) ?_
              refine lv_lsub X.1.1 X.1.2.1 dX2_cyclesUntil_114 ?_
              refine lv_lload X.1.1 X.1.2.1 dX2_cyclesUntil_115 (lv_at hl 0 rfl) ?_
              refine lv_ladd X.1.1 X.1.2.1 dX2_cyclesUntil_117 ?_
              refine lv_lconst (v := (1 : Int64)) X.1.1 X.1.2.1 dX2_cyclesUntil_118 (by decide) ?_
              refine lv_lsub X.1.1 X.1.2.1 dX2_cyclesUntil_119 ?_
              refine lv_lload X.1.1 X.1.2.1 dX2_cyclesUntil_120 (lv_at hl 0 rfl) ?_
              obtain ⟨n_13, hf⟩ := ogd hf
              refine lv_ldiv X.1.1 X.1.2.1 dX2_cyclesUntil_122 n_13 ?_
              refine lv_topl (fun x14 ex14 => ?_)
              have hf := oltE ex14 hf
              refine lv_lstore (lv' := [(13, .long x14), (11, .long z9.toInt64), (9, .long y8), (3, .long v3), (5, .long v5), (7, .int v7), (0, .ref a0), (2, .int w2)]) X.1.1 X.1.2.1 dX2_cyclesUntil_123 hl (by decide) rfl (fun ls hl => ?_)
              refine lv_lload X.1.1 X.1.2.1 dX2_cyclesUntil_125 (lv_at hl 4 rfl) ?_
              refine lv_lload X.1.1 X.1.2.1 dX2_cyclesUntil_127 (lv_at hl 0 rfl) ?_
              refine lv_ladd X.1.1 X.1.2.1 dX2_cyclesUntil_129 ?_
              refine lv_topl (fun x15 ex15 => ?_)
              have hf := oltE ex15 hf
              refine lv_lstore (lv' := [(5, .long x15), (13, .long x14), (11, .long z9.toInt64), (9, .long y8), (3, .long v3), (7, .int v7), (0, .ref a0), (2, .int w2)]) X.1.1 X.1.2.1 dX2_cyclesUntil_130 hl (by decide) rfl (fun ls hl => ?_)
              refine lv_lload_n X.1.1 X.1.2.1 dX2_cyclesUntil_132 rfl (lv_at hl 4 rfl) ?_
              refine lv_lload X.1.1 X.1.2.1 dX2_cyclesUntil_133 (lv_at hl 1 rfl) ?_
              refine lv_lload X.1.1 X.1.2.1 dX2_cyclesUntil_135 (lv_at hl 2 rfl) ?_
              refine lv_lmul X.1.1 X.1.2.1 dX2_cyclesUntil_137 ?_
              refine lv_ladd X.1.1 X.1.2.1 dX2_cyclesUntil_138 ?_
              refine lv_topl (fun x16 ex16 => ?_)
              have hf := oltE ex16 hf
              refine lv_lstore_n (lv' := [(3, .long x16), (5, .long x15), (13, .long x14), (11, .long z9.toInt64), (9, .long y8), (7, .int v7), (0, .ref a0), (2, .int w2)]) X.1.1 X.1.2.1 dX2_cyclesUntil_139 rfl hl (by decide) rfl (fun ls hl => ?_)
              obtain ⟨x17, ex17, hf⟩ := olt hf
              refine lv_iinc (v := x17) (lv' := [(7, .int x17), (3, .long x16), (5, .long x15), (13, .long x14), (11, .long z9.toInt64), (9, .long y8), (0, .ref a0), (2, .int w2)]) X.1.1 X.1.2.1 dX2_cyclesUntil_140 hl (k := 5) rfl (by rw [ex17]; rfl) (by decide) rfl (fun ls hl => ?_)
              refine lv_goto (tgt := 19) X.1.1 X.1.2.1 dX2_cyclesUntil_143 (by decide) ?_
              exact ih _ _ _ _ _ _ _ hf hw (lv_sub hl [1, 2, 0, 6, 7] rfl) kr kx
            · skip
              rw [lg_cmp_ge] at c_12
              rw [if_neg c_12] at hf
              refine lv_ldc2 (v := (-1 : Int64)) X.1.1 X.1.2.1 X.1.2.2.2.1 (X.1.2.2.2.2 _ uk_X2_71) dX2_cyclesUntil_107 ?_
              cases hf
              cases kr _ rfl
              exact r_retL X hw hr hlk dX2_cyclesUntil_110
        clear hf
        have hf := ey8
        clear ey8
        refine lv_if_eq (tgt := 62) X.1.1 X.1.2.1 dX2_cyclesUntil_54 (by decide) (fun c_6 => ?_) (fun c_6 => ?_)
        · skip
          rw [if_pos c_6] at hf
          refine lv_iload_n X.1.1 X.1.2.1 dX2_cyclesUntil_62 rfl (lv_at hl 5 rfl) ?_
          refine lv_i2l X.1.1 X.1.2.1 dX2_cyclesUntil_63 rfl ?_
          refine lv_aload_n X.1.1 X.1.2.1 dX2_cyclesUntil_64 rfl (lv_at hl 4 rfl) ?_
          refine r_getq (k := 2) (j := 2) X hw rfl inX2 g_a0 rfl (by decide) (by decide) uf_X2_23 rfl dX2_cyclesUntil_65 eq2 ?_
          refine lv_iload X.1.1 X.1.2.1 dX2_cyclesUntil_68 (lv_at hl 3 rfl) ?_
          obtain ⟨z7, ez7, hf⟩ := obd hf
          refine r_callVI (As := [.int v7]) (rest := [.long w2.toInt64]) X hw (c_X3_topAt ez7) (cwV 1 X.1.2.2.2.2 (guV um_X2_73 ui_X3_topAt us_X3_topAt un_X3 uo_X3_topAt) rfl rfl rfl (by decide +kernel) ⟨Nat.le_of_ble_eq_true rfl, Nat.le_of_ble_eq_true rfl⟩) g_q2 (by decide) rfl rfl hl.1 rfl (Nat.le_of_ble_eq_true rfl) dX2_cyclesUntil_70 ⟨Nat.zero_le _, Nat.zero_le _⟩ (fun H locs hw => ?_)
          refine lv_i2l X.1.1 X.1.2.1 dX2_cyclesUntil_73 rfl ?_
          refine lv_lconst (v := (1 : Int64)) X.1.1 X.1.2.1 dX2_cyclesUntil_74 (by decide) ?_
          refine lv_ladd X.1.1 X.1.2.1 dX2_cyclesUntil_75 ?_
          refine va_mmin_long X.1.1 X.1.2.1 (X.1.2.2.1.trans hl.1.symm) X.1.2.2.2.1 (X.1.2.2.2.2 _ um_X2_76) (X.1.2.2.2.2 _ ut_Lib_MathLoose_min_long_x) (X.1.2.2.2.2 _ un_java_lang_Math) (X.1.2.2.2.2 _ uo_Lib_MathLoose_min_long_x) (Nat.le_of_ble_eq_true rfl) (Nat.le_of_ble_eq_true rfl) (Nat.zero_le _) (Nat.zero_le _) dX2_cyclesUntil_76 ?_
          cases hf
          exact Jy8 _ _ _ hw (lv_sub hl [1, 2, 3, 4, 5] rfl)
        · skip
          rw [if_neg c_6] at hf
          refine lv_iload_n X.1.1 X.1.2.1 dX2_cyclesUntil_57 rfl (lv_at hl 5 rfl) ?_
          refine lv_i2l X.1.1 X.1.2.1 dX2_cyclesUntil_58 rfl ?_
          refine lv_goto (tgt := 79) X.1.1 X.1.2.1 dX2_cyclesUntil_59 (by decide) ?_
          cases hf
          exact Jy8 _ _ _ hw (lv_sub hl [1, 2, 3, 4, 5] rfl)
      clear hf
      have hf := ey5
      clear ey5
      refine lv_icmp_ne (tgt := 49) X.1.1 X.1.2.1 dX2_cyclesUntil_42 (by decide) (fun c_4 => ?_) (fun c_4 => ?_)
      · skip
        rw [if_pos c_4] at hf
        refine lv_iconst (v := (0 : Int32)) X.1.1 X.1.2.1 dX2_cyclesUntil_49 (by decide) ?_
        cases hf
        exact Jy5 _ _ _ hw (lv_sub hl [0, 1, 2, 3, 4] rfl)
      · skip
        rw [if_neg (fun z => z c_4)] at hf
        refine lv_iconst (v := (1 : Int32)) X.1.1 X.1.2.1 dX2_cyclesUntil_45 (by decide) ?_
        refine lv_goto (tgt := 50) X.1.1 X.1.2.1 dX2_cyclesUntil_46 (by decide) ?_
        cases hf
        exact Jy5 _ _ _ hw (lv_sub hl [0, 1, 2, 3, 4] rfl)
def f_X2_cyclesUntil (h : Hs) (a0 : Nat) (p1 : Int32) (p2 : Int32) (M : Mm) : Option Int64 :=
  if p2 ≤ (1000000000 : Int32) then
    (lp_X2_cyclesUntil_19 h p2 a0 M fuel p1.toInt64 (0 : Int64) (0 : Int32)).bind fun z18 =>
    sm z18 (fun r => some r) (fun y19 =>
      if y19.1 < p2.toInt64 then
        some (-1 : Int64)
      else
        some y19.2.1
      )
  else
    some (-1 : Int64)
set_option maxHeartbeats 4000000 in
set_option maxRecDepth 100000 in
theorem c_X2_cyclesUntil {l : Launch} {D : va_G} {cy : Nat → ClassId} {h : Hs} {a0 : Nat} {p1 : Int32} {p2 : Int32} {M : Mm} {z : Int64} (hf : f_X2_cyclesUntil h a0 p1 p2 M = some z) : CtL l D cy yX2_cyclesUntil (wu yX2_cyclesUntil cX2_cyclesUntil 15 (some .long)) ({ frames := 1, cells := 0, slots := 0, locals := 25 }) [.ref a0, .int p1, .int p2] h M z M := by
  refine enterL (cc := cX2_cyclesUntil) (maxL := 15) (ret := (some .long)) (by decide) (Nat.le_of_ble_eq_true rfl) ?_
  intro p e s m args below meth c A ls X hw hr hlk hl
  have hl : lv_has ls 15 [(0, .ref a0), (1, .int p1), (2, .int p2)] := hl
  unfold f_X2_cyclesUntil at hf
  refine lv_iload_n X.1.1 X.1.2.1 dX2_cyclesUntil_0 rfl (lv_at hl 2 rfl) ?_
  refine lv_ldc (v := (1000000000 : Int32)) X.1.1 X.1.2.1 X.1.2.2.2.1 (X.1.2.2.2.2 _ uc_X2_70) dX2_cyclesUntil_1 ?_
  refine lv_icmp_le (tgt := 10) X.1.1 X.1.2.1 dX2_cyclesUntil_3 (by decide) (fun c_1 => ?_) (fun c_1 => ?_)
  · skip
    rw [if_pos c_1] at hf
    refine lv_iload_n X.1.1 X.1.2.1 dX2_cyclesUntil_10 rfl (lv_at hl 1 rfl) ?_
    refine lv_i2l X.1.1 X.1.2.1 dX2_cyclesUntil_11 rfl ?_
    refine lv_lstore_n (lv' := [(3, .long p1.toInt64), (0, .ref a0), (1, .int p1), (2, .int p2)]) X.1.1 X.1.2.1 dX2_cyclesUntil_12 rfl hl (by decide) rfl (fun ls hl => ?_)
    refine lv_lconst (v := (0 : Int64)) X.1.1 X.1.2.1 dX2_cyclesUntil_13 (by decide) ?_
    refine lv_lstore (lv' := [(5, .long (0 : Int64)), (3, .long p1.toInt64), (0, .ref a0), (1, .int p1), (2, .int p2)]) X.1.1 X.1.2.1 dX2_cyclesUntil_14 hl (by decide) rfl (fun ls hl => ?_)
    refine lv_iconst (v := (0 : Int32)) X.1.1 X.1.2.1 dX2_cyclesUntil_16 (by decide) ?_
    refine lv_istore (lv' := [(7, .int (0 : Int32)), (5, .long (0 : Int64)), (3, .long p1.toInt64), (0, .ref a0), (1, .int p1), (2, .int p2)]) X.1.1 X.1.2.1 dX2_cyclesUntil_17 hl (by decide) rfl (fun ls hl => ?_)
    obtain ⟨z18, ez18, hf⟩ := obd hf
    refine wlp_X2_cyclesUntil_19 X hr hlk fuel _ _ _ _ _ _ _ ez18 hw (lv_sub hl [2, 1, 0, 3, 5] rfl) (fun rr er => ?_) (fun y19 ex H locs ls hw hl => ?_)
    · subst er
      exact Option.some.inj hf
    · subst ex
      dsimp only [sm] at hf
      refine lv_lload_n X.1.1 X.1.2.1 dX2_cyclesUntil_146 rfl (lv_at hl 0 rfl) ?_
      refine lv_iload_n X.1.1 X.1.2.1 dX2_cyclesUntil_147 rfl (lv_at hl 4 rfl) ?_
      refine lv_i2l X.1.1 X.1.2.1 dX2_cyclesUntil_148 rfl ?_
      refine W.lcmp X.1.1 X.1.2.1 dX2_cyclesUntil_149 ?_
      refine lv_if_lt (tgt := 158) X.1.1 X.1.2.1 dX2_cyclesUntil_150 (by decide) (fun c_20 => ?_) (fun c_20 => ?_)
      · skip
        rw [lg_cmp_lt] at c_20
        rw [if_pos c_20] at hf
        refine lv_ldc2 (v := (-1 : Int64)) X.1.1 X.1.2.1 X.1.2.2.2.1 (X.1.2.2.2.2 _ uk_X2_71) dX2_cyclesUntil_158 ?_
        cases hf
        exact r_retL X hw hr hlk dX2_cyclesUntil_161
      · skip
        rw [lg_cmp_lt] at c_20
        rw [if_neg c_20] at hf
        refine lv_lload X.1.1 X.1.2.1 dX2_cyclesUntil_153 (lv_at hl 1 rfl) ?_
        refine lv_goto (tgt := 161) X.1.1 X.1.2.1 dX2_cyclesUntil_155 (by decide) ?_
        cases hf
        exact r_retL X hw hr hlk dX2_cyclesUntil_161
  · skip
    rw [if_neg c_1] at hf
    refine lv_ldc2 (v := (-1 : Int64)) X.1.1 X.1.2.1 X.1.2.2.2.1 (X.1.2.2.2.2 _ uk_X2_71) dX2_cyclesUntil_6 ?_
    cases hf
    exact r_retL X hw hr hlk dX2_cyclesUntil_9
/-! X5_keep -/
def f_X5_keep (h : Hs) (a0 : Nat) (p1 : Nat) (p2 : Int32) (M : Mm) : Option Mm :=
  gd (ok h a0 5) <|
  if (zI M a0 8) < 0 then
    some M
  else
    dq (zR h a0 0) fun q2 =>
    gd (ok h q2 11) <|
    if (zI M a0 8) < (Int32.ofNat (zN h q2)) then
      gd (ok h p1 4) <|
      if ¬ (zI M p1 1) = (1 : Int32) then
        gd (inb (zI M a0 8) (zN h q2)) <|
        lt_ (sI M q2 (zI M a0 8).toNatClampNeg p2) fun M6 =>
        lt_ (sI M6 a0 8 ((zI M6 a0 8) + (1 : Int32))) fun M7 =>
        some M7
      else
        if (zI M a0 8) ≤ 0 then
          gd (inb (zI M a0 8) (zN h q2)) <|
          lt_ (sI M q2 (zI M a0 8).toNatClampNeg p2) fun M10 =>
          lt_ (sI M10 a0 8 ((zI M10 a0 8) + (1 : Int32))) fun M11 =>
          some M11
        else
          gd (inb ((zI M a0 8) - (1 : Int32)) (zN h q2)) <|
          if (zI M p1 2) ≤ (if 0 ≤ (p2 - (zI M q2 ((zI M a0 8) - (1 : Int32)).toNatClampNeg)) then p2 - (zI M q2 ((zI M a0 8) - (1 : Int32)).toNatClampNeg) else 0 - (p2 - (zI M q2 ((zI M a0 8) - (1 : Int32)).toNatClampNeg))) then
            gd (inb (zI M a0 8) (zN h q2)) <|
            lt_ (sI M q2 (zI M a0 8).toNatClampNeg p2) fun M15 =>
            lt_ (sI M15 a0 8 ((zI M15 a0 8) + (1 : Int32))) fun M16 =>
            some M16
          else
            some M
    else
      some M
set_option maxHeartbeats 4000000 in
set_option maxRecDepth 100000 in
theorem c_X5_keep {l : Launch} {D : va_G} {cy : Nat → ClassId} {h : Hs} {a0 : Nat} {p1 : Nat} {p2 : Int32} {M : Mm} {z : Mm} (hf : f_X5_keep h a0 p1 p2 M = some z) : CtV l D cy yX5_keep (wu yX5_keep cX5_keep 3 none) ({ frames := 1, cells := 0, slots := 0, locals := 25 }) [.ref a0, .ref p1, .int p2] h M z := by
  refine enterV (cc := cX5_keep) (maxL := 3) (ret := none) (by decide) (Nat.le_of_ble_eq_true rfl) ?_
  intro p e s m args below meth c A ls X hw hr hlk hl
  have hl : lv_has ls 3 [(0, .ref a0), (1, .ref p1), (2, .int p2)] := hl
  unfold f_X5_keep at hf
  refine lv_aload_n X.1.1 X.1.2.1 dX5_keep_0 rfl (lv_at hl 0 rfl) ?_
  obtain ⟨g_a0, hf⟩ := ogd hf
  refine r_geti (k := 5) (j := 8) X hw rfl inX5 g_a0 rfl (by decide) (by decide) uf_X5_37 rfl dX5_keep_1 ?_
  refine lv_if_lt (tgt := 19) X.1.1 X.1.2.1 dX5_keep_4 (by decide) (fun c_1 => ?_) (fun c_1 => ?_)
  · skip
    rw [if_pos c_1] at hf
    cases hf
    exact r_retV X hw hr hlk dX5_keep_19
  · skip
    rw [if_neg c_1] at hf
    refine lv_aload_n X.1.1 X.1.2.1 dX5_keep_7 rfl (lv_at hl 0 rfl) ?_
    refine r_geti (k := 5) (j := 8) X hw rfl inX5 g_a0 rfl (by decide) (by decide) uf_X5_37 rfl dX5_keep_8 ?_
    refine lv_aload_n X.1.1 X.1.2.1 dX5_keep_11 rfl (lv_at hl 0 rfl) ?_
    obtain ⟨q2, eq2, hf⟩ := odq hf
    refine r_getq (k := 5) (j := 0) X hw rfl inX5 g_a0 rfl (by decide) (by decide) uf_X5_9 rfl dX5_keep_12 eq2 ?_
    obtain ⟨g_q2, hf⟩ := ogd hf
    refine r_alen X hw g_q2 (by decide) dX5_keep_15 ?_
    refine lv_icmp_lt (tgt := 20) X.1.1 X.1.2.1 dX5_keep_16 (by decide) (fun c_3 => ?_) (fun c_3 => ?_)
    · skip
      rw [if_pos c_3] at hf
      refine lv_aload_n X.1.1 X.1.2.1 dX5_keep_20 rfl (lv_at hl 1 rfl) ?_
      obtain ⟨g_p1, hf⟩ := ogd hf
      refine r_geti (k := 4) (j := 1) X hw rfl inX4 g_p1 rfl (by decide) (by decide) uf_X5_56 rfl dX5_keep_21 ?_
      refine lv_iconst (v := (1 : Int32)) X.1.1 X.1.2.1 dX5_keep_24 (by decide) ?_
      refine lv_icmp_ne (tgt := 59) X.1.1 X.1.2.1 dX5_keep_25 (by decide) (fun c_4 => ?_) (fun c_4 => ?_)
      · skip
        rw [if_pos c_4] at hf
        refine lv_aload_n X.1.1 X.1.2.1 dX5_keep_59 rfl (lv_at hl 0 rfl) ?_
        refine r_getq (k := 5) (j := 0) X hw rfl inX5 g_a0 rfl (by decide) (by decide) uf_X5_9 rfl dX5_keep_60 eq2 ?_
        refine lv_aload_n X.1.1 X.1.2.1 dX5_keep_63 rfl (lv_at hl 0 rfl) ?_
        refine r_geti (k := 5) (j := 8) X hw rfl inX5 g_a0 rfl (by decide) (by decide) uf_X5_37 rfl dX5_keep_64 ?_
        refine lv_iload_n X.1.1 X.1.2.1 dX5_keep_67 rfl (lv_at hl 2 rfl) ?_
        obtain ⟨i_5, hf⟩ := ogd hf
        refine r_iast X hw g_q2 i_5 dX5_keep_68 (fun H locs hw => ?_)
        obtain ⟨M6, eM6, hf⟩ := olt hf
        rw [← eM6] at hw
        refine lv_aload_n X.1.1 X.1.2.1 dX5_keep_69 rfl (lv_at hl 0 rfl) ?_
        refine lv_dup X.1.1 X.1.2.1 dX5_keep_70 rfl ?_
        refine r_geti (k := 5) (j := 8) X hw rfl inX5 g_a0 rfl (by decide) (by decide) uf_X5_37 rfl dX5_keep_71 ?_
        refine lv_iconst (v := (1 : Int32)) X.1.1 X.1.2.1 dX5_keep_74 (by decide) ?_
        refine lv_iadd X.1.1 X.1.2.1 dX5_keep_75 ?_
        refine r_puti (k := 5) (j := 8) X hw rfl inX5 tyX5_ok nmX5 g_a0 rfl (by decide) (by decide) uf_X5_37 rfl rfl rfl rfl dX5_keep_76 (fun H locs hw => ?_)
        obtain ⟨M7, eM7, hf⟩ := olt hf
        rw [← eM7] at hw
        cases hf
        exact r_retV X hw hr hlk dX5_keep_79
      · skip
        rw [if_neg (fun z => z c_4)] at hf
        refine lv_aload_n X.1.1 X.1.2.1 dX5_keep_28 rfl (lv_at hl 0 rfl) ?_
        refine r_geti (k := 5) (j := 8) X hw rfl inX5 g_a0 rfl (by decide) (by decide) uf_X5_37 rfl dX5_keep_29 ?_
        refine lv_if_le (tgt := 59) X.1.1 X.1.2.1 dX5_keep_32 (by decide) (fun c_8 => ?_) (fun c_8 => ?_)
        · skip
          rw [if_pos c_8] at hf
          refine lv_aload_n X.1.1 X.1.2.1 dX5_keep_59 rfl (lv_at hl 0 rfl) ?_
          refine r_getq (k := 5) (j := 0) X hw rfl inX5 g_a0 rfl (by decide) (by decide) uf_X5_9 rfl dX5_keep_60 eq2 ?_
          refine lv_aload_n X.1.1 X.1.2.1 dX5_keep_63 rfl (lv_at hl 0 rfl) ?_
          refine r_geti (k := 5) (j := 8) X hw rfl inX5 g_a0 rfl (by decide) (by decide) uf_X5_37 rfl dX5_keep_64 ?_
          refine lv_iload_n X.1.1 X.1.2.1 dX5_keep_67 rfl (lv_at hl 2 rfl) ?_
          obtain ⟨i_9, hf⟩ := ogd hf
          refine r_iast X hw g_q2 i_9 dX5_keep_68 (fun H locs hw => ?_)
          obtain ⟨M10, eM10, hf⟩ := olt hf
          rw [← eM10] at hw
          refine lv_aload_n X.1.1 X.1.2.1 dX5_keep_69 rfl (lv_at hl 0 rfl) ?_
          refine lv_dup X.1.1 X.1.2.1 dX5_keep_70 rfl ?_
          refine r_geti (k := 5) (j := 8) X hw rfl inX5 g_a0 rfl (by decide) (by decide) uf_X5_37 rfl dX5_keep_71 ?_
          refine lv_iconst (v := (1 : Int32)) X.1.1 X.1.2.1 dX5_keep_74 (by decide) ?_
          refine lv_iadd X.1.1 X.1.2.1 dX5_keep_75 ?_
          refine r_puti (k := 5) (j := 8) X hw rfl inX5 tyX5_ok nmX5 g_a0 rfl (by decide) (by decide) uf_X5_37 rfl rfl rfl rfl dX5_keep_76 (fun H locs hw => ?_)
          obtain ⟨M11, eM11, hf⟩ := olt hf
          rw [← eM11] at hw
          cases hf
          exact r_retV X hw hr hlk dX5_keep_79
        · skip
          rw [if_neg c_8] at hf
          refine lv_iload_n X.1.1 X.1.2.1 dX5_keep_35 rfl (lv_at hl 2 rfl) ?_
          refine lv_aload_n X.1.1 X.1.2.1 dX5_keep_36 rfl (lv_at hl 0 rfl) ?_
          refine r_getq (k := 5) (j := 0) X hw rfl inX5 g_a0 rfl (by decide) (by decide) uf_X5_9 rfl dX5_keep_37 eq2 ?_
          refine lv_aload_n X.1.1 X.1.2.1 dX5_keep_40 rfl (lv_at hl 0 rfl) ?_
          refine r_geti (k := 5) (j := 8) X hw rfl inX5 g_a0 rfl (by decide) (by decide) uf_X5_37 rfl dX5_keep_41 ?_
          refine lv_iconst (v := (1 : Int32)) X.1.1 X.1.2.1 dX5_keep_44 (by decide) ?_
          refine lv_isub X.1.1 X.1.2.1 dX5_keep_45 ?_
          obtain ⟨i_12, hf⟩ := ogd hf
          refine r_iald X hw g_q2 i_12 dX5_keep_46 ?_
          refine lv_isub X.1.1 X.1.2.1 dX5_keep_47 ?_
          refine va_mabs X.1.1 X.1.2.1 (X.1.2.2.1.trans hl.1.symm) X.1.2.2.2.1 (X.1.2.2.2.2 _ um_X5_71) (X.1.2.2.2.2 _ ut_Lib_Math_abs_name) (X.1.2.2.2.2 _ un_java_lang_Math) (X.1.2.2.2.2 _ uo_Lib_Math_abs_name) (Nat.le_of_ble_eq_true rfl) (Nat.le_of_ble_eq_true rfl) (Nat.zero_le _) (Nat.zero_le _) dX5_keep_48 ?_
          refine lv_aload_n X.1.1 X.1.2.1 dX5_keep_51 rfl (lv_at hl 1 rfl) ?_
          refine r_geti (k := 4) (j := 2) X hw rfl inX4 g_p1 rfl (by decide) (by decide) uf_X5_77 rfl dX5_keep_52 ?_
          refine lv_icmp_ge (tgt := 59) X.1.1 X.1.2.1 dX5_keep_55 (by decide) (fun c_13 => ?_) (fun c_13 => ?_)
          · skip
            rw [if_pos c_13] at hf
            refine lv_aload_n X.1.1 X.1.2.1 dX5_keep_59 rfl (lv_at hl 0 rfl) ?_
            refine r_getq (k := 5) (j := 0) X hw rfl inX5 g_a0 rfl (by decide) (by decide) uf_X5_9 rfl dX5_keep_60 eq2 ?_
            refine lv_aload_n X.1.1 X.1.2.1 dX5_keep_63 rfl (lv_at hl 0 rfl) ?_
            refine r_geti (k := 5) (j := 8) X hw rfl inX5 g_a0 rfl (by decide) (by decide) uf_X5_37 rfl dX5_keep_64 ?_
            refine lv_iload_n X.1.1 X.1.2.1 dX5_keep_67 rfl (lv_at hl 2 rfl) ?_
            obtain ⟨i_14, hf⟩ := ogd hf
            refine r_iast X hw g_q2 i_14 dX5_keep_68 (fun H locs hw => ?_)
            obtain ⟨M15, eM15, hf⟩ := olt hf
            rw [← eM15] at hw
            refine lv_aload_n X.1.1 X.1.2.1 dX5_keep_69 rfl (lv_at hl 0 rfl) ?_
            refine lv_dup X.1.1 X.1.2.1 dX5_keep_70 rfl ?_
            refine r_geti (k := 5) (j := 8) X hw rfl inX5 g_a0 rfl (by decide) (by decide) uf_X5_37 rfl dX5_keep_71 ?_
            refine lv_iconst (v := (1 : Int32)) X.1.1 X.1.2.1 dX5_keep_74 (by decide) ?_
            refine lv_iadd X.1.1 X.1.2.1 dX5_keep_75 ?_
            refine r_puti (k := 5) (j := 8) X hw rfl inX5 tyX5_ok nmX5 g_a0 rfl (by decide) (by decide) uf_X5_37 rfl rfl rfl rfl dX5_keep_76 (fun H locs hw => ?_)
            obtain ⟨M16, eM16, hf⟩ := olt hf
            rw [← eM16] at hw
            cases hf
            exact r_retV X hw hr hlk dX5_keep_79
          · skip
            rw [if_neg c_13] at hf
            cases hf
            exact r_retV X hw hr hlk dX5_keep_58
    · skip
      rw [if_neg c_3] at hf
      cases hf
      exact r_retV X hw hr hlk dX5_keep_19
/-! X5_isPassedOver -/
def f_X5_isPassedOver (h : Hs) (p1 : Int32) (p2 : Int32) (p3 : Int32) (M : Mm) : Option Int32 :=
  if p2 ≤ p1 then
    if p2 ≤ p3 then
      some (0 : Int32)
    else
      some (1 : Int32)
  else
    if p3 ≤ p2 then
      some (0 : Int32)
    else
      some (1 : Int32)
set_option maxHeartbeats 4000000 in
set_option maxRecDepth 100000 in
theorem c_X5_isPassedOver {l : Launch} {D : va_G} {cy : Nat → ClassId} {h : Hs} {p1 : Int32} {p2 : Int32} {p3 : Int32} {M : Mm} {z : Int32} (hf : f_X5_isPassedOver h p1 p2 p3 M = some z) : CtI l D cy yX5_isPassedOver (wu yX5_isPassedOver cX5_isPassedOver 3 (some .boolean)) ({ frames := 0, cells := 0, slots := 0, locals := 0 }) [.int p1, .int p2, .int p3] h M z M := by
  refine enterI (cc := cX5_isPassedOver) (maxL := 3) (ret := (some .boolean)) (by decide) (Nat.le_of_ble_eq_true rfl) ?_
  intro p e s m args below meth c A ls X hw hr hlk hl
  have hl : lv_has ls 3 [(0, .int p1), (1, .int p2), (2, .int p3)] := hl
  unfold f_X5_isPassedOver at hf
  refine lv_iload_n X.1.1 X.1.2.1 dX5_isPassedOver_0 rfl (lv_at hl 0 rfl) ?_
  refine lv_iload_n X.1.1 X.1.2.1 dX5_isPassedOver_1 rfl (lv_at hl 1 rfl) ?_
  refine lv_icmp_ge (tgt := 18) X.1.1 X.1.2.1 dX5_isPassedOver_2 (by decide) (fun c_1 => ?_) (fun c_1 => ?_)
  · skip
    rw [if_pos c_1] at hf
    refine lv_iload_n X.1.1 X.1.2.1 dX5_isPassedOver_18 rfl (lv_at hl 1 rfl) ?_
    refine lv_iload_n X.1.1 X.1.2.1 dX5_isPassedOver_19 rfl (lv_at hl 2 rfl) ?_
    refine lv_icmp_le (tgt := 27) X.1.1 X.1.2.1 dX5_isPassedOver_20 (by decide) (fun c_2 => ?_) (fun c_2 => ?_)
    · skip
      rw [if_pos c_2] at hf
      refine lv_iconst (v := (0 : Int32)) X.1.1 X.1.2.1 dX5_isPassedOver_27 (by decide) ?_
      cases hf
      exact r_retI X hw hr hlk rfl dX5_isPassedOver_28
    · skip
      rw [if_neg c_2] at hf
      refine lv_iconst (v := (1 : Int32)) X.1.1 X.1.2.1 dX5_isPassedOver_23 (by decide) ?_
      refine lv_goto (tgt := 28) X.1.1 X.1.2.1 dX5_isPassedOver_24 (by decide) ?_
      cases hf
      exact r_retI X hw hr hlk rfl dX5_isPassedOver_28
  · skip
    rw [if_neg c_1] at hf
    refine lv_iload_n X.1.1 X.1.2.1 dX5_isPassedOver_5 rfl (lv_at hl 1 rfl) ?_
    refine lv_iload_n X.1.1 X.1.2.1 dX5_isPassedOver_6 rfl (lv_at hl 2 rfl) ?_
    refine lv_icmp_ge (tgt := 14) X.1.1 X.1.2.1 dX5_isPassedOver_7 (by decide) (fun c_3 => ?_) (fun c_3 => ?_)
    · skip
      rw [if_pos c_3] at hf
      refine lv_iconst (v := (0 : Int32)) X.1.1 X.1.2.1 dX5_isPassedOver_14 (by decide) ?_
      refine lv_goto (tgt := 28) X.1.1 X.1.2.1 dX5_isPassedOver_15 (by decide) ?_
      cases hf
      exact r_retI X hw hr hlk rfl dX5_isPassedOver_28
    · skip
      rw [if_neg c_3] at hf
      refine lv_iconst (v := (1 : Int32)) X.1.1 X.1.2.1 dX5_isPassedOver_10 (by decide) ?_
      refine lv_goto (tgt := 28) X.1.1 X.1.2.1 dX5_isPassedOver_11 (by decide) ?_
      cases hf
      exact r_retI X hw hr hlk rfl dX5_isPassedOver_28
/-! X5_copyTurns -/
def lp_X5_copyTurns_5 (h : Hs) (w1 : Int32) (p1 : Nat) (p3 : Nat) : Nat → Int32 → Int32 → Mm → Option (Int32 × Int32 × Mm)
  | 0, _, _, _ => none
  | n + 1, v3, v4, M =>
    if w1 ≤ v4 then
      some (v3, v4, M)
    else
      gd (ok h p1 11) <|
      if (Int32.ofNat (zN h p1)) ≤ v4 then
        some (v3, v4, M)
      else
        gd (inb v4 (zN h p1)) <|
        lt_ (zI M p1 v4.toNatClampNeg) fun x4 =>
        Option.bind (
          if v3 ≤ (1 : Int32) then
            some v3
          else
            gd (ok h p3 11) <|
            if (Int32.ofNat (zN h p3)) < v3 then
              some v3
            else
              gd (inb (v3 - (2 : Int32)) (zN h p3)) <|
              gd (inb (v3 - (1 : Int32)) (zN h p3)) <|
              (f_X5_isPassedOver h (zI M p3 (v3 - (2 : Int32)).toNatClampNeg) (zI M p3 (v3 - (1 : Int32)).toNatClampNeg) x4 M).bind fun z9 =>
              if z9 = 0 then
                some v3
              else
                lt_ (v3 + (-1 : Int32)) fun x11 =>
                some x11
          ) fun y12 =>
        Option.bind (
          if y12 ≤ 0 then
            some (0 : Int32)
          else
            gd (ok h p3 11) <|
            if (Int32.ofNat (zN h p3)) < y12 then
              some (0 : Int32)
            else
              gd (inb (y12 - (1 : Int32)) (zN h p3)) <|
              if ¬ (zI M p3 (y12 - (1 : Int32)).toNatClampNeg) = x4 then
                some (0 : Int32)
              else
                some (1 : Int32)
          ) fun y17 =>
        Option.bind (
          if ¬ y17 = 0 then
            some (y12, M)
          else
            gd (ok h p3 11) <|
            if (Int32.ofNat (zN h p3)) ≤ y12 then
              some (y12, M)
            else
              gd (inb y12 (zN h p3)) <|
              lt_ (sI M p3 y12.toNatClampNeg x4) fun M21 =>
              lt_ (y12 + (1 : Int32)) fun x22 =>
              some (x22, M21)
          ) fun y23 =>
        lt_ (v4 + (1 : Int32)) fun x24 =>
        lp_X5_copyTurns_5 h w1 p1 p3 n y23.1 x24 y23.2
set_option maxHeartbeats 4000000 in
set_option maxRecDepth 100000 in
theorem wlp_X5_copyTurns_5 {l : Launch} {D : va_G} {cy : Nat → ClassId} {h : Hs} {w1 : Int32} {p1 : Nat} {p3 : Nat} {p : Program} {e : Env} {s : State} {m : MethodId} {args : Array Value} {below : List Frame} {meth : Method} {c : Code} {A : Nat → Prop} (X : Cx p s m args c cX5_copyTurns 7 gtbl RX5 D cy A) {Q : State → Prop} : ∀ (n : Nat) (v3 : Int32) (v4 : Int32) (M : Mm) (z : (Int32 × Int32 × Mm)) (H : Heap) (locs : List Loc) (ls : Array Slot), lp_X5_copyTurns_5 h w1 p1 p3 n v3 v4 M = some z → Wd D cy A s.heap h M H locs → lv_has ls 7 [(3, .int v3), (4, .int v4), (0, .ref p1), (1, .int w1), (2, .ref p3)] → (∀ x : (Int32 × Int32 × Mm), z = x → ∀ (H : Heap) (locs : List Loc) (ls : Array Slot), Wd D cy A s.heap h x.2.2 H locs → lv_has ls 7 [(3, .int x.1), (4, .int x.2.1), (0, .ref p1), (1, .int w1), (2, .ref p3)] → W p l e ({ frames := 1, cells := 0, slots := 0, locals := 22 } : Room) s m args below meth c H locs 0 0 Q (F0 m 108 ls [])) → W p l e ({ frames := 1, cells := 0, slots := 0, locals := 22 } : Room) s m args below meth c H locs 0 0 Q (F0 m 5 ls []) := by
  intro n
  induction n with
  | zero => intro v3 v4 M z H locs ls hf hw hl kx; exact absurd hf (by intro q; cases q)
  | succ n ih =>
    intro v3 v4 M z H locs ls hf hw hl kx
    unfold lp_X5_copyTurns_5 at hf
    refine lv_iload X.1.1 X.1.2.1 dX5_copyTurns_5 (lv_at hl 1 rfl) ?_
    refine lv_iload_n X.1.1 X.1.2.1 dX5_copyTurns_7 rfl (lv_at hl 3 rfl) ?_
    refine lv_icmp_ge (tgt := 108) X.1.1 X.1.2.1 dX5_copyTurns_8 (by decide) (fun c_1 => ?_) (fun c_1 => ?_)
    · skip
      rw [if_pos c_1] at hf
      cases hf
      exact kx _ rfl _ _ _ hw (lv_sub hl [0, 1, 2, 3, 4] rfl)
    · skip
      rw [if_neg c_1] at hf
      refine lv_iload X.1.1 X.1.2.1 dX5_copyTurns_11 (lv_at hl 1 rfl) ?_
      refine lv_aload_n X.1.1 X.1.2.1 dX5_copyTurns_13 rfl (lv_at hl 2 rfl) ?_
      obtain ⟨g_p1, hf⟩ := ogd hf
      refine r_alen X hw g_p1 (by decide) dX5_copyTurns_14 ?_
      refine lv_icmp_ge (tgt := 108) X.1.1 X.1.2.1 dX5_copyTurns_15 (by decide) (fun c_2 => ?_) (fun c_2 => ?_)
      · skip
        rw [if_pos c_2] at hf
        cases hf
        exact kx _ rfl _ _ _ hw (lv_sub hl [0, 1, 2, 3, 4] rfl)
      · skip
        rw [if_neg c_2] at hf
        refine lv_aload_n X.1.1 X.1.2.1 dX5_copyTurns_18 rfl (lv_at hl 2 rfl) ?_
        refine lv_iload X.1.1 X.1.2.1 dX5_copyTurns_19 (lv_at hl 1 rfl) ?_
        obtain ⟨i_3, hf⟩ := ogd hf
        refine r_iald X hw g_p1 i_3 dX5_copyTurns_21 ?_
        refine lv_topi (fun x4 ex4 => ?_)
        have hf := oltE ex4 hf
        refine lv_istore (lv' := [(5, .int x4), (3, .int v3), (4, .int v4), (0, .ref p1), (1, .int w1), (2, .ref p3)]) X.1.1 X.1.2.1 dX5_copyTurns_22 hl (by decide) rfl (fun ls hl => ?_)
        refine lv_iload_n X.1.1 X.1.2.1 dX5_copyTurns_24 rfl (lv_at hl 1 rfl) ?_
        refine lv_iconst (v := (1 : Int32)) X.1.1 X.1.2.1 dX5_copyTurns_25 (by decide) ?_
        obtain ⟨y12, ey12, hf⟩ := obd hf
        have Jy12 : ∀ (H : Heap) (locs : List Loc) (ls : Array Slot), Wd D cy A s.heap h M H locs → lv_has ls 7 [(3, .int y12), (5, .int x4), (4, .int v4), (0, .ref p1), (1, .int w1), (2, .ref p3)] → W p l e ({ frames := 1, cells := 0, slots := 0, locals := 22 } : Room) s m args below meth c H locs 0 0 Q (F0 m 56 ls []) := by
          intro H locs ls hw hl
          refine lv_iload_n X.1.1 X.1.2.1 dX5_copyTurns_56 rfl (lv_at hl 0 rfl) ?_
          obtain ⟨y17, ey17, hf⟩ := obd hf
          have Jy17 : ∀ (H : Heap) (locs : List Loc) (ls : Array Slot), Wd D cy A s.heap h M H locs → lv_has ls 7 [(3, .int y12), (5, .int x4), (4, .int v4), (0, .ref p1), (1, .int w1), (2, .ref p3)] → W p l e ({ frames := 1, cells := 0, slots := 0, locals := 22 } : Room) s m args below meth c H locs 0 0 Q (F0 m 81 ls [.int y17]) := by
            intro H locs ls hw hl
            refine lv_istore (lv' := [(6, .int y17), (3, .int y12), (5, .int x4), (4, .int v4), (0, .ref p1), (1, .int w1), (2, .ref p3)]) X.1.1 X.1.2.1 dX5_copyTurns_81 hl (by decide) rfl (fun ls hl => ?_)
            refine lv_iload X.1.1 X.1.2.1 dX5_copyTurns_83 (lv_at hl 0 rfl) ?_
            obtain ⟨y23, ey23, hf⟩ := obd hf
            have Jy23 : ∀ (H : Heap) (locs : List Loc) (ls : Array Slot), Wd D cy A s.heap h y23.2 H locs → lv_has ls 7 [(3, .int y23.1), (4, .int v4), (0, .ref p1), (1, .int w1), (2, .ref p3)] → W p l e ({ frames := 1, cells := 0, slots := 0, locals := 22 } : Room) s m args below meth c H locs 0 0 Q (F0 m 102 ls []) := by
              intro H locs ls hw hl
              obtain ⟨x24, ex24, hf⟩ := olt hf
              refine lv_iinc (v := x24) (lv' := [(4, .int x24), (3, .int y23.1), (0, .ref p1), (1, .int w1), (2, .ref p3)]) X.1.1 X.1.2.1 dX5_copyTurns_102 hl (k := 1) rfl (by rw [ex24]; rfl) (by decide) rfl (fun ls hl => ?_)
              refine lv_goto (tgt := 5) X.1.1 X.1.2.1 dX5_copyTurns_105 (by decide) ?_
              exact ih _ _ _ _ _ _ _ hf hw (lv_sub hl [1, 0, 2, 3, 4] rfl) kx
            clear hf
            have hf := ey23
            clear ey23
            refine lv_if_ne (tgt := 102) X.1.1 X.1.2.1 dX5_copyTurns_85 (by decide) (fun c_18 => ?_) (fun c_18 => ?_)
            · skip
              rw [if_pos c_18] at hf
              cases hf
              exact Jy23 _ _ _ hw (lv_sub hl [1, 3, 4, 5, 6] rfl)
            · skip
              rw [if_neg (fun z => z c_18)] at hf
              refine lv_iload_n X.1.1 X.1.2.1 dX5_copyTurns_88 rfl (lv_at hl 1 rfl) ?_
              refine lv_aload_n X.1.1 X.1.2.1 dX5_copyTurns_89 rfl (lv_at hl 6 rfl) ?_
              obtain ⟨g_p3, hf⟩ := ogd hf
              refine r_alen X hw g_p3 (by decide) dX5_copyTurns_90 ?_
              refine lv_icmp_ge (tgt := 102) X.1.1 X.1.2.1 dX5_copyTurns_91 (by decide) (fun c_19 => ?_) (fun c_19 => ?_)
              · skip
                rw [if_pos c_19] at hf
                cases hf
                exact Jy23 _ _ _ hw (lv_sub hl [1, 3, 4, 5, 6] rfl)
              · skip
                rw [if_neg c_19] at hf
                refine lv_aload_n X.1.1 X.1.2.1 dX5_copyTurns_94 rfl (lv_at hl 6 rfl) ?_
                refine lv_iload_n X.1.1 X.1.2.1 dX5_copyTurns_95 rfl (lv_at hl 1 rfl) ?_
                refine lv_iload X.1.1 X.1.2.1 dX5_copyTurns_96 (lv_at hl 2 rfl) ?_
                obtain ⟨i_20, hf⟩ := ogd hf
                refine r_iast X hw g_p3 i_20 dX5_copyTurns_98 (fun H locs hw => ?_)
                obtain ⟨M21, eM21, hf⟩ := olt hf
                rw [← eM21] at hw
                obtain ⟨x22, ex22, hf⟩ := olt hf
                refine lv_iinc (v := x22) (lv' := [(3, .int x22), (6, .int y17), (5, .int x4), (4, .int v4), (0, .ref p1), (1, .int w1), (2, .ref p3)]) X.1.1 X.1.2.1 dX5_copyTurns_99 hl (k := 1) rfl (by rw [ex22]; rfl) (by decide) rfl (fun ls hl => ?_)
                cases hf
                exact Jy23 _ _ _ hw (lv_sub hl [0, 3, 4, 5, 6] rfl)
          clear hf
          have hf := ey17
          clear ey17
          refine lv_if_le (tgt := 80) X.1.1 X.1.2.1 dX5_copyTurns_57 (by decide) (fun c_13 => ?_) (fun c_13 => ?_)
          · skip
            rw [if_pos c_13] at hf
            refine lv_iconst (v := (0 : Int32)) X.1.1 X.1.2.1 dX5_copyTurns_80 (by decide) ?_
            cases hf
            exact Jy17 _ _ _ hw (lv_sub hl [0, 1, 2, 3, 4, 5] rfl)
          · skip
            rw [if_neg c_13] at hf
            refine lv_iload_n X.1.1 X.1.2.1 dX5_copyTurns_60 rfl (lv_at hl 0 rfl) ?_
            refine lv_aload_n X.1.1 X.1.2.1 dX5_copyTurns_61 rfl (lv_at hl 5 rfl) ?_
            obtain ⟨g_p3, hf⟩ := ogd hf
            refine r_alen X hw g_p3 (by decide) dX5_copyTurns_62 ?_
            refine lv_icmp_gt (tgt := 80) X.1.1 X.1.2.1 dX5_copyTurns_63 (by decide) (fun c_14 => ?_) (fun c_14 => ?_)
            · skip
              rw [if_pos c_14] at hf
              refine lv_iconst (v := (0 : Int32)) X.1.1 X.1.2.1 dX5_copyTurns_80 (by decide) ?_
              cases hf
              exact Jy17 _ _ _ hw (lv_sub hl [0, 1, 2, 3, 4, 5] rfl)
            · skip
              rw [if_neg c_14] at hf
              refine lv_aload_n X.1.1 X.1.2.1 dX5_copyTurns_66 rfl (lv_at hl 5 rfl) ?_
              refine lv_iload_n X.1.1 X.1.2.1 dX5_copyTurns_67 rfl (lv_at hl 0 rfl) ?_
              refine lv_iconst (v := (1 : Int32)) X.1.1 X.1.2.1 dX5_copyTurns_68 (by decide) ?_
              refine lv_isub X.1.1 X.1.2.1 dX5_copyTurns_69 ?_
              obtain ⟨i_15, hf⟩ := ogd hf
              refine r_iald X hw g_p3 i_15 dX5_copyTurns_70 ?_
              refine lv_iload X.1.1 X.1.2.1 dX5_copyTurns_71 (lv_at hl 1 rfl) ?_
              refine lv_icmp_ne (tgt := 80) X.1.1 X.1.2.1 dX5_copyTurns_73 (by decide) (fun c_16 => ?_) (fun c_16 => ?_)
              · skip
                rw [if_pos c_16] at hf
                refine lv_iconst (v := (0 : Int32)) X.1.1 X.1.2.1 dX5_copyTurns_80 (by decide) ?_
                cases hf
                exact Jy17 _ _ _ hw (lv_sub hl [0, 1, 2, 3, 4, 5] rfl)
              · skip
                rw [if_neg (fun z => z c_16)] at hf
                refine lv_iconst (v := (1 : Int32)) X.1.1 X.1.2.1 dX5_copyTurns_76 (by decide) ?_
                refine lv_goto (tgt := 81) X.1.1 X.1.2.1 dX5_copyTurns_77 (by decide) ?_
                cases hf
                exact Jy17 _ _ _ hw (lv_sub hl [0, 1, 2, 3, 4, 5] rfl)
        clear hf
        have hf := ey12
        clear ey12
        refine lv_icmp_le (tgt := 56) X.1.1 X.1.2.1 dX5_copyTurns_26 (by decide) (fun c_5 => ?_) (fun c_5 => ?_)
        · skip
          rw [if_pos c_5] at hf
          cases hf
          exact Jy12 _ _ _ hw (lv_sub hl [1, 0, 2, 3, 4, 5] rfl)
        · skip
          rw [if_neg c_5] at hf
          refine lv_iload_n X.1.1 X.1.2.1 dX5_copyTurns_29 rfl (lv_at hl 1 rfl) ?_
          refine lv_aload_n X.1.1 X.1.2.1 dX5_copyTurns_30 rfl (lv_at hl 5 rfl) ?_
          obtain ⟨g_p3, hf⟩ := ogd hf
          refine r_alen X hw g_p3 (by decide) dX5_copyTurns_31 ?_
          refine lv_icmp_gt (tgt := 56) X.1.1 X.1.2.1 dX5_copyTurns_32 (by decide) (fun c_6 => ?_) (fun c_6 => ?_)
          · skip
            rw [if_pos c_6] at hf
            cases hf
            exact Jy12 _ _ _ hw (lv_sub hl [1, 0, 2, 3, 4, 5] rfl)
          · skip
            rw [if_neg c_6] at hf
            refine lv_aload_n X.1.1 X.1.2.1 dX5_copyTurns_35 rfl (lv_at hl 5 rfl) ?_
            refine lv_iload_n X.1.1 X.1.2.1 dX5_copyTurns_36 rfl (lv_at hl 1 rfl) ?_
            refine lv_iconst (v := (2 : Int32)) X.1.1 X.1.2.1 dX5_copyTurns_37 (by decide) ?_
            refine lv_isub X.1.1 X.1.2.1 dX5_copyTurns_38 ?_
            obtain ⟨i_7, hf⟩ := ogd hf
            refine r_iald X hw g_p3 i_7 dX5_copyTurns_39 ?_
            refine lv_aload_n X.1.1 X.1.2.1 dX5_copyTurns_40 rfl (lv_at hl 5 rfl) ?_
            refine lv_iload_n X.1.1 X.1.2.1 dX5_copyTurns_41 rfl (lv_at hl 1 rfl) ?_
            refine lv_iconst (v := (1 : Int32)) X.1.1 X.1.2.1 dX5_copyTurns_42 (by decide) ?_
            refine lv_isub X.1.1 X.1.2.1 dX5_copyTurns_43 ?_
            obtain ⟨i_8, hf⟩ := ogd hf
            refine r_iald X hw g_p3 i_8 dX5_copyTurns_44 ?_
            refine lv_iload X.1.1 X.1.2.1 dX5_copyTurns_45 (lv_at hl 0 rfl) ?_
            obtain ⟨z9, ez9, hf⟩ := obd hf
            refine r_callSI (As := [.int (zI M p3 (v3 - (2 : Int32)).toNatClampNeg), .int (zI M p3 (v3 - (1 : Int32)).toNatClampNeg), .int x4]) (rest := []) X hw (c_X5_isPassedOver ez9) (va_cwS 3 X.1.2.2.2.2 (guS um_X5_80 ut_X5_isPassedOver un_X5 uo_X5_isPassedOver) rfl rfl rfl (by decide +kernel) ⟨Nat.le_of_ble_eq_true rfl, Nat.le_of_ble_eq_true rfl⟩) rfl hl.1 rfl (Nat.le_of_ble_eq_true rfl) dX5_copyTurns_47 ⟨Nat.zero_le _, Nat.zero_le _⟩ (fun H locs hw => ?_)
            refine lv_if_eq (tgt := 56) X.1.1 X.1.2.1 dX5_copyTurns_50 (by decide) (fun c_10 => ?_) (fun c_10 => ?_)
            · skip
              rw [if_pos c_10] at hf
              cases hf
              exact Jy12 _ _ _ hw (lv_sub hl [1, 0, 2, 3, 4, 5] rfl)
            · skip
              rw [if_neg c_10] at hf
              obtain ⟨x11, ex11, hf⟩ := olt hf
              refine lv_iinc (v := x11) (lv' := [(3, .int x11), (5, .int x4), (4, .int v4), (0, .ref p1), (1, .int w1), (2, .ref p3)]) X.1.1 X.1.2.1 dX5_copyTurns_53 hl (k := 1) rfl (by rw [ex11]; rfl) (by decide) rfl (fun ls hl => ?_)
              cases hf
              exact Jy12 _ _ _ hw (lv_sub hl [0, 1, 2, 3, 4, 5] rfl)
def f_X5_copyTurns (h : Hs) (p1 : Nat) (p2 : Int32) (p3 : Nat) (M : Mm) : Option (Int32 × Mm) :=
  (lp_X5_copyTurns_5 h p2 p1 p3 fuel (0 : Int32) (0 : Int32) M).bind fun z25 =>
  some (z25.1, z25.2.2)
set_option maxHeartbeats 4000000 in
set_option maxRecDepth 100000 in
theorem c_X5_copyTurns {l : Launch} {D : va_G} {cy : Nat → ClassId} {h : Hs} {p1 : Nat} {p2 : Int32} {p3 : Nat} {M : Mm} {z : (Int32 × Mm)} (hf : f_X5_copyTurns h p1 p2 p3 M = some z) : CtI l D cy yX5_copyTurns (wu yX5_copyTurns cX5_copyTurns 7 (some .int)) ({ frames := 1, cells := 0, slots := 0, locals := 22 }) [.ref p1, .int p2, .ref p3] h M z.1 z.2 := by
  refine enterI (cc := cX5_copyTurns) (maxL := 7) (ret := (some .int)) (by decide) (Nat.le_of_ble_eq_true rfl) ?_
  intro p e s m args below meth c A ls X hw hr hlk hl
  have hl : lv_has ls 7 [(0, .ref p1), (1, .int p2), (2, .ref p3)] := hl
  unfold f_X5_copyTurns at hf
  refine lv_iconst (v := (0 : Int32)) X.1.1 X.1.2.1 dX5_copyTurns_0 (by decide) ?_
  refine lv_istore_n (lv' := [(3, .int (0 : Int32)), (0, .ref p1), (1, .int p2), (2, .ref p3)]) X.1.1 X.1.2.1 dX5_copyTurns_1 rfl hl (by decide) rfl (fun ls hl => ?_)
  refine lv_iconst (v := (0 : Int32)) X.1.1 X.1.2.1 dX5_copyTurns_2 (by decide) ?_
  refine lv_istore (lv' := [(4, .int (0 : Int32)), (3, .int (0 : Int32)), (0, .ref p1), (1, .int p2), (2, .ref p3)]) X.1.1 X.1.2.1 dX5_copyTurns_3 hl (by decide) rfl (fun ls hl => ?_)
  obtain ⟨z25, ez25, hf⟩ := obd hf
  refine wlp_X5_copyTurns_5 X fuel _ _ _ _ _ _ _ ez25 hw (lv_sub hl [1, 0, 2, 3, 4] rfl) (fun x ex H locs ls hw hl => ?_)
  subst ex
  refine lv_iload_n X.1.1 X.1.2.1 dX5_copyTurns_108 rfl (lv_at hl 0 rfl) ?_
  cases hf
  exact r_retI (v := z25.1) X hw hr hlk rfl dX5_copyTurns_109
/-! X5_restAt -/
def f_X5_restAt (h : Hs) (a0 : Nat) (p1 : Int32) (M : Mm) : Option Int32 :=
  if p1 < 0 then
    some (0 : Int32)
  else
    gd (ok h a0 5) <|
    dq (zR h a0 2) fun q2 =>
    gd (ok h q2 11) <|
    if (Int32.ofNat (zN h q2)) ≤ p1 then
      some (0 : Int32)
    else
      gd (inb p1 (zN h q2)) <|
      some (zI M q2 p1.toNatClampNeg)
set_option maxHeartbeats 4000000 in
set_option maxRecDepth 100000 in
theorem c_X5_restAt {l : Launch} {D : va_G} {cy : Nat → ClassId} {h : Hs} {a0 : Nat} {p1 : Int32} {M : Mm} {z : Int32} (hf : f_X5_restAt h a0 p1 M = some z) : CtI l D cy yX5_restAt (wu yX5_restAt cX5_restAt 2 (some .int)) ({ frames := 0, cells := 0, slots := 0, locals := 0 }) [.ref a0, .int p1] h M z M := by
  refine enterI (cc := cX5_restAt) (maxL := 2) (ret := (some .int)) (by decide) (Nat.le_of_ble_eq_true rfl) ?_
  intro p e s m args below meth c A ls X hw hr hlk hl
  have hl : lv_has ls 2 [(0, .ref a0), (1, .int p1)] := hl
  unfold f_X5_restAt at hf
  refine lv_iload_n X.1.1 X.1.2.1 dX5_restAt_0 rfl (lv_at hl 1 rfl) ?_
  refine lv_if_lt (tgt := 22) X.1.1 X.1.2.1 dX5_restAt_1 (by decide) (fun c_1 => ?_) (fun c_1 => ?_)
  · skip
    rw [if_pos c_1] at hf
    refine lv_iconst (v := (0 : Int32)) X.1.1 X.1.2.1 dX5_restAt_22 (by decide) ?_
    cases hf
    exact r_retI X hw hr hlk rfl dX5_restAt_23
  · skip
    rw [if_neg c_1] at hf
    refine lv_iload_n X.1.1 X.1.2.1 dX5_restAt_4 rfl (lv_at hl 1 rfl) ?_
    refine lv_aload_n X.1.1 X.1.2.1 dX5_restAt_5 rfl (lv_at hl 0 rfl) ?_
    obtain ⟨g_a0, hf⟩ := ogd hf
    obtain ⟨q2, eq2, hf⟩ := odq hf
    refine r_getq (k := 5) (j := 2) X hw rfl inX5 g_a0 rfl (by decide) (by decide) uf_X5_18 rfl dX5_restAt_6 eq2 ?_
    obtain ⟨g_q2, hf⟩ := ogd hf
    refine r_alen X hw g_q2 (by decide) dX5_restAt_9 ?_
    refine lv_icmp_ge (tgt := 22) X.1.1 X.1.2.1 dX5_restAt_10 (by decide) (fun c_3 => ?_) (fun c_3 => ?_)
    · skip
      rw [if_pos c_3] at hf
      refine lv_iconst (v := (0 : Int32)) X.1.1 X.1.2.1 dX5_restAt_22 (by decide) ?_
      cases hf
      exact r_retI X hw hr hlk rfl dX5_restAt_23
    · skip
      rw [if_neg c_3] at hf
      refine lv_aload_n X.1.1 X.1.2.1 dX5_restAt_13 rfl (lv_at hl 0 rfl) ?_
      refine r_getq (k := 5) (j := 2) X hw rfl inX5 g_a0 rfl (by decide) (by decide) uf_X5_18 rfl dX5_restAt_14 eq2 ?_
      refine lv_iload_n X.1.1 X.1.2.1 dX5_restAt_17 rfl (lv_at hl 1 rfl) ?_
      obtain ⟨i_4, hf⟩ := ogd hf
      refine r_iald X hw g_q2 i_4 dX5_restAt_18 ?_
      refine lv_goto (tgt := 23) X.1.1 X.1.2.1 dX5_restAt_19 (by decide) ?_
      cases hf
      exact r_retI X hw hr hlk rfl dX5_restAt_23
/-! X5_closesCycle -/
def f_X5_closesCycle (h : Hs) (a0 : Nat) (M : Mm) : Option Int32 :=
  gd (ok h a0 5) <|
  if (4 : Int32) ≤ (zI M a0 10) then
    (f_X5_restAt h a0 ((zI M a0 10) - (4 : Int32)) M).bind fun z2 =>
    (f_X5_turnAt h a0 z2 M).bind fun z3 =>
    (f_X5_restAt h a0 ((zI M a0 10) - (3 : Int32)) M).bind fun z4 =>
    (f_X5_turnAt h a0 z4 M).bind fun z5 =>
    (f_X5_restAt h a0 ((zI M a0 10) - (2 : Int32)) M).bind fun z6 =>
    (f_X5_turnAt h a0 z6 M).bind fun z7 =>
    (f_X5_restAt h a0 ((zI M a0 10) - (1 : Int32)) M).bind fun z8 =>
    (f_X5_turnAt h a0 z8 M).bind fun z9 =>
    lt_ (if z9 < z3 then z9 else z3) fun x10 =>
    lt_ (if z3 < z9 then z9 else z3) fun x11 =>
    (f_X8_isWithin h z5.toInt64 x10 x11 M).bind fun z12 =>
    if z12 = 0 then
      some (0 : Int32)
    else
      (f_X8_isWithin h z7.toInt64 x10 x11 M).bind fun z14 =>
      if z14 = 0 then
        some (0 : Int32)
      else
        some (1 : Int32)
  else
    some (0 : Int32)
set_option maxHeartbeats 4000000 in
set_option maxRecDepth 100000 in
theorem c_X5_closesCycle {l : Launch} {D : va_G} {cy : Nat → ClassId} {h : Hs} {a0 : Nat} {M : Mm} {z : Int32} (hf : f_X5_closesCycle h a0 M = some z) : CtI l D cy yX5_closesCycle (wu yX5_closesCycle cX5_closesCycle 7 (some .boolean)) ({ frames := 1, cells := 0, slots := 0, locals := 25 }) [.ref a0] h M z M := by
  refine enterI (cc := cX5_closesCycle) (maxL := 7) (ret := (some .boolean)) (by decide) (Nat.le_of_ble_eq_true rfl) ?_
  intro p e s m args below meth c A ls X hw hr hlk hl
  have hl : lv_has ls 7 [(0, .ref a0)] := hl
  unfold f_X5_closesCycle at hf
  refine lv_aload_n X.1.1 X.1.2.1 dX5_closesCycle_0 rfl (lv_at hl 0 rfl) ?_
  obtain ⟨g_a0, hf⟩ := ogd hf
  refine r_geti (k := 5) (j := 10) X hw rfl inX5 g_a0 rfl (by decide) (by decide) uf_X5_84 rfl dX5_closesCycle_1 ?_
  refine lv_iconst (v := (4 : Int32)) X.1.1 X.1.2.1 dX5_closesCycle_4 (by decide) ?_
  refine lv_icmp_ge (tgt := 10) X.1.1 X.1.2.1 dX5_closesCycle_5 (by decide) (fun c_1 => ?_) (fun c_1 => ?_)
  · skip
    rw [if_pos c_1] at hf
    refine lv_aload_n X.1.1 X.1.2.1 dX5_closesCycle_10 rfl (lv_at hl 0 rfl) ?_
    refine lv_aload_n X.1.1 X.1.2.1 dX5_closesCycle_11 rfl (lv_at hl 0 rfl) ?_
    refine lv_aload_n X.1.1 X.1.2.1 dX5_closesCycle_12 rfl (lv_at hl 0 rfl) ?_
    refine r_geti (k := 5) (j := 10) X hw rfl inX5 g_a0 rfl (by decide) (by decide) uf_X5_84 rfl dX5_closesCycle_13 ?_
    refine lv_iconst (v := (4 : Int32)) X.1.1 X.1.2.1 dX5_closesCycle_16 (by decide) ?_
    refine lv_isub X.1.1 X.1.2.1 dX5_closesCycle_17 ?_
    obtain ⟨z2, ez2, hf⟩ := obd hf
    refine r_callVI (As := [.int ((zI M a0 10) - (4 : Int32))]) (rest := [.ref a0]) X hw (c_X5_restAt ez2) (cwV 1 X.1.2.2.2.2 (guV um_X5_97 ui_X5_restAt us_X5_restAt un_X5 uo_X5_restAt) rfl rfl rfl (by decide +kernel) ⟨Nat.le_of_ble_eq_true rfl, Nat.le_of_ble_eq_true rfl⟩) g_a0 (by decide) rfl rfl hl.1 rfl (Nat.le_of_ble_eq_true rfl) dX5_closesCycle_18 ⟨Nat.zero_le _, Nat.zero_le _⟩ (fun H locs hw => ?_)
    obtain ⟨z3, ez3, hf⟩ := obd hf
    refine r_callVI (As := [.int z2]) (rest := []) X hw (c_X5_turnAt ez3) (cwV 1 X.1.2.2.2.2 (guV um_X5_100 ui_X5_turnAt us_X5_turnAt un_X5 uo_X5_turnAt) rfl rfl rfl (by decide +kernel) ⟨Nat.le_of_ble_eq_true rfl, Nat.le_of_ble_eq_true rfl⟩) g_a0 (by decide) rfl rfl hl.1 rfl (Nat.le_of_ble_eq_true rfl) dX5_closesCycle_21 ⟨Nat.zero_le _, Nat.zero_le _⟩ (fun H locs hw => ?_)
    refine lv_istore_n (lv' := [(1, .int z3), (0, .ref a0)]) X.1.1 X.1.2.1 dX5_closesCycle_24 rfl hl (by decide) rfl (fun ls hl => ?_)
    refine lv_aload_n X.1.1 X.1.2.1 dX5_closesCycle_25 rfl (lv_at hl 1 rfl) ?_
    refine lv_aload_n X.1.1 X.1.2.1 dX5_closesCycle_26 rfl (lv_at hl 1 rfl) ?_
    refine lv_aload_n X.1.1 X.1.2.1 dX5_closesCycle_27 rfl (lv_at hl 1 rfl) ?_
    refine r_geti (k := 5) (j := 10) X hw rfl inX5 g_a0 rfl (by decide) (by decide) uf_X5_84 rfl dX5_closesCycle_28 ?_
    refine lv_iconst (v := (3 : Int32)) X.1.1 X.1.2.1 dX5_closesCycle_31 (by decide) ?_
    refine lv_isub X.1.1 X.1.2.1 dX5_closesCycle_32 ?_
    obtain ⟨z4, ez4, hf⟩ := obd hf
    refine r_callVI (As := [.int ((zI M a0 10) - (3 : Int32))]) (rest := [.ref a0]) X hw (c_X5_restAt ez4) (cwV 1 X.1.2.2.2.2 (guV um_X5_97 ui_X5_restAt us_X5_restAt un_X5 uo_X5_restAt) rfl rfl rfl (by decide +kernel) ⟨Nat.le_of_ble_eq_true rfl, Nat.le_of_ble_eq_true rfl⟩) g_a0 (by decide) rfl rfl hl.1 rfl (Nat.le_of_ble_eq_true rfl) dX5_closesCycle_33 ⟨Nat.zero_le _, Nat.zero_le _⟩ (fun H locs hw => ?_)
    obtain ⟨z5, ez5, hf⟩ := obd hf
    refine r_callVI (As := [.int z4]) (rest := []) X hw (c_X5_turnAt ez5) (cwV 1 X.1.2.2.2.2 (guV um_X5_100 ui_X5_turnAt us_X5_turnAt un_X5 uo_X5_turnAt) rfl rfl rfl (by decide +kernel) ⟨Nat.le_of_ble_eq_true rfl, Nat.le_of_ble_eq_true rfl⟩) g_a0 (by decide) rfl rfl hl.1 rfl (Nat.le_of_ble_eq_true rfl) dX5_closesCycle_36 ⟨Nat.zero_le _, Nat.zero_le _⟩ (fun H locs hw => ?_)
    refine lv_istore_n (lv' := [(2, .int z5), (1, .int z3), (0, .ref a0)]) X.1.1 X.1.2.1 dX5_closesCycle_39 rfl hl (by decide) rfl (fun ls hl => ?_)
    refine lv_aload_n X.1.1 X.1.2.1 dX5_closesCycle_40 rfl (lv_at hl 2 rfl) ?_
    refine lv_aload_n X.1.1 X.1.2.1 dX5_closesCycle_41 rfl (lv_at hl 2 rfl) ?_
    refine lv_aload_n X.1.1 X.1.2.1 dX5_closesCycle_42 rfl (lv_at hl 2 rfl) ?_
    refine r_geti (k := 5) (j := 10) X hw rfl inX5 g_a0 rfl (by decide) (by decide) uf_X5_84 rfl dX5_closesCycle_43 ?_
    refine lv_iconst (v := (2 : Int32)) X.1.1 X.1.2.1 dX5_closesCycle_46 (by decide) ?_
    refine lv_isub X.1.1 X.1.2.1 dX5_closesCycle_47 ?_
    obtain ⟨z6, ez6, hf⟩ := obd hf
    refine r_callVI (As := [.int ((zI M a0 10) - (2 : Int32))]) (rest := [.ref a0]) X hw (c_X5_restAt ez6) (cwV 1 X.1.2.2.2.2 (guV um_X5_97 ui_X5_restAt us_X5_restAt un_X5 uo_X5_restAt) rfl rfl rfl (by decide +kernel) ⟨Nat.le_of_ble_eq_true rfl, Nat.le_of_ble_eq_true rfl⟩) g_a0 (by decide) rfl rfl hl.1 rfl (Nat.le_of_ble_eq_true rfl) dX5_closesCycle_48 ⟨Nat.zero_le _, Nat.zero_le _⟩ (fun H locs hw => ?_)
    obtain ⟨z7, ez7, hf⟩ := obd hf
    refine r_callVI (As := [.int z6]) (rest := []) X hw (c_X5_turnAt ez7) (cwV 1 X.1.2.2.2.2 (guV um_X5_100 ui_X5_turnAt us_X5_turnAt un_X5 uo_X5_turnAt) rfl rfl rfl (by decide +kernel) ⟨Nat.le_of_ble_eq_true rfl, Nat.le_of_ble_eq_true rfl⟩) g_a0 (by decide) rfl rfl hl.1 rfl (Nat.le_of_ble_eq_true rfl) dX5_closesCycle_51 ⟨Nat.zero_le _, Nat.zero_le _⟩ (fun H locs hw => ?_)
    refine lv_istore_n (lv' := [(3, .int z7), (2, .int z5), (1, .int z3), (0, .ref a0)]) X.1.1 X.1.2.1 dX5_closesCycle_54 rfl hl (by decide) rfl (fun ls hl => ?_)
    refine lv_aload_n X.1.1 X.1.2.1 dX5_closesCycle_55 rfl (lv_at hl 3 rfl) ?_
    refine lv_aload_n X.1.1 X.1.2.1 dX5_closesCycle_56 rfl (lv_at hl 3 rfl) ?_
    refine lv_aload_n X.1.1 X.1.2.1 dX5_closesCycle_57 rfl (lv_at hl 3 rfl) ?_
    refine r_geti (k := 5) (j := 10) X hw rfl inX5 g_a0 rfl (by decide) (by decide) uf_X5_84 rfl dX5_closesCycle_58 ?_
    refine lv_iconst (v := (1 : Int32)) X.1.1 X.1.2.1 dX5_closesCycle_61 (by decide) ?_
    refine lv_isub X.1.1 X.1.2.1 dX5_closesCycle_62 ?_
    obtain ⟨z8, ez8, hf⟩ := obd hf
    refine r_callVI (As := [.int ((zI M a0 10) - (1 : Int32))]) (rest := [.ref a0]) X hw (c_X5_restAt ez8) (cwV 1 X.1.2.2.2.2 (guV um_X5_97 ui_X5_restAt us_X5_restAt un_X5 uo_X5_restAt) rfl rfl rfl (by decide +kernel) ⟨Nat.le_of_ble_eq_true rfl, Nat.le_of_ble_eq_true rfl⟩) g_a0 (by decide) rfl rfl hl.1 rfl (Nat.le_of_ble_eq_true rfl) dX5_closesCycle_63 ⟨Nat.zero_le _, Nat.zero_le _⟩ (fun H locs hw => ?_)
    obtain ⟨z9, ez9, hf⟩ := obd hf
    refine r_callVI (As := [.int z8]) (rest := []) X hw (c_X5_turnAt ez9) (cwV 1 X.1.2.2.2.2 (guV um_X5_100 ui_X5_turnAt us_X5_turnAt un_X5 uo_X5_turnAt) rfl rfl rfl (by decide +kernel) ⟨Nat.le_of_ble_eq_true rfl, Nat.le_of_ble_eq_true rfl⟩) g_a0 (by decide) rfl rfl hl.1 rfl (Nat.le_of_ble_eq_true rfl) dX5_closesCycle_66 ⟨Nat.zero_le _, Nat.zero_le _⟩ (fun H locs hw => ?_)
    refine lv_istore (lv' := [(4, .int z9), (3, .int z7), (2, .int z5), (1, .int z3), (0, .ref a0)]) X.1.1 X.1.2.1 dX5_closesCycle_69 hl (by decide) rfl (fun ls hl => ?_)
    refine lv_iload_n X.1.1 X.1.2.1 dX5_closesCycle_71 rfl (lv_at hl 3 rfl) ?_
    refine lv_iload X.1.1 X.1.2.1 dX5_closesCycle_72 (lv_at hl 0 rfl) ?_
    refine va_mmin X.1.1 X.1.2.1 (X.1.2.2.1.trans hl.1.symm) X.1.2.2.2.1 (X.1.2.2.2.2 _ um_X5_103) (X.1.2.2.2.2 _ ut_Lib_Math_min_name) (X.1.2.2.2.2 _ un_java_lang_Math) (X.1.2.2.2.2 _ uo_Lib_Math_min_name) (Nat.le_of_ble_eq_true rfl) (Nat.le_of_ble_eq_true rfl) (Nat.zero_le _) (Nat.zero_le _) dX5_closesCycle_74 ?_
    refine lv_topi (fun x10 ex10 => ?_)
    have hf := oltE ex10 hf
    refine lv_istore (lv' := [(5, .int x10), (4, .int z9), (3, .int z7), (2, .int z5), (1, .int z3), (0, .ref a0)]) X.1.1 X.1.2.1 dX5_closesCycle_77 hl (by decide) rfl (fun ls hl => ?_)
    refine lv_iload_n X.1.1 X.1.2.1 dX5_closesCycle_79 rfl (lv_at hl 4 rfl) ?_
    refine lv_iload X.1.1 X.1.2.1 dX5_closesCycle_80 (lv_at hl 1 rfl) ?_
    refine va_mmax X.1.1 X.1.2.1 (X.1.2.2.1.trans hl.1.symm) X.1.2.2.2.1 (X.1.2.2.2.2 _ um_X5_107) (X.1.2.2.2.2 _ ut_Lib_Math_max_name) (X.1.2.2.2.2 _ un_java_lang_Math) (X.1.2.2.2.2 _ uo_Lib_Math_max_name) (Nat.le_of_ble_eq_true rfl) (Nat.le_of_ble_eq_true rfl) (Nat.zero_le _) (Nat.zero_le _) dX5_closesCycle_82 ?_
    refine lv_topi (fun x11 ex11 => ?_)
    have hf := oltE ex11 hf
    refine lv_istore (lv' := [(6, .int x11), (5, .int x10), (4, .int z9), (3, .int z7), (2, .int z5), (1, .int z3), (0, .ref a0)]) X.1.1 X.1.2.1 dX5_closesCycle_85 hl (by decide) rfl (fun ls hl => ?_)
    refine lv_iload_n X.1.1 X.1.2.1 dX5_closesCycle_87 rfl (lv_at hl 4 rfl) ?_
    refine lv_i2l X.1.1 X.1.2.1 dX5_closesCycle_88 rfl ?_
    refine lv_iload X.1.1 X.1.2.1 dX5_closesCycle_89 (lv_at hl 1 rfl) ?_
    refine lv_iload X.1.1 X.1.2.1 dX5_closesCycle_91 (lv_at hl 0 rfl) ?_
    obtain ⟨z12, ez12, hf⟩ := obd hf
    refine r_callSNI (host := RX8) (As := [.long z5.toInt64, .int x10, .int x11]) (rest := []) X hw (c_X8_isWithin ez12) ⟨va_cnB 3 X.1.2.2.2.2 (guN uo_X8_isWithin) rfl rfl rfl (X.2.2.1.1 _ (List.mem_of_getElem? (i := 9) rfl)) (X.1.2.2.2.2 _ un_X8) (by decide +kernel) ⟨Nat.le_of_ble_eq_true rfl, Nat.le_of_ble_eq_true rfl⟩, X.1.2.2.2.2 _ ut_X8_isWithin, trivial⟩ rfl hl.1 rfl (Nat.le_of_ble_eq_true rfl) dX5_closesCycle_93 ⟨Nat.zero_le _, Nat.zero_le _⟩ (fun H locs hw => ?_)
    refine lv_if_eq (tgt := 115) X.1.1 X.1.2.1 dX5_closesCycle_96 (by decide) (fun c_13 => ?_) (fun c_13 => ?_)
    · skip
      rw [if_pos c_13] at hf
      refine lv_iconst (v := (0 : Int32)) X.1.1 X.1.2.1 dX5_closesCycle_115 (by decide) ?_
      cases hf
      exact r_retI X hw hr hlk rfl dX5_closesCycle_116
    · skip
      rw [if_neg c_13] at hf
      refine lv_iload_n X.1.1 X.1.2.1 dX5_closesCycle_99 rfl (lv_at hl 3 rfl) ?_
      refine lv_i2l X.1.1 X.1.2.1 dX5_closesCycle_100 rfl ?_
      refine lv_iload X.1.1 X.1.2.1 dX5_closesCycle_101 (lv_at hl 1 rfl) ?_
      refine lv_iload X.1.1 X.1.2.1 dX5_closesCycle_103 (lv_at hl 0 rfl) ?_
      obtain ⟨z14, ez14, hf⟩ := obd hf
      refine r_callSNI (host := RX8) (As := [.long z7.toInt64, .int x10, .int x11]) (rest := []) X hw (c_X8_isWithin ez14) ⟨va_cnB 3 X.1.2.2.2.2 (guN uo_X8_isWithin) rfl rfl rfl (X.2.2.1.1 _ (List.mem_of_getElem? (i := 9) rfl)) (X.1.2.2.2.2 _ un_X8) (by decide +kernel) ⟨Nat.le_of_ble_eq_true rfl, Nat.le_of_ble_eq_true rfl⟩, X.1.2.2.2.2 _ ut_X8_isWithin, trivial⟩ rfl hl.1 rfl (Nat.le_of_ble_eq_true rfl) dX5_closesCycle_105 ⟨Nat.zero_le _, Nat.zero_le _⟩ (fun H locs hw => ?_)
      refine lv_if_eq (tgt := 115) X.1.1 X.1.2.1 dX5_closesCycle_108 (by decide) (fun c_15 => ?_) (fun c_15 => ?_)
      · skip
        rw [if_pos c_15] at hf
        refine lv_iconst (v := (0 : Int32)) X.1.1 X.1.2.1 dX5_closesCycle_115 (by decide) ?_
        cases hf
        exact r_retI X hw hr hlk rfl dX5_closesCycle_116
      · skip
        rw [if_neg c_15] at hf
        refine lv_iconst (v := (1 : Int32)) X.1.1 X.1.2.1 dX5_closesCycle_111 (by decide) ?_
        refine lv_goto (tgt := 116) X.1.1 X.1.2.1 dX5_closesCycle_112 (by decide) ?_
        cases hf
        exact r_retI X hw hr hlk rfl dX5_closesCycle_116
  · skip
    rw [if_neg c_1] at hf
    refine lv_iconst (v := (0 : Int32)) X.1.1 X.1.2.1 dX5_closesCycle_8 (by decide) ?_
    cases hf
    exact r_retI X hw hr hlk rfl dX5_closesCycle_9
/-! X5_takeCycle -/
def f_X5_takeCycle (h : Hs) (a0 : Nat) (M : Mm) : Option Mm :=
  gd (ok h a0 5) <|
  lt_ ((zI M a0 10) - (1 : Int32)) fun x1 =>
  if x1 < (3 : Int32) then
    some M
  else
    dq (zR h a0 2) fun q3 =>
    gd (ok h q3 11) <|
    if (Int32.ofNat (zN h q3)) ≤ x1 then
      some M
    else
      if (zI M a0 11) < 0 then
        some M
      else
        dq (zR h a0 3) fun q6 =>
        gd (ok h q6 11) <|
        if (Int32.ofNat (zN h q6)) ≤ (zI M a0 11) then
          some M
        else
          dq (zR h a0 4) fun q8 =>
          gd (ok h q8 11) <|
          if (Int32.ofNat (zN h q8)) ≤ (zI M a0 11) then
            some M
          else
            dq (zR h a0 5) fun q10 =>
            gd (ok h q10 11) <|
            if (zI M a0 11) < (Int32.ofNat (zN h q10)) then
              gd (inb (x1 - (2 : Int32)) (zN h q3)) <|
              gd (inb (zI M a0 11) (zN h q6)) <|
              lt_ (sI M q6 (zI M a0 11).toNatClampNeg (zI M q3 (x1 - (2 : Int32)).toNatClampNeg)) fun M14 =>
              gd (inb (x1 - (1 : Int32)) (zN h q3)) <|
              gd (inb (zI M14 a0 11) (zN h q8)) <|
              lt_ (sI M14 q8 (zI M14 a0 11).toNatClampNeg (zI M14 q3 (x1 - (1 : Int32)).toNatClampNeg)) fun M17 =>
              gd (inb x1 (zN h q3)) <|
              gd (inb (zI M17 a0 11) (zN h q10)) <|
              lt_ (sI M17 q10 (zI M17 a0 11).toNatClampNeg (zI M17 q3 x1.toNatClampNeg)) fun M20 =>
              lt_ (sI M20 a0 11 ((zI M20 a0 11) + (1 : Int32))) fun M21 =>
              gd (inb x1 (zN h q3)) <|
              gd (inb (x1 - (2 : Int32)) (zN h q3)) <|
              lt_ (sI M21 q3 (x1 - (2 : Int32)).toNatClampNeg (zI M21 q3 x1.toNatClampNeg)) fun M24 =>
              lt_ (sI M24 a0 10 ((zI M24 a0 10) - (2 : Int32))) fun M25 =>
              some M25
            else
              some M
set_option maxHeartbeats 4000000 in
set_option maxRecDepth 100000 in
theorem c_X5_takeCycle {l : Launch} {D : va_G} {cy : Nat → ClassId} {h : Hs} {a0 : Nat} {M : Mm} {z : Mm} (hf : f_X5_takeCycle h a0 M = some z) : CtV l D cy yX5_takeCycle (wu yX5_takeCycle cX5_takeCycle 2 none) ({ frames := 0, cells := 0, slots := 0, locals := 0 }) [.ref a0] h M z := by
  refine enterV (cc := cX5_takeCycle) (maxL := 2) (ret := none) (by decide) (Nat.le_of_ble_eq_true rfl) ?_
  intro p e s m args below meth c A ls X hw hr hlk hl
  have hl : lv_has ls 2 [(0, .ref a0)] := hl
  unfold f_X5_takeCycle at hf
  refine lv_aload_n X.1.1 X.1.2.1 dX5_takeCycle_0 rfl (lv_at hl 0 rfl) ?_
  obtain ⟨g_a0, hf⟩ := ogd hf
  refine r_geti (k := 5) (j := 10) X hw rfl inX5 g_a0 rfl (by decide) (by decide) uf_X5_84 rfl dX5_takeCycle_1 ?_
  refine lv_iconst (v := (1 : Int32)) X.1.1 X.1.2.1 dX5_takeCycle_4 (by decide) ?_
  refine lv_isub X.1.1 X.1.2.1 dX5_takeCycle_5 ?_
  refine lv_topi (fun x1 ex1 => ?_)
  have hf := oltE ex1 hf
  refine lv_istore_n (lv' := [(1, .int x1), (0, .ref a0)]) X.1.1 X.1.2.1 dX5_takeCycle_6 rfl hl (by decide) rfl (fun ls hl => ?_)
  refine lv_iload_n X.1.1 X.1.2.1 dX5_takeCycle_7 rfl (lv_at hl 0 rfl) ?_
  refine lv_iconst (v := (3 : Int32)) X.1.1 X.1.2.1 dX5_takeCycle_8 (by decide) ?_
  refine lv_icmp_lt (tgt := 64) X.1.1 X.1.2.1 dX5_takeCycle_9 (by decide) (fun c_2 => ?_) (fun c_2 => ?_)
  · skip
    rw [if_pos c_2] at hf
    cases hf
    exact r_retV X hw hr hlk dX5_takeCycle_64
  · skip
    rw [if_neg c_2] at hf
    refine lv_iload_n X.1.1 X.1.2.1 dX5_takeCycle_12 rfl (lv_at hl 0 rfl) ?_
    refine lv_aload_n X.1.1 X.1.2.1 dX5_takeCycle_13 rfl (lv_at hl 1 rfl) ?_
    obtain ⟨q3, eq3, hf⟩ := odq hf
    refine r_getq (k := 5) (j := 2) X hw rfl inX5 g_a0 rfl (by decide) (by decide) uf_X5_18 rfl dX5_takeCycle_14 eq3 ?_
    obtain ⟨g_q3, hf⟩ := ogd hf
    refine r_alen X hw g_q3 (by decide) dX5_takeCycle_17 ?_
    refine lv_icmp_ge (tgt := 64) X.1.1 X.1.2.1 dX5_takeCycle_18 (by decide) (fun c_4 => ?_) (fun c_4 => ?_)
    · skip
      rw [if_pos c_4] at hf
      cases hf
      exact r_retV X hw hr hlk dX5_takeCycle_64
    · skip
      rw [if_neg c_4] at hf
      refine lv_aload_n X.1.1 X.1.2.1 dX5_takeCycle_21 rfl (lv_at hl 1 rfl) ?_
      refine r_geti (k := 5) (j := 11) X hw rfl inX5 g_a0 rfl (by decide) (by decide) uf_X5_87 rfl dX5_takeCycle_22 ?_
      refine lv_if_lt (tgt := 64) X.1.1 X.1.2.1 dX5_takeCycle_25 (by decide) (fun c_5 => ?_) (fun c_5 => ?_)
      · skip
        rw [if_pos c_5] at hf
        cases hf
        exact r_retV X hw hr hlk dX5_takeCycle_64
      · skip
        rw [if_neg c_5] at hf
        refine lv_aload_n X.1.1 X.1.2.1 dX5_takeCycle_28 rfl (lv_at hl 1 rfl) ?_
        refine r_geti (k := 5) (j := 11) X hw rfl inX5 g_a0 rfl (by decide) (by decide) uf_X5_87 rfl dX5_takeCycle_29 ?_
        refine lv_aload_n X.1.1 X.1.2.1 dX5_takeCycle_32 rfl (lv_at hl 1 rfl) ?_
        obtain ⟨q6, eq6, hf⟩ := odq hf
        refine r_getq (k := 5) (j := 3) X hw rfl inX5 g_a0 rfl (by decide) (by decide) uf_X5_21 rfl dX5_takeCycle_33 eq6 ?_
        obtain ⟨g_q6, hf⟩ := ogd hf
        refine r_alen X hw g_q6 (by decide) dX5_takeCycle_36 ?_
        refine lv_icmp_ge (tgt := 64) X.1.1 X.1.2.1 dX5_takeCycle_37 (by decide) (fun c_7 => ?_) (fun c_7 => ?_)
        · skip
          rw [if_pos c_7] at hf
          cases hf
          exact r_retV X hw hr hlk dX5_takeCycle_64
        · skip
          rw [if_neg c_7] at hf
          refine lv_aload_n X.1.1 X.1.2.1 dX5_takeCycle_40 rfl (lv_at hl 1 rfl) ?_
          refine r_geti (k := 5) (j := 11) X hw rfl inX5 g_a0 rfl (by decide) (by decide) uf_X5_87 rfl dX5_takeCycle_41 ?_
          refine lv_aload_n X.1.1 X.1.2.1 dX5_takeCycle_44 rfl (lv_at hl 1 rfl) ?_
          obtain ⟨q8, eq8, hf⟩ := odq hf
          refine r_getq (k := 5) (j := 4) X hw rfl inX5 g_a0 rfl (by decide) (by decide) uf_X5_24 rfl dX5_takeCycle_45 eq8 ?_
          obtain ⟨g_q8, hf⟩ := ogd hf
          refine r_alen X hw g_q8 (by decide) dX5_takeCycle_48 ?_
          refine lv_icmp_ge (tgt := 64) X.1.1 X.1.2.1 dX5_takeCycle_49 (by decide) (fun c_9 => ?_) (fun c_9 => ?_)
          · skip
            rw [if_pos c_9] at hf
            cases hf
            exact r_retV X hw hr hlk dX5_takeCycle_64
          · skip
            rw [if_neg c_9] at hf
            refine lv_aload_n X.1.1 X.1.2.1 dX5_takeCycle_52 rfl (lv_at hl 1 rfl) ?_
            refine r_geti (k := 5) (j := 11) X hw rfl inX5 g_a0 rfl (by decide) (by decide) uf_X5_87 rfl dX5_takeCycle_53 ?_
            refine lv_aload_n X.1.1 X.1.2.1 dX5_takeCycle_56 rfl (lv_at hl 1 rfl) ?_
            obtain ⟨q10, eq10, hf⟩ := odq hf
            refine r_getq (k := 5) (j := 5) X hw rfl inX5 g_a0 rfl (by decide) (by decide) uf_X5_27 rfl dX5_takeCycle_57 eq10 ?_
            obtain ⟨g_q10, hf⟩ := ogd hf
            refine r_alen X hw g_q10 (by decide) dX5_takeCycle_60 ?_
            refine lv_icmp_lt (tgt := 65) X.1.1 X.1.2.1 dX5_takeCycle_61 (by decide) (fun c_11 => ?_) (fun c_11 => ?_)
            · skip
              rw [if_pos c_11] at hf
              refine lv_aload_n X.1.1 X.1.2.1 dX5_takeCycle_65 rfl (lv_at hl 1 rfl) ?_
              refine r_getq (k := 5) (j := 3) X hw rfl inX5 g_a0 rfl (by decide) (by decide) uf_X5_21 rfl dX5_takeCycle_66 eq6 ?_
              refine lv_aload_n X.1.1 X.1.2.1 dX5_takeCycle_69 rfl (lv_at hl 1 rfl) ?_
              refine r_geti (k := 5) (j := 11) X hw rfl inX5 g_a0 rfl (by decide) (by decide) uf_X5_87 rfl dX5_takeCycle_70 ?_
              refine lv_aload_n X.1.1 X.1.2.1 dX5_takeCycle_73 rfl (lv_at hl 1 rfl) ?_
              refine r_getq (k := 5) (j := 2) X hw rfl inX5 g_a0 rfl (by decide) (by decide) uf_X5_18 rfl dX5_takeCycle_74 eq3 ?_
              refine lv_iload_n X.1.1 X.1.2.1 dX5_takeCycle_77 rfl (lv_at hl 0 rfl) ?_
              refine lv_iconst (v := (2 : Int32)) X.1.1 X.1.2.1 dX5_takeCycle_78 (by decide) ?_
              refine lv_isub X.1.1 X.1.2.1 dX5_takeCycle_79 ?_
              obtain ⟨i_12, hf⟩ := ogd hf
              refine r_iald X hw g_q3 i_12 dX5_takeCycle_80 ?_
              obtain ⟨i_13, hf⟩ := ogd hf
              refine r_iast X hw g_q6 i_13 dX5_takeCycle_81 (fun H locs hw => ?_)
              obtain ⟨M14, eM14, hf⟩ := olt hf
              rw [← eM14] at hw
              refine lv_aload_n X.1.1 X.1.2.1 dX5_takeCycle_82 rfl (lv_at hl 1 rfl) ?_
              refine r_getq (k := 5) (j := 4) X hw rfl inX5 g_a0 rfl (by decide) (by decide) uf_X5_24 rfl dX5_takeCycle_83 eq8 ?_
              refine lv_aload_n X.1.1 X.1.2.1 dX5_takeCycle_86 rfl (lv_at hl 1 rfl) ?_
              refine r_geti (k := 5) (j := 11) X hw rfl inX5 g_a0 rfl (by decide) (by decide) uf_X5_87 rfl dX5_takeCycle_87 ?_
              refine lv_aload_n X.1.1 X.1.2.1 dX5_takeCycle_90 rfl (lv_at hl 1 rfl) ?_
              refine r_getq (k := 5) (j := 2) X hw rfl inX5 g_a0 rfl (by decide) (by decide) uf_X5_18 rfl dX5_takeCycle_91 eq3 ?_
              refine lv_iload_n X.1.1 X.1.2.1 dX5_takeCycle_94 rfl (lv_at hl 0 rfl) ?_
              refine lv_iconst (v := (1 : Int32)) X.1.1 X.1.2.1 dX5_takeCycle_95 (by decide) ?_
              refine lv_isub X.1.1 X.1.2.1 dX5_takeCycle_96 ?_
              obtain ⟨i_15, hf⟩ := ogd hf
              refine r_iald X hw g_q3 i_15 dX5_takeCycle_97 ?_
              obtain ⟨i_16, hf⟩ := ogd hf
              refine r_iast X hw g_q8 i_16 dX5_takeCycle_98 (fun H locs hw => ?_)
              obtain ⟨M17, eM17, hf⟩ := olt hf
              rw [← eM17] at hw
              refine lv_aload_n X.1.1 X.1.2.1 dX5_takeCycle_99 rfl (lv_at hl 1 rfl) ?_
              refine r_getq (k := 5) (j := 5) X hw rfl inX5 g_a0 rfl (by decide) (by decide) uf_X5_27 rfl dX5_takeCycle_100 eq10 ?_
              refine lv_aload_n X.1.1 X.1.2.1 dX5_takeCycle_103 rfl (lv_at hl 1 rfl) ?_
              refine r_geti (k := 5) (j := 11) X hw rfl inX5 g_a0 rfl (by decide) (by decide) uf_X5_87 rfl dX5_takeCycle_104 ?_
              refine lv_aload_n X.1.1 X.1.2.1 dX5_takeCycle_107 rfl (lv_at hl 1 rfl) ?_
              refine r_getq (k := 5) (j := 2) X hw rfl inX5 g_a0 rfl (by decide) (by decide) uf_X5_18 rfl dX5_takeCycle_108 eq3 ?_
              refine lv_iload_n X.1.1 X.1.2.1 dX5_takeCycle_111 rfl (lv_at hl 0 rfl) ?_
              obtain ⟨i_18, hf⟩ := ogd hf
              refine r_iald X hw g_q3 i_18 dX5_takeCycle_112 ?_
              obtain ⟨i_19, hf⟩ := ogd hf
              refine r_iast X hw g_q10 i_19 dX5_takeCycle_113 (fun H locs hw => ?_)
              obtain ⟨M20, eM20, hf⟩ := olt hf
              rw [← eM20] at hw
              refine lv_aload_n X.1.1 X.1.2.1 dX5_takeCycle_114 rfl (lv_at hl 1 rfl) ?_
              refine lv_dup X.1.1 X.1.2.1 dX5_takeCycle_115 rfl ?_
              refine r_geti (k := 5) (j := 11) X hw rfl inX5 g_a0 rfl (by decide) (by decide) uf_X5_87 rfl dX5_takeCycle_116 ?_
              refine lv_iconst (v := (1 : Int32)) X.1.1 X.1.2.1 dX5_takeCycle_119 (by decide) ?_
              refine lv_iadd X.1.1 X.1.2.1 dX5_takeCycle_120 ?_
              refine r_puti (k := 5) (j := 11) X hw rfl inX5 tyX5_ok nmX5 g_a0 rfl (by decide) (by decide) uf_X5_87 rfl rfl rfl rfl dX5_takeCycle_121 (fun H locs hw => ?_)
              obtain ⟨M21, eM21, hf⟩ := olt hf
              rw [← eM21] at hw
              refine lv_aload_n X.1.1 X.1.2.1 dX5_takeCycle_124 rfl (lv_at hl 1 rfl) ?_
              refine r_getq (k := 5) (j := 2) X hw rfl inX5 g_a0 rfl (by decide) (by decide) uf_X5_18 rfl dX5_takeCycle_125 eq3 ?_
              refine lv_iload_n X.1.1 X.1.2.1 dX5_takeCycle_128 rfl (lv_at hl 0 rfl) ?_
              refine lv_iconst (v := (2 : Int32)) X.1.1 X.1.2.1 dX5_takeCycle_129 (by decide) ?_
              refine lv_isub X.1.1 X.1.2.1 dX5_takeCycle_130 ?_
              refine lv_aload_n X.1.1 X.1.2.1 dX5_takeCycle_131 rfl (lv_at hl 1 rfl) ?_
              refine r_getq (k := 5) (j := 2) X hw rfl inX5 g_a0 rfl (by decide) (by decide) uf_X5_18 rfl dX5_takeCycle_132 eq3 ?_
              refine lv_iload_n X.1.1 X.1.2.1 dX5_takeCycle_135 rfl (lv_at hl 0 rfl) ?_
              obtain ⟨i_22, hf⟩ := ogd hf
              refine r_iald X hw g_q3 i_22 dX5_takeCycle_136 ?_
              obtain ⟨i_23, hf⟩ := ogd hf
              refine r_iast X hw g_q3 i_23 dX5_takeCycle_137 (fun H locs hw => ?_)
              obtain ⟨M24, eM24, hf⟩ := olt hf
              rw [← eM24] at hw
              refine lv_aload_n X.1.1 X.1.2.1 dX5_takeCycle_138 rfl (lv_at hl 1 rfl) ?_
              refine lv_dup X.1.1 X.1.2.1 dX5_takeCycle_139 rfl ?_
              refine r_geti (k := 5) (j := 10) X hw rfl inX5 g_a0 rfl (by decide) (by decide) uf_X5_84 rfl dX5_takeCycle_140 ?_
              refine lv_iconst (v := (2 : Int32)) X.1.1 X.1.2.1 dX5_takeCycle_143 (by decide) ?_
              refine lv_isub X.1.1 X.1.2.1 dX5_takeCycle_144 ?_
              refine r_puti (k := 5) (j := 10) X hw rfl inX5 tyX5_ok nmX5 g_a0 rfl (by decide) (by decide) uf_X5_84 rfl rfl rfl rfl dX5_takeCycle_145 (fun H locs hw => ?_)
              obtain ⟨M25, eM25, hf⟩ := olt hf
              rw [← eM25] at hw
              cases hf
              exact r_retV X hw hr hlk dX5_takeCycle_148
            · skip
              rw [if_neg c_11] at hf
              cases hf
              exact r_retV X hw hr hlk dX5_takeCycle_64
/-! X5_pileUp -/
def lp_X5_pileUp_61 (h : Hs) (w1 : Int32) (a0 : Nat) : Nat → Int32 → Mm → Option (Int32 × Mm)
  | 0, _, _ => none
  | n + 1, v2, M =>
    if (400 : Int32) ≤ v2 then
      some (v2, M)
    else
      (f_X5_closesCycle h a0 M).bind fun z12 =>
      if z12 = 0 then
        some (v2, M)
      else
        (f_X5_takeCycle h a0 M).bind fun z14 =>
        lt_ (v2 + (1 : Int32)) fun x15 =>
        lp_X5_pileUp_61 h w1 a0 n x15 z14
set_option maxHeartbeats 4000000 in
set_option maxRecDepth 100000 in
theorem wlp_X5_pileUp_61 {l : Launch} {D : va_G} {cy : Nat → ClassId} {h : Hs} {w1 : Int32} {a0 : Nat} {p : Program} {e : Env} {s : State} {m : MethodId} {args : Array Value} {below : List Frame} {meth : Method} {c : Code} {A : Nat → Prop} (X : Cx p s m args c cX5_pileUp 3 gtbl RX5 D cy A) {Q : State → Prop} (g_a0 : ok h a0 5) : ∀ (n : Nat) (v2 : Int32) (M : Mm) (z : (Int32 × Mm)) (H : Heap) (locs : List Loc) (ls : Array Slot), lp_X5_pileUp_61 h w1 a0 n v2 M = some z → Wd D cy A s.heap h M H locs → lv_has ls 3 [(2, .int v2), (1, .int w1), (0, .ref a0)] → (∀ x : (Int32 × Mm), z = x → ∀ (H : Heap) (locs : List Loc) (ls : Array Slot), Wd D cy A s.heap h x.2 H locs → lv_has ls 3 [(2, .int x.1), (1, .int w1), (0, .ref a0)] → W p l e ({ frames := 2, cells := 0, slots := 0, locals := 51 } : Room) s m args below meth c H locs 0 0 Q (F0 m 85 ls [])) → W p l e ({ frames := 2, cells := 0, slots := 0, locals := 51 } : Room) s m args below meth c H locs 0 0 Q (F0 m 61 ls []) := by
  intro n
  induction n with
  | zero => intro v2 M z H locs ls hf hw hl kx; exact absurd hf (by intro q; cases q)
  | succ n ih =>
    intro v2 M z H locs ls hf hw hl kx
    unfold lp_X5_pileUp_61 at hf
    refine lv_iload_n X.1.1 X.1.2.1 dX5_pileUp_61 rfl (lv_at hl 0 rfl) ?_
    refine lv_sipush (v := (400 : Int32)) X.1.1 X.1.2.1 dX5_pileUp_62 (by decide) ?_
    refine lv_icmp_ge (tgt := 85) X.1.1 X.1.2.1 dX5_pileUp_65 (by decide) (fun c_11 => ?_) (fun c_11 => ?_)
    · skip
      rw [if_pos c_11] at hf
      cases hf
      exact kx _ rfl _ _ _ hw (lv_sub hl [0, 1, 2] rfl)
    · skip
      rw [if_neg c_11] at hf
      refine lv_aload_n X.1.1 X.1.2.1 dX5_pileUp_68 rfl (lv_at hl 2 rfl) ?_
      obtain ⟨z12, ez12, hf⟩ := obd hf
      refine r_callVI (As := []) (rest := []) X hw (c_X5_closesCycle ez12) (cwV 0 X.1.2.2.2.2 (guV um_X5_90 ui_X5_closesCycle us_X5_closesCycle un_X5 uo_X5_closesCycle) rfl rfl rfl (by decide +kernel) ⟨Nat.le_of_ble_eq_true rfl, Nat.le_of_ble_eq_true rfl⟩) g_a0 (by decide) rfl rfl hl.1 rfl (Nat.le_of_ble_eq_true rfl) dX5_pileUp_69 ⟨Nat.zero_le _, Nat.zero_le _⟩ (fun H locs hw => ?_)
      refine lv_if_eq (tgt := 85) X.1.1 X.1.2.1 dX5_pileUp_72 (by decide) (fun c_13 => ?_) (fun c_13 => ?_)
      · skip
        rw [if_pos c_13] at hf
        cases hf
        exact kx _ rfl _ _ _ hw (lv_sub hl [0, 1, 2] rfl)
      · skip
        rw [if_neg c_13] at hf
        refine lv_aload_n X.1.1 X.1.2.1 dX5_pileUp_75 rfl (lv_at hl 2 rfl) ?_
        obtain ⟨z14, ez14, hf⟩ := obd hf
        refine r_callVV (As := []) (rest := []) X hw (c_X5_takeCycle ez14) (cwV 0 X.1.2.2.2.2 (guV um_X5_94 ui_X5_takeCycle us_X5_takeCycle un_X5 uo_X5_takeCycle) rfl rfl rfl (by decide +kernel) ⟨Nat.le_of_ble_eq_true rfl, Nat.le_of_ble_eq_true rfl⟩) g_a0 (by decide) rfl rfl hl.1 rfl (Nat.le_of_ble_eq_true rfl) dX5_pileUp_76 ⟨Nat.zero_le _, Nat.zero_le _⟩ (fun H locs hw => ?_)
        obtain ⟨x15, ex15, hf⟩ := olt hf
        refine lv_iinc (v := x15) (lv' := [(2, .int x15), (1, .int w1), (0, .ref a0)]) X.1.1 X.1.2.1 dX5_pileUp_79 hl (k := 0) rfl (by rw [ex15]; rfl) (by decide) rfl (fun ls hl => ?_)
        refine lv_goto (tgt := 61) X.1.1 X.1.2.1 dX5_pileUp_82 (by decide) ?_
        exact ih _ _ _ _ _ _ hf hw (lv_sub hl [0, 1, 2] rfl) kx
def lp_X5_pileUp_12 (h : Hs) (a0 : Nat) : Nat → Int32 → Mm → Option (Int32 × Mm)
  | 0, _, _ => none
  | n + 1, v1, M =>
    if (zI M a0 9) ≤ v1 then
      some (v1, M)
    else
      Option.bind (
        if (zI M a0 10) < 0 then
          some M
        else
          dq (zR h a0 2) fun q5 =>
          gd (ok h q5 11) <|
          if (Int32.ofNat (zN h q5)) ≤ (zI M a0 10) then
            some M
          else
            gd (inb (zI M a0 10) (zN h q5)) <|
            lt_ (sI M q5 (zI M a0 10).toNatClampNeg v1) fun M8 =>
            lt_ (sI M8 a0 10 ((zI M8 a0 10) + (1 : Int32))) fun M9 =>
            some M9
        ) fun y10 =>
      (lp_X5_pileUp_61 h v1 a0 fuel (0 : Int32) y10).bind fun z16 =>
      lt_ (v1 + (1 : Int32)) fun x17 =>
      lp_X5_pileUp_12 h a0 n x17 z16.2
set_option maxHeartbeats 4000000 in
set_option maxRecDepth 100000 in
theorem wlp_X5_pileUp_12 {l : Launch} {D : va_G} {cy : Nat → ClassId} {h : Hs} {a0 : Nat} {p : Program} {e : Env} {s : State} {m : MethodId} {args : Array Value} {below : List Frame} {meth : Method} {c : Code} {A : Nat → Prop} (X : Cx p s m args c cX5_pileUp 3 gtbl RX5 D cy A) {Q : State → Prop} (g_a0 : ok h a0 5) : ∀ (n : Nat) (v1 : Int32) (M : Mm) (z : (Int32 × Mm)) (H : Heap) (locs : List Loc) (ls : Array Slot), lp_X5_pileUp_12 h a0 n v1 M = some z → Wd D cy A s.heap h M H locs → lv_has ls 3 [(1, .int v1), (0, .ref a0)] → (∀ x : (Int32 × Mm), z = x → ∀ (H : Heap) (locs : List Loc) (ls : Array Slot), Wd D cy A s.heap h x.2 H locs → lv_has ls 3 [(1, .int x.1), (0, .ref a0)] → W p l e ({ frames := 2, cells := 0, slots := 0, locals := 51 } : Room) s m args below meth c H locs 0 0 Q (F0 m 91 ls [])) → W p l e ({ frames := 2, cells := 0, slots := 0, locals := 51 } : Room) s m args below meth c H locs 0 0 Q (F0 m 12 ls []) := by
  intro n
  induction n with
  | zero => intro v1 M z H locs ls hf hw hl kx; exact absurd hf (by intro q; cases q)
  | succ n ih =>
    intro v1 M z H locs ls hf hw hl kx
    unfold lp_X5_pileUp_12 at hf
    refine lv_iload_n X.1.1 X.1.2.1 dX5_pileUp_12 rfl (lv_at hl 0 rfl) ?_
    refine lv_aload_n X.1.1 X.1.2.1 dX5_pileUp_13 rfl (lv_at hl 1 rfl) ?_
    refine r_geti (k := 5) (j := 9) X hw rfl inX5 g_a0 rfl (by decide) (by decide) uf_X5_65 rfl dX5_pileUp_14 ?_
    refine lv_icmp_ge (tgt := 91) X.1.1 X.1.2.1 dX5_pileUp_17 (by decide) (fun c_3 => ?_) (fun c_3 => ?_)
    · skip
      rw [if_pos c_3] at hf
      cases hf
      exact kx _ rfl _ _ _ hw (lv_sub hl [0, 1] rfl)
    · skip
      rw [if_neg c_3] at hf
      refine lv_aload_n X.1.1 X.1.2.1 dX5_pileUp_20 rfl (lv_at hl 1 rfl) ?_
      refine r_geti (k := 5) (j := 10) X hw rfl inX5 g_a0 rfl (by decide) (by decide) uf_X5_84 rfl dX5_pileUp_21 ?_
      obtain ⟨y10, ey10, hf⟩ := obd hf
      have Jy10 : ∀ (H : Heap) (locs : List Loc) (ls : Array Slot), Wd D cy A s.heap h y10 H locs → lv_has ls 3 [(1, .int v1), (0, .ref a0)] → W p l e ({ frames := 2, cells := 0, slots := 0, locals := 51 } : Room) s m args below meth c H locs 0 0 Q (F0 m 59 ls []) := by
        intro H locs ls hw hl
        refine lv_iconst (v := (0 : Int32)) X.1.1 X.1.2.1 dX5_pileUp_59 (by decide) ?_
        refine lv_istore_n (lv' := [(2, .int (0 : Int32)), (1, .int v1), (0, .ref a0)]) X.1.1 X.1.2.1 dX5_pileUp_60 rfl hl (by decide) rfl (fun ls hl => ?_)
        obtain ⟨z16, ez16, hf⟩ := obd hf
        refine wlp_X5_pileUp_61 X g_a0 fuel _ _ _ _ _ _ ez16 hw (lv_sub hl [0, 1, 2] rfl) (fun x ex H locs ls hw hl => ?_)
        subst ex
        obtain ⟨x17, ex17, hf⟩ := olt hf
        refine lv_iinc (v := x17) (lv' := [(1, .int x17), (2, .int z16.1), (0, .ref a0)]) X.1.1 X.1.2.1 dX5_pileUp_85 hl (k := 1) rfl (by rw [ex17]; rfl) (by decide) rfl (fun ls hl => ?_)
        refine lv_goto (tgt := 12) X.1.1 X.1.2.1 dX5_pileUp_88 (by decide) ?_
        exact ih _ _ _ _ _ _ hf hw (lv_sub hl [0, 2] rfl) kx
      clear hf
      have hf := ey10
      clear ey10
      refine lv_if_lt (tgt := 59) X.1.1 X.1.2.1 dX5_pileUp_24 (by decide) (fun c_4 => ?_) (fun c_4 => ?_)
      · skip
        rw [if_pos c_4] at hf
        cases hf
        exact Jy10 _ _ _ hw (lv_sub hl [0, 1] rfl)
      · skip
        rw [if_neg c_4] at hf
        refine lv_aload_n X.1.1 X.1.2.1 dX5_pileUp_27 rfl (lv_at hl 1 rfl) ?_
        refine r_geti (k := 5) (j := 10) X hw rfl inX5 g_a0 rfl (by decide) (by decide) uf_X5_84 rfl dX5_pileUp_28 ?_
        refine lv_aload_n X.1.1 X.1.2.1 dX5_pileUp_31 rfl (lv_at hl 1 rfl) ?_
        obtain ⟨q5, eq5, hf⟩ := odq hf
        refine r_getq (k := 5) (j := 2) X hw rfl inX5 g_a0 rfl (by decide) (by decide) uf_X5_18 rfl dX5_pileUp_32 eq5 ?_
        obtain ⟨g_q5, hf⟩ := ogd hf
        refine r_alen X hw g_q5 (by decide) dX5_pileUp_35 ?_
        refine lv_icmp_ge (tgt := 59) X.1.1 X.1.2.1 dX5_pileUp_36 (by decide) (fun c_6 => ?_) (fun c_6 => ?_)
        · skip
          rw [if_pos c_6] at hf
          cases hf
          exact Jy10 _ _ _ hw (lv_sub hl [0, 1] rfl)
        · skip
          rw [if_neg c_6] at hf
          refine lv_aload_n X.1.1 X.1.2.1 dX5_pileUp_39 rfl (lv_at hl 1 rfl) ?_
          refine r_getq (k := 5) (j := 2) X hw rfl inX5 g_a0 rfl (by decide) (by decide) uf_X5_18 rfl dX5_pileUp_40 eq5 ?_
          refine lv_aload_n X.1.1 X.1.2.1 dX5_pileUp_43 rfl (lv_at hl 1 rfl) ?_
          refine r_geti (k := 5) (j := 10) X hw rfl inX5 g_a0 rfl (by decide) (by decide) uf_X5_84 rfl dX5_pileUp_44 ?_
          refine lv_iload_n X.1.1 X.1.2.1 dX5_pileUp_47 rfl (lv_at hl 0 rfl) ?_
          obtain ⟨i_7, hf⟩ := ogd hf
          refine r_iast X hw g_q5 i_7 dX5_pileUp_48 (fun H locs hw => ?_)
          obtain ⟨M8, eM8, hf⟩ := olt hf
          rw [← eM8] at hw
          refine lv_aload_n X.1.1 X.1.2.1 dX5_pileUp_49 rfl (lv_at hl 1 rfl) ?_
          refine lv_dup X.1.1 X.1.2.1 dX5_pileUp_50 rfl ?_
          refine r_geti (k := 5) (j := 10) X hw rfl inX5 g_a0 rfl (by decide) (by decide) uf_X5_84 rfl dX5_pileUp_51 ?_
          refine lv_iconst (v := (1 : Int32)) X.1.1 X.1.2.1 dX5_pileUp_54 (by decide) ?_
          refine lv_iadd X.1.1 X.1.2.1 dX5_pileUp_55 ?_
          refine r_puti (k := 5) (j := 10) X hw rfl inX5 tyX5_ok nmX5 g_a0 rfl (by decide) (by decide) uf_X5_84 rfl rfl rfl rfl dX5_pileUp_56 (fun H locs hw => ?_)
          obtain ⟨M9, eM9, hf⟩ := olt hf
          rw [← eM9] at hw
          cases hf
          exact Jy10 _ _ _ hw (lv_sub hl [0, 1] rfl)
def f_X5_pileUp (h : Hs) (a0 : Nat) (M : Mm) : Option Mm :=
  gd (ok h a0 5) <|
  lt_ (sI M a0 10 (0 : Int32)) fun M1 =>
  lt_ (sI M1 a0 11 (0 : Int32)) fun M2 =>
  (lp_X5_pileUp_12 h a0 fuel (0 : Int32) M2).bind fun z18 =>
  some z18.2
set_option maxHeartbeats 4000000 in
set_option maxRecDepth 100000 in
theorem c_X5_pileUp {l : Launch} {D : va_G} {cy : Nat → ClassId} {h : Hs} {a0 : Nat} {M : Mm} {z : Mm} (hf : f_X5_pileUp h a0 M = some z) : CtV l D cy yX5_pileUp (wu yX5_pileUp cX5_pileUp 3 none) ({ frames := 2, cells := 0, slots := 0, locals := 51 }) [.ref a0] h M z := by
  refine enterV (cc := cX5_pileUp) (maxL := 3) (ret := none) (by decide) (Nat.le_of_ble_eq_true rfl) ?_
  intro p e s m args below meth c A ls X hw hr hlk hl
  have hl : lv_has ls 3 [(0, .ref a0)] := hl
  unfold f_X5_pileUp at hf
  refine lv_aload_n X.1.1 X.1.2.1 dX5_pileUp_0 rfl (lv_at hl 0 rfl) ?_
  refine lv_iconst (v := (0 : Int32)) X.1.1 X.1.2.1 dX5_pileUp_1 (by decide) ?_
  obtain ⟨g_a0, hf⟩ := ogd hf
  refine r_puti (k := 5) (j := 10) X hw rfl inX5 tyX5_ok nmX5 g_a0 rfl (by decide) (by decide) uf_X5_84 rfl rfl rfl rfl dX5_pileUp_2 (fun H locs hw => ?_)
  obtain ⟨M1, eM1, hf⟩ := olt hf
  rw [← eM1] at hw
  refine lv_aload_n X.1.1 X.1.2.1 dX5_pileUp_5 rfl (lv_at hl 0 rfl) ?_
  refine lv_iconst (v := (0 : Int32)) X.1.1 X.1.2.1 dX5_pileUp_6 (by decide) ?_
  refine r_puti (k := 5) (j := 11) X hw rfl inX5 tyX5_ok nmX5 g_a0 rfl (by decide) (by decide) uf_X5_87 rfl rfl rfl rfl dX5_pileUp_7 (fun H locs hw => ?_)
  obtain ⟨M2, eM2, hf⟩ := olt hf
  rw [← eM2] at hw
  refine lv_iconst (v := (0 : Int32)) X.1.1 X.1.2.1 dX5_pileUp_10 (by decide) ?_
  refine lv_istore_n (lv' := [(1, .int (0 : Int32)), (0, .ref a0)]) X.1.1 X.1.2.1 dX5_pileUp_11 rfl hl (by decide) rfl (fun ls hl => ?_)
  obtain ⟨z18, ez18, hf⟩ := obd hf
  refine wlp_X5_pileUp_12 X g_a0 fuel _ _ _ _ _ _ ez18 hw (lv_sub hl [0, 1] rfl) (fun x ex H locs ls hw hl => ?_)
  subst ex
  cases hf
  exact r_retV X hw hr hlk dX5_pileUp_91
/-! X5_reckon -/
def lp_X5_reckon_25 (h : Hs) (w4 : Int32) (a0 : Nat) (p1 : Nat) (p2 : Nat) : Nat → Int32 → Mm → Option (Int32 × Mm)
  | 0, _, _ => none
  | n + 1, v5, M =>
    if w4 ≤ v5 then
      some (v5, M)
    else
      (f_X0_cellOf h p1 p2 v5 M).bind fun z6 =>
      Option.bind (
        if ¬ z6 = (2000000 : Int32) then
          if z6 = (3000000 : Int32) then
            some M
          else
            lt_ (sI M a0 7 ((zI M a0 7) + (1 : Int32))) fun M9 =>
            (f_X5_keep h a0 p2 z6 M9).bind fun z10 =>
            some z10
        else
          lt_ (sI M a0 6 ((zI M a0 6) + (1 : Int32))) fun M11 =>
          some M11
        ) fun y12 =>
      lt_ (v5 + (1 : Int32)) fun x13 =>
      lp_X5_reckon_25 h w4 a0 p1 p2 n x13 y12
set_option maxHeartbeats 4000000 in
set_option maxRecDepth 100000 in
theorem wlp_X5_reckon_25 {l : Launch} {D : va_G} {cy : Nat → ClassId} {h : Hs} {w4 : Int32} {a0 : Nat} {p1 : Nat} {p2 : Nat} {p : Program} {e : Env} {s : State} {m : MethodId} {args : Array Value} {below : List Frame} {meth : Method} {c : Code} {A : Nat → Prop} (X : Cx p s m args c cX5_reckon 7 gtbl RX5 D cy A) {Q : State → Prop} (g_a0 : ok h a0 5) (g_p1 : ok h p1 0) : ∀ (n : Nat) (v5 : Int32) (M : Mm) (z : (Int32 × Mm)) (H : Heap) (locs : List Loc) (ls : Array Slot), lp_X5_reckon_25 h w4 a0 p1 p2 n v5 M = some z → Wd D cy A s.heap h M H locs → lv_has ls 7 [(5, .int v5), (4, .int w4), (0, .ref a0), (1, .ref p1), (2, .ref p2)] → (∀ x : (Int32 × Mm), z = x → ∀ (H : Heap) (locs : List Loc) (ls : Array Slot), Wd D cy A s.heap h x.2 H locs → lv_has ls 7 [(5, .int x.1), (4, .int w4), (0, .ref a0), (1, .ref p1), (2, .ref p2)] → W p l e ({ frames := 4, cells := 0, slots := 0, locals := 89 } : Room) s m args below meth c H locs 0 0 Q (F0 m 91 ls [])) → W p l e ({ frames := 4, cells := 0, slots := 0, locals := 89 } : Room) s m args below meth c H locs 0 0 Q (F0 m 25 ls []) := by
  intro n
  induction n with
  | zero => intro v5 M z H locs ls hf hw hl kx; exact absurd hf (by intro q; cases q)
  | succ n ih =>
    intro v5 M z H locs ls hf hw hl kx
    unfold lp_X5_reckon_25 at hf
    refine lv_iload X.1.1 X.1.2.1 dX5_reckon_25 (lv_at hl 0 rfl) ?_
    refine lv_iload X.1.1 X.1.2.1 dX5_reckon_27 (lv_at hl 1 rfl) ?_
    refine lv_icmp_ge (tgt := 91) X.1.1 X.1.2.1 dX5_reckon_29 (by decide) (fun c_5 => ?_) (fun c_5 => ?_)
    · skip
      rw [if_pos c_5] at hf
      cases hf
      exact kx _ rfl _ _ _ hw (lv_sub hl [0, 1, 2, 3, 4] rfl)
    · skip
      rw [if_neg c_5] at hf
      refine lv_aload_n X.1.1 X.1.2.1 dX5_reckon_32 rfl (lv_at hl 3 rfl) ?_
      refine lv_aload_n X.1.1 X.1.2.1 dX5_reckon_33 rfl (lv_at hl 4 rfl) ?_
      refine lv_iload X.1.1 X.1.2.1 dX5_reckon_34 (lv_at hl 0 rfl) ?_
      obtain ⟨z6, ez6, hf⟩ := obd hf
      refine r_callVI (As := [.ref p2, .int v5]) (rest := []) X hw (c_X0_cellOf ez6) (cwV 2 X.1.2.2.2.2 (guV um_X5_46 ui_X0_cellOf us_X0_cellOf un_X0 uo_X0_cellOf) rfl rfl rfl (by decide +kernel) ⟨Nat.le_of_ble_eq_true rfl, Nat.le_of_ble_eq_true rfl⟩) g_p1 (by decide) rfl rfl hl.1 rfl (Nat.le_of_ble_eq_true rfl) dX5_reckon_36 ⟨Nat.zero_le _, Nat.zero_le _⟩ (fun H locs hw => ?_)
      refine lv_istore (lv' := [(6, .int z6), (5, .int v5), (4, .int w4), (0, .ref a0), (1, .ref p1), (2, .ref p2)]) X.1.1 X.1.2.1 dX5_reckon_39 hl (by decide) rfl (fun ls hl => ?_)
      refine lv_iload X.1.1 X.1.2.1 dX5_reckon_41 (lv_at hl 0 rfl) ?_
      refine lv_ldc (v := (2000000 : Int32)) X.1.1 X.1.2.1 X.1.2.2.2.1 (X.1.2.2.2.2 _ uc_X5_50) dX5_reckon_43 ?_
      obtain ⟨y12, ey12, hf⟩ := obd hf
      have Jy12 : ∀ (H : Heap) (locs : List Loc) (ls : Array Slot), Wd D cy A s.heap h y12 H locs → lv_has ls 7 [(5, .int v5), (4, .int w4), (0, .ref a0), (1, .ref p1), (2, .ref p2)] → W p l e ({ frames := 4, cells := 0, slots := 0, locals := 89 } : Room) s m args below meth c H locs 0 0 Q (F0 m 85 ls []) := by
        intro H locs ls hw hl
        obtain ⟨x13, ex13, hf⟩ := olt hf
        refine lv_iinc (v := x13) (lv' := [(5, .int x13), (4, .int w4), (0, .ref a0), (1, .ref p1), (2, .ref p2)]) X.1.1 X.1.2.1 dX5_reckon_85 hl (k := 0) rfl (by rw [ex13]; rfl) (by decide) rfl (fun ls hl => ?_)
        refine lv_goto (tgt := 25) X.1.1 X.1.2.1 dX5_reckon_88 (by decide) ?_
        exact ih _ _ _ _ _ _ hf hw (lv_sub hl [0, 1, 2, 3, 4] rfl) kx
      clear hf
      have hf := ey12
      clear ey12
      refine lv_icmp_ne (tgt := 61) X.1.1 X.1.2.1 dX5_reckon_45 (by decide) (fun c_7 => ?_) (fun c_7 => ?_)
      · skip
        rw [if_pos c_7] at hf
        refine lv_iload X.1.1 X.1.2.1 dX5_reckon_61 (lv_at hl 0 rfl) ?_
        refine lv_ldc (v := (3000000 : Int32)) X.1.1 X.1.2.1 X.1.2.2.2.1 (X.1.2.2.2.2 _ uc_X5_51) dX5_reckon_63 ?_
        refine lv_icmp_eq (tgt := 85) X.1.1 X.1.2.1 dX5_reckon_65 (by decide) (fun c_8 => ?_) (fun c_8 => ?_)
        · skip
          rw [if_pos c_8] at hf
          cases hf
          exact Jy12 _ _ _ hw (lv_sub hl [1, 2, 3, 4, 5] rfl)
        · skip
          rw [if_neg c_8] at hf
          refine lv_aload_n X.1.1 X.1.2.1 dX5_reckon_68 rfl (lv_at hl 3 rfl) ?_
          refine lv_dup X.1.1 X.1.2.1 dX5_reckon_69 rfl ?_
          refine r_geti (k := 5) (j := 7) X hw rfl inX5 g_a0 rfl (by decide) (by decide) uf_X5_34 rfl dX5_reckon_70 ?_
          refine lv_iconst (v := (1 : Int32)) X.1.1 X.1.2.1 dX5_reckon_73 (by decide) ?_
          refine lv_iadd X.1.1 X.1.2.1 dX5_reckon_74 ?_
          refine r_puti (k := 5) (j := 7) X hw rfl inX5 tyX5_ok nmX5 g_a0 rfl (by decide) (by decide) uf_X5_34 rfl rfl rfl rfl dX5_reckon_75 (fun H locs hw => ?_)
          obtain ⟨M9, eM9, hf⟩ := olt hf
          rw [← eM9] at hw
          refine lv_aload_n X.1.1 X.1.2.1 dX5_reckon_78 rfl (lv_at hl 3 rfl) ?_
          refine lv_aload_n X.1.1 X.1.2.1 dX5_reckon_79 rfl (lv_at hl 5 rfl) ?_
          refine lv_iload X.1.1 X.1.2.1 dX5_reckon_80 (lv_at hl 0 rfl) ?_
          obtain ⟨z10, ez10, hf⟩ := obd hf
          refine r_callVV (As := [.ref p2, .int z6]) (rest := []) X hw (c_X5_keep ez10) (cwV 2 X.1.2.2.2.2 (guV um_X5_52 ui_X5_keep us_X5_keep un_X5 uo_X5_keep) rfl rfl rfl (by decide +kernel) ⟨Nat.le_of_ble_eq_true rfl, Nat.le_of_ble_eq_true rfl⟩) g_a0 (by decide) rfl rfl hl.1 rfl (Nat.le_of_ble_eq_true rfl) dX5_reckon_82 ⟨Nat.zero_le _, Nat.zero_le _⟩ (fun H locs hw => ?_)
          cases hf
          exact Jy12 _ _ _ hw (lv_sub hl [1, 2, 3, 4, 5] rfl)
      · skip
        rw [if_neg (fun z => z c_7)] at hf
        refine lv_aload_n X.1.1 X.1.2.1 dX5_reckon_48 rfl (lv_at hl 3 rfl) ?_
        refine lv_dup X.1.1 X.1.2.1 dX5_reckon_49 rfl ?_
        refine r_geti (k := 5) (j := 6) X hw rfl inX5 g_a0 rfl (by decide) (by decide) uf_X5_30 rfl dX5_reckon_50 ?_
        refine lv_iconst (v := (1 : Int32)) X.1.1 X.1.2.1 dX5_reckon_53 (by decide) ?_
        refine lv_iadd X.1.1 X.1.2.1 dX5_reckon_54 ?_
        refine r_puti (k := 5) (j := 6) X hw rfl inX5 tyX5_ok nmX5 g_a0 rfl (by decide) (by decide) uf_X5_30 rfl rfl rfl rfl dX5_reckon_55 (fun H locs hw => ?_)
        obtain ⟨M11, eM11, hf⟩ := olt hf
        rw [← eM11] at hw
        refine lv_goto (tgt := 85) X.1.1 X.1.2.1 dX5_reckon_58 (by decide) ?_
        cases hf
        exact Jy12 _ _ _ hw (lv_sub hl [1, 2, 3, 4, 5] rfl)
def f_X5_reckon (h : Hs) (a0 : Nat) (p1 : Nat) (p2 : Nat) (p3 : Int32) (M : Mm) : Option Mm :=
  gd (ok h a0 5) <|
  lt_ (sI M a0 6 (0 : Int32)) fun M1 =>
  lt_ (sI M1 a0 7 (0 : Int32)) fun M2 =>
  lt_ (sI M2 a0 8 (0 : Int32)) fun M3 =>
  gd (ok h p1 0) <|
  (f_X0_spansOf h p1 p2 M3).bind fun z4 =>
  (lp_X5_reckon_25 h z4 a0 p1 p2 fuel p3 M3).bind fun z14 =>
  gd (ok h p2 4) <|
  Option.bind (
    if ¬ (zI z14.2 p2 1) = (2 : Int32) then
      some z14.2
    else
      dq (zR h a0 0) fun q16 =>
      (f_X5_copyTurns h q16 (zI z14.2 a0 8) q16 z14.2).bind fun z17 =>
      lt_ (sI z17.2 a0 8 z17.1) fun M18 =>
      some M18
    ) fun y19 =>
  dq (zR h a0 0) fun q20 =>
  dq (zR h a0 1) fun q21 =>
  (f_X5_copyTurns h q20 (zI y19 a0 8) q21 y19).bind fun z22 =>
  lt_ (sI z22.2 a0 9 z22.1) fun M23 =>
  (f_X5_pileUp h a0 M23).bind fun z24 =>
  some z24
set_option maxHeartbeats 4000000 in
set_option maxRecDepth 100000 in
theorem c_X5_reckon {l : Launch} {D : va_G} {cy : Nat → ClassId} {h : Hs} {a0 : Nat} {p1 : Nat} {p2 : Nat} {p3 : Int32} {M : Mm} {z : Mm} (hf : f_X5_reckon h a0 p1 p2 p3 M = some z) : CtV l D cy yX5_reckon (wu yX5_reckon cX5_reckon 7 none) ({ frames := 4, cells := 0, slots := 0, locals := 89 }) [.ref a0, .ref p1, .ref p2, .int p3] h M z := by
  refine enterV (cc := cX5_reckon) (maxL := 7) (ret := none) (by decide) (Nat.le_of_ble_eq_true rfl) ?_
  intro p e s m args below meth c A ls X hw hr hlk hl
  have hl : lv_has ls 7 [(0, .ref a0), (1, .ref p1), (2, .ref p2), (3, .int p3)] := hl
  unfold f_X5_reckon at hf
  refine lv_aload_n X.1.1 X.1.2.1 dX5_reckon_0 rfl (lv_at hl 0 rfl) ?_
  refine lv_iconst (v := (0 : Int32)) X.1.1 X.1.2.1 dX5_reckon_1 (by decide) ?_
  obtain ⟨g_a0, hf⟩ := ogd hf
  refine r_puti (k := 5) (j := 6) X hw rfl inX5 tyX5_ok nmX5 g_a0 rfl (by decide) (by decide) uf_X5_30 rfl rfl rfl rfl dX5_reckon_2 (fun H locs hw => ?_)
  obtain ⟨M1, eM1, hf⟩ := olt hf
  rw [← eM1] at hw
  refine lv_aload_n X.1.1 X.1.2.1 dX5_reckon_5 rfl (lv_at hl 0 rfl) ?_
  refine lv_iconst (v := (0 : Int32)) X.1.1 X.1.2.1 dX5_reckon_6 (by decide) ?_
  refine r_puti (k := 5) (j := 7) X hw rfl inX5 tyX5_ok nmX5 g_a0 rfl (by decide) (by decide) uf_X5_34 rfl rfl rfl rfl dX5_reckon_7 (fun H locs hw => ?_)
  obtain ⟨M2, eM2, hf⟩ := olt hf
  rw [← eM2] at hw
  refine lv_aload_n X.1.1 X.1.2.1 dX5_reckon_10 rfl (lv_at hl 0 rfl) ?_
  refine lv_iconst (v := (0 : Int32)) X.1.1 X.1.2.1 dX5_reckon_11 (by decide) ?_
  refine r_puti (k := 5) (j := 8) X hw rfl inX5 tyX5_ok nmX5 g_a0 rfl (by decide) (by decide) uf_X5_37 rfl rfl rfl rfl dX5_reckon_12 (fun H locs hw => ?_)
  obtain ⟨M3, eM3, hf⟩ := olt hf
  rw [← eM3] at hw
  refine lv_aload_n X.1.1 X.1.2.1 dX5_reckon_15 rfl (lv_at hl 1 rfl) ?_
  refine lv_aload_n X.1.1 X.1.2.1 dX5_reckon_16 rfl (lv_at hl 2 rfl) ?_
  obtain ⟨g_p1, hf⟩ := ogd hf
  obtain ⟨z4, ez4, hf⟩ := obd hf
  refine r_callVI (As := [.ref p2]) (rest := []) X hw (c_X0_spansOf ez4) (cwV 1 X.1.2.2.2.2 (guV um_X5_40 ui_X0_spansOf us_X0_spansOf un_X0 uo_X0_spansOf) rfl rfl rfl (by decide +kernel) ⟨Nat.le_of_ble_eq_true rfl, Nat.le_of_ble_eq_true rfl⟩) g_p1 (by decide) rfl rfl hl.1 rfl (Nat.le_of_ble_eq_true rfl) dX5_reckon_17 ⟨Nat.zero_le _, Nat.zero_le _⟩ (fun H locs hw => ?_)
  refine lv_istore (lv' := [(4, .int z4), (0, .ref a0), (1, .ref p1), (2, .ref p2), (3, .int p3)]) X.1.1 X.1.2.1 dX5_reckon_20 hl (by decide) rfl (fun ls hl => ?_)
  refine lv_iload_n X.1.1 X.1.2.1 dX5_reckon_22 rfl (lv_at hl 4 rfl) ?_
  refine lv_istore (lv' := [(5, .int p3), (4, .int z4), (0, .ref a0), (1, .ref p1), (2, .ref p2), (3, .int p3)]) X.1.1 X.1.2.1 dX5_reckon_23 hl (by decide) rfl (fun ls hl => ?_)
  obtain ⟨z14, ez14, hf⟩ := obd hf
  refine wlp_X5_reckon_25 X g_a0 g_p1 fuel _ _ _ _ _ _ ez14 hw (lv_sub hl [0, 1, 2, 3, 4] rfl) (fun x ex H locs ls hw hl => ?_)
  subst ex
  refine lv_aload_n X.1.1 X.1.2.1 dX5_reckon_91 rfl (lv_at hl 4 rfl) ?_
  obtain ⟨g_p2, hf⟩ := ogd hf
  refine r_geti (k := 4) (j := 1) X hw rfl inX4 g_p2 rfl (by decide) (by decide) uf_X5_56 rfl dX5_reckon_92 ?_
  refine lv_iconst (v := (2 : Int32)) X.1.1 X.1.2.1 dX5_reckon_95 (by decide) ?_
  obtain ⟨y19, ey19, hf⟩ := obd hf
  have Jy19 : ∀ (H : Heap) (locs : List Loc) (ls : Array Slot), Wd D cy A s.heap h y19 H locs → lv_has ls 7 [(0, .ref a0)] → W p l e ({ frames := 4, cells := 0, slots := 0, locals := 89 } : Room) s m args below meth c H locs 0 0 (QV below D cy A h args s z) (F0 m 118 ls []) := by
    intro H locs ls hw hl
    refine lv_aload_n X.1.1 X.1.2.1 dX5_reckon_118 rfl (lv_at hl 0 rfl) ?_
    refine lv_aload_n X.1.1 X.1.2.1 dX5_reckon_119 rfl (lv_at hl 0 rfl) ?_
    obtain ⟨q20, eq20, hf⟩ := odq hf
    refine r_getq (k := 5) (j := 0) X hw rfl inX5 g_a0 rfl (by decide) (by decide) uf_X5_9 rfl dX5_reckon_120 eq20 ?_
    refine lv_aload_n X.1.1 X.1.2.1 dX5_reckon_123 rfl (lv_at hl 0 rfl) ?_
    refine r_geti (k := 5) (j := 8) X hw rfl inX5 g_a0 rfl (by decide) (by decide) uf_X5_37 rfl dX5_reckon_124 ?_
    refine lv_aload_n X.1.1 X.1.2.1 dX5_reckon_127 rfl (lv_at hl 0 rfl) ?_
    obtain ⟨q21, eq21, hf⟩ := odq hf
    refine r_getq (k := 5) (j := 1) X hw rfl inX5 g_a0 rfl (by decide) (by decide) uf_X5_15 rfl dX5_reckon_128 eq21 ?_
    obtain ⟨z22, ez22, hf⟩ := obd hf
    refine r_callSI (As := [.ref q20, .int (zI y19 a0 8), .ref q21]) (rest := [.ref a0]) X hw (c_X5_copyTurns ez22) (va_cwS 3 X.1.2.2.2.2 (guS um_X5_61 ut_X5_copyTurns un_X5 uo_X5_copyTurns) rfl rfl rfl (by decide +kernel) ⟨Nat.le_of_ble_eq_true rfl, Nat.le_of_ble_eq_true rfl⟩) rfl hl.1 rfl (Nat.le_of_ble_eq_true rfl) dX5_reckon_131 ⟨Nat.zero_le _, Nat.zero_le _⟩ (fun H locs hw => ?_)
    refine r_puti (k := 5) (j := 9) X hw rfl inX5 tyX5_ok nmX5 g_a0 rfl (by decide) (by decide) uf_X5_65 rfl rfl rfl rfl dX5_reckon_134 (fun H locs hw => ?_)
    obtain ⟨M23, eM23, hf⟩ := olt hf
    rw [← eM23] at hw
    refine lv_aload_n X.1.1 X.1.2.1 dX5_reckon_137 rfl (lv_at hl 0 rfl) ?_
    obtain ⟨z24, ez24, hf⟩ := obd hf
    refine r_callVV (As := []) (rest := []) X hw (c_X5_pileUp ez24) (cwV 0 X.1.2.2.2.2 (guV um_X5_68 ui_X5_pileUp us_X5_pileUp un_X5 uo_X5_pileUp) rfl rfl rfl (by decide +kernel) ⟨Nat.le_of_ble_eq_true rfl, Nat.le_of_ble_eq_true rfl⟩) g_a0 (by decide) rfl rfl hl.1 rfl (Nat.le_of_ble_eq_true rfl) dX5_reckon_138 ⟨Nat.zero_le _, Nat.zero_le _⟩ (fun H locs hw => ?_)
    cases hf
    exact r_retV X hw hr hlk dX5_reckon_141
  clear hf
  have hf := ey19
  clear ey19
  refine lv_icmp_ne (tgt := 118) X.1.1 X.1.2.1 dX5_reckon_96 (by decide) (fun c_15 => ?_) (fun c_15 => ?_)
  · skip
    rw [if_pos c_15] at hf
    cases hf
    exact Jy19 _ _ _ hw (lv_sub hl [2] rfl)
  · skip
    rw [if_neg (fun z => z c_15)] at hf
    refine lv_aload_n X.1.1 X.1.2.1 dX5_reckon_99 rfl (lv_at hl 2 rfl) ?_
    refine lv_aload_n X.1.1 X.1.2.1 dX5_reckon_100 rfl (lv_at hl 2 rfl) ?_
    obtain ⟨q16, eq16, hf⟩ := odq hf
    refine r_getq (k := 5) (j := 0) X hw rfl inX5 g_a0 rfl (by decide) (by decide) uf_X5_9 rfl dX5_reckon_101 eq16 ?_
    refine lv_aload_n X.1.1 X.1.2.1 dX5_reckon_104 rfl (lv_at hl 2 rfl) ?_
    refine r_geti (k := 5) (j := 8) X hw rfl inX5 g_a0 rfl (by decide) (by decide) uf_X5_37 rfl dX5_reckon_105 ?_
    refine lv_aload_n X.1.1 X.1.2.1 dX5_reckon_108 rfl (lv_at hl 2 rfl) ?_
    refine r_getq (k := 5) (j := 0) X hw rfl inX5 g_a0 rfl (by decide) (by decide) uf_X5_9 rfl dX5_reckon_109 eq16 ?_
    obtain ⟨z17, ez17, hf⟩ := obd hf
    refine r_callSI (As := [.ref q16, .int (zI z14.2 a0 8), .ref q16]) (rest := [.ref a0]) X hw (c_X5_copyTurns ez17) (va_cwS 3 X.1.2.2.2.2 (guS um_X5_61 ut_X5_copyTurns un_X5 uo_X5_copyTurns) rfl rfl rfl (by decide +kernel) ⟨Nat.le_of_ble_eq_true rfl, Nat.le_of_ble_eq_true rfl⟩) rfl hl.1 rfl (Nat.le_of_ble_eq_true rfl) dX5_reckon_112 ⟨Nat.zero_le _, Nat.zero_le _⟩ (fun H locs hw => ?_)
    refine r_puti (k := 5) (j := 8) X hw rfl inX5 tyX5_ok nmX5 g_a0 rfl (by decide) (by decide) uf_X5_37 rfl rfl rfl rfl dX5_reckon_115 (fun H locs hw => ?_)
    obtain ⟨M18, eM18, hf⟩ := olt hf
    rw [← eM18] at hw
    cases hf
    exact Jy19 _ _ _ hw (lv_sub hl [2] rfl)
/-! X5_firstOf -/
def f_X5_firstOf (h : Hs) (a0 : Nat) (p1 : Int32) (M : Mm) : Option Int32 :=
  if p1 < 0 then
    some (0 : Int32)
  else
    gd (ok h a0 5) <|
    dq (zR h a0 3) fun q2 =>
    gd (ok h q2 11) <|
    if (Int32.ofNat (zN h q2)) ≤ p1 then
      some (0 : Int32)
    else
      gd (inb p1 (zN h q2)) <|
      some (zI M q2 p1.toNatClampNeg)
set_option maxHeartbeats 4000000 in
set_option maxRecDepth 100000 in
theorem c_X5_firstOf {l : Launch} {D : va_G} {cy : Nat → ClassId} {h : Hs} {a0 : Nat} {p1 : Int32} {M : Mm} {z : Int32} (hf : f_X5_firstOf h a0 p1 M = some z) : CtI l D cy yX5_firstOf (wu yX5_firstOf cX5_firstOf 2 (some .int)) ({ frames := 0, cells := 0, slots := 0, locals := 0 }) [.ref a0, .int p1] h M z M := by
  refine enterI (cc := cX5_firstOf) (maxL := 2) (ret := (some .int)) (by decide) (Nat.le_of_ble_eq_true rfl) ?_
  intro p e s m args below meth c A ls X hw hr hlk hl
  have hl : lv_has ls 2 [(0, .ref a0), (1, .int p1)] := hl
  unfold f_X5_firstOf at hf
  refine lv_iload_n X.1.1 X.1.2.1 dX5_firstOf_0 rfl (lv_at hl 1 rfl) ?_
  refine lv_if_lt (tgt := 22) X.1.1 X.1.2.1 dX5_firstOf_1 (by decide) (fun c_1 => ?_) (fun c_1 => ?_)
  · skip
    rw [if_pos c_1] at hf
    refine lv_iconst (v := (0 : Int32)) X.1.1 X.1.2.1 dX5_firstOf_22 (by decide) ?_
    cases hf
    exact r_retI X hw hr hlk rfl dX5_firstOf_23
  · skip
    rw [if_neg c_1] at hf
    refine lv_iload_n X.1.1 X.1.2.1 dX5_firstOf_4 rfl (lv_at hl 1 rfl) ?_
    refine lv_aload_n X.1.1 X.1.2.1 dX5_firstOf_5 rfl (lv_at hl 0 rfl) ?_
    obtain ⟨g_a0, hf⟩ := ogd hf
    obtain ⟨q2, eq2, hf⟩ := odq hf
    refine r_getq (k := 5) (j := 3) X hw rfl inX5 g_a0 rfl (by decide) (by decide) uf_X5_21 rfl dX5_firstOf_6 eq2 ?_
    obtain ⟨g_q2, hf⟩ := ogd hf
    refine r_alen X hw g_q2 (by decide) dX5_firstOf_9 ?_
    refine lv_icmp_ge (tgt := 22) X.1.1 X.1.2.1 dX5_firstOf_10 (by decide) (fun c_3 => ?_) (fun c_3 => ?_)
    · skip
      rw [if_pos c_3] at hf
      refine lv_iconst (v := (0 : Int32)) X.1.1 X.1.2.1 dX5_firstOf_22 (by decide) ?_
      cases hf
      exact r_retI X hw hr hlk rfl dX5_firstOf_23
    · skip
      rw [if_neg c_3] at hf
      refine lv_aload_n X.1.1 X.1.2.1 dX5_firstOf_13 rfl (lv_at hl 0 rfl) ?_
      refine r_getq (k := 5) (j := 3) X hw rfl inX5 g_a0 rfl (by decide) (by decide) uf_X5_21 rfl dX5_firstOf_14 eq2 ?_
      refine lv_iload_n X.1.1 X.1.2.1 dX5_firstOf_17 rfl (lv_at hl 1 rfl) ?_
      obtain ⟨i_4, hf⟩ := ogd hf
      refine r_iald X hw g_q2 i_4 dX5_firstOf_18 ?_
      refine lv_goto (tgt := 23) X.1.1 X.1.2.1 dX5_firstOf_19 (by decide) ?_
      cases hf
      exact r_retI X hw hr hlk rfl dX5_firstOf_23
/-! X5_secondOf -/
def f_X5_secondOf (h : Hs) (a0 : Nat) (p1 : Int32) (M : Mm) : Option Int32 :=
  if p1 < 0 then
    some (0 : Int32)
  else
    gd (ok h a0 5) <|
    dq (zR h a0 4) fun q2 =>
    gd (ok h q2 11) <|
    if (Int32.ofNat (zN h q2)) ≤ p1 then
      some (0 : Int32)
    else
      gd (inb p1 (zN h q2)) <|
      some (zI M q2 p1.toNatClampNeg)
set_option maxHeartbeats 4000000 in
set_option maxRecDepth 100000 in
theorem c_X5_secondOf {l : Launch} {D : va_G} {cy : Nat → ClassId} {h : Hs} {a0 : Nat} {p1 : Int32} {M : Mm} {z : Int32} (hf : f_X5_secondOf h a0 p1 M = some z) : CtI l D cy yX5_secondOf (wu yX5_secondOf cX5_secondOf 2 (some .int)) ({ frames := 0, cells := 0, slots := 0, locals := 0 }) [.ref a0, .int p1] h M z M := by
  refine enterI (cc := cX5_secondOf) (maxL := 2) (ret := (some .int)) (by decide) (Nat.le_of_ble_eq_true rfl) ?_
  intro p e s m args below meth c A ls X hw hr hlk hl
  have hl : lv_has ls 2 [(0, .ref a0), (1, .int p1)] := hl
  unfold f_X5_secondOf at hf
  refine lv_iload_n X.1.1 X.1.2.1 dX5_secondOf_0 rfl (lv_at hl 1 rfl) ?_
  refine lv_if_lt (tgt := 22) X.1.1 X.1.2.1 dX5_secondOf_1 (by decide) (fun c_1 => ?_) (fun c_1 => ?_)
  · skip
    rw [if_pos c_1] at hf
    refine lv_iconst (v := (0 : Int32)) X.1.1 X.1.2.1 dX5_secondOf_22 (by decide) ?_
    cases hf
    exact r_retI X hw hr hlk rfl dX5_secondOf_23
  · skip
    rw [if_neg c_1] at hf
    refine lv_iload_n X.1.1 X.1.2.1 dX5_secondOf_4 rfl (lv_at hl 1 rfl) ?_
    refine lv_aload_n X.1.1 X.1.2.1 dX5_secondOf_5 rfl (lv_at hl 0 rfl) ?_
    obtain ⟨g_a0, hf⟩ := ogd hf
    obtain ⟨q2, eq2, hf⟩ := odq hf
    refine r_getq (k := 5) (j := 4) X hw rfl inX5 g_a0 rfl (by decide) (by decide) uf_X5_24 rfl dX5_secondOf_6 eq2 ?_
    obtain ⟨g_q2, hf⟩ := ogd hf
    refine r_alen X hw g_q2 (by decide) dX5_secondOf_9 ?_
    refine lv_icmp_ge (tgt := 22) X.1.1 X.1.2.1 dX5_secondOf_10 (by decide) (fun c_3 => ?_) (fun c_3 => ?_)
    · skip
      rw [if_pos c_3] at hf
      refine lv_iconst (v := (0 : Int32)) X.1.1 X.1.2.1 dX5_secondOf_22 (by decide) ?_
      cases hf
      exact r_retI X hw hr hlk rfl dX5_secondOf_23
    · skip
      rw [if_neg c_3] at hf
      refine lv_aload_n X.1.1 X.1.2.1 dX5_secondOf_13 rfl (lv_at hl 0 rfl) ?_
      refine r_getq (k := 5) (j := 4) X hw rfl inX5 g_a0 rfl (by decide) (by decide) uf_X5_24 rfl dX5_secondOf_14 eq2 ?_
      refine lv_iload_n X.1.1 X.1.2.1 dX5_secondOf_17 rfl (lv_at hl 1 rfl) ?_
      obtain ⟨i_4, hf⟩ := ogd hf
      refine r_iald X hw g_q2 i_4 dX5_secondOf_18 ?_
      refine lv_goto (tgt := 23) X.1.1 X.1.2.1 dX5_secondOf_19 (by decide) ?_
      cases hf
      exact r_retI X hw hr hlk rfl dX5_secondOf_23
/-! X5_closerOf -/
def f_X5_closerOf (h : Hs) (a0 : Nat) (p1 : Int32) (M : Mm) : Option Int32 :=
  if p1 < 0 then
    some (0 : Int32)
  else
    gd (ok h a0 5) <|
    dq (zR h a0 5) fun q2 =>
    gd (ok h q2 11) <|
    if (Int32.ofNat (zN h q2)) ≤ p1 then
      some (0 : Int32)
    else
      gd (inb p1 (zN h q2)) <|
      some (zI M q2 p1.toNatClampNeg)
set_option maxHeartbeats 4000000 in
set_option maxRecDepth 100000 in
theorem c_X5_closerOf {l : Launch} {D : va_G} {cy : Nat → ClassId} {h : Hs} {a0 : Nat} {p1 : Int32} {M : Mm} {z : Int32} (hf : f_X5_closerOf h a0 p1 M = some z) : CtI l D cy yX5_closerOf (wu yX5_closerOf cX5_closerOf 2 (some .int)) ({ frames := 0, cells := 0, slots := 0, locals := 0 }) [.ref a0, .int p1] h M z M := by
  refine enterI (cc := cX5_closerOf) (maxL := 2) (ret := (some .int)) (by decide) (Nat.le_of_ble_eq_true rfl) ?_
  intro p e s m args below meth c A ls X hw hr hlk hl
  have hl : lv_has ls 2 [(0, .ref a0), (1, .int p1)] := hl
  unfold f_X5_closerOf at hf
  refine lv_iload_n X.1.1 X.1.2.1 dX5_closerOf_0 rfl (lv_at hl 1 rfl) ?_
  refine lv_if_lt (tgt := 22) X.1.1 X.1.2.1 dX5_closerOf_1 (by decide) (fun c_1 => ?_) (fun c_1 => ?_)
  · skip
    rw [if_pos c_1] at hf
    refine lv_iconst (v := (0 : Int32)) X.1.1 X.1.2.1 dX5_closerOf_22 (by decide) ?_
    cases hf
    exact r_retI X hw hr hlk rfl dX5_closerOf_23
  · skip
    rw [if_neg c_1] at hf
    refine lv_iload_n X.1.1 X.1.2.1 dX5_closerOf_4 rfl (lv_at hl 1 rfl) ?_
    refine lv_aload_n X.1.1 X.1.2.1 dX5_closerOf_5 rfl (lv_at hl 0 rfl) ?_
    obtain ⟨g_a0, hf⟩ := ogd hf
    obtain ⟨q2, eq2, hf⟩ := odq hf
    refine r_getq (k := 5) (j := 5) X hw rfl inX5 g_a0 rfl (by decide) (by decide) uf_X5_27 rfl dX5_closerOf_6 eq2 ?_
    obtain ⟨g_q2, hf⟩ := ogd hf
    refine r_alen X hw g_q2 (by decide) dX5_closerOf_9 ?_
    refine lv_icmp_ge (tgt := 22) X.1.1 X.1.2.1 dX5_closerOf_10 (by decide) (fun c_3 => ?_) (fun c_3 => ?_)
    · skip
      rw [if_pos c_3] at hf
      refine lv_iconst (v := (0 : Int32)) X.1.1 X.1.2.1 dX5_closerOf_22 (by decide) ?_
      cases hf
      exact r_retI X hw hr hlk rfl dX5_closerOf_23
    · skip
      rw [if_neg c_3] at hf
      refine lv_aload_n X.1.1 X.1.2.1 dX5_closerOf_13 rfl (lv_at hl 0 rfl) ?_
      refine r_getq (k := 5) (j := 5) X hw rfl inX5 g_a0 rfl (by decide) (by decide) uf_X5_27 rfl dX5_closerOf_14 eq2 ?_
      refine lv_iload_n X.1.1 X.1.2.1 dX5_closerOf_17 rfl (lv_at hl 1 rfl) ?_
      obtain ⟨i_4, hf⟩ := ogd hf
      refine r_iald X hw g_q2 i_4 dX5_closerOf_18 ?_
      refine lv_goto (tgt := 23) X.1.1 X.1.2.1 dX5_closerOf_19 (by decide) ?_
      cases hf
      exact r_retI X hw hr hlk rfl dX5_closerOf_23
/-! X6_hasRoom -/
def f_X6_hasRoom (h : Hs) (a0 : Nat) (p1 : Int32) (M : Mm) : Option Int32 :=
  gd (ok h a0 6) <|
  dq (zR h a0 0) fun q1 =>
  gd (ok h q1 10) <|
  if ((Int32.ofNat (zN h q1)) - (zI M a0 1)) < p1 then
    some (0 : Int32)
  else
    some (1 : Int32)
set_option maxHeartbeats 4000000 in
set_option maxRecDepth 100000 in
theorem c_X6_hasRoom {l : Launch} {D : va_G} {cy : Nat → ClassId} {h : Hs} {a0 : Nat} {p1 : Int32} {M : Mm} {z : Int32} (hf : f_X6_hasRoom h a0 p1 M = some z) : CtI l D cy yX6_hasRoom (wu yX6_hasRoom cX6_hasRoom 2 (some .boolean)) ({ frames := 0, cells := 0, slots := 0, locals := 0 }) [.ref a0, .int p1] h M z M := by
  refine enterI (cc := cX6_hasRoom) (maxL := 2) (ret := (some .boolean)) (by decide) (Nat.le_of_ble_eq_true rfl) ?_
  intro p e s m args below meth c A ls X hw hr hlk hl
  have hl : lv_has ls 2 [(0, .ref a0), (1, .int p1)] := hl
  unfold f_X6_hasRoom at hf
  refine lv_iload_n X.1.1 X.1.2.1 dX6_hasRoom_0 rfl (lv_at hl 1 rfl) ?_
  refine lv_aload_n X.1.1 X.1.2.1 dX6_hasRoom_1 rfl (lv_at hl 0 rfl) ?_
  obtain ⟨g_a0, hf⟩ := ogd hf
  obtain ⟨q1, eq1, hf⟩ := odq hf
  refine r_getq (k := 6) (j := 0) X hw rfl inX6 g_a0 rfl (by decide) (by decide) uf_X6_9 rfl dX6_hasRoom_2 eq1 ?_
  obtain ⟨g_q1, hf⟩ := ogd hf
  refine r_alen X hw g_q1 (by decide) dX6_hasRoom_5 ?_
  refine lv_aload_n X.1.1 X.1.2.1 dX6_hasRoom_6 rfl (lv_at hl 0 rfl) ?_
  refine r_geti (k := 6) (j := 1) X hw rfl inX6 g_a0 rfl (by decide) (by decide) uf_X6_15 rfl dX6_hasRoom_7 ?_
  refine lv_isub X.1.1 X.1.2.1 dX6_hasRoom_10 ?_
  refine lv_icmp_gt (tgt := 18) X.1.1 X.1.2.1 dX6_hasRoom_11 (by decide) (fun c_2 => ?_) (fun c_2 => ?_)
  · skip
    rw [if_pos c_2] at hf
    refine lv_iconst (v := (0 : Int32)) X.1.1 X.1.2.1 dX6_hasRoom_18 (by decide) ?_
    cases hf
    exact r_retI X hw hr hlk rfl dX6_hasRoom_19
  · skip
    rw [if_neg c_2] at hf
    refine lv_iconst (v := (1 : Int32)) X.1.1 X.1.2.1 dX6_hasRoom_14 (by decide) ?_
    refine lv_goto (tgt := 19) X.1.1 X.1.2.1 dX6_hasRoom_15 (by decide) ?_
    cases hf
    exact r_retI X hw hr hlk rfl dX6_hasRoom_19
/-! X6_append -/
def lp_X6_append_3 (h : Hs) (w1 : Int32) (a0 : Nat) : Nat → Int32 → Mm → Option (Int32 × Mm)
  | 0, _, _ => none
  | n + 1, v2, M =>
    if v2 < 0 then
      some (v2, M)
    else
      gd (ok h a0 6) <|
      Option.bind (
        if (zI M a0 1) < 0 then
          some M
        else
          dq (zR h a0 0) fun q3 =>
          gd (ok h q3 10) <|
          if (Int32.ofNat (zN h q3)) ≤ (zI M a0 1) then
            some M
          else
            gd (inb (zI M a0 1) (zN h q3)) <|
            lt_ (sI M q3 (zI M a0 1).toNatClampNeg (((w1 >>> (v2 &&& 31)).toInt8.toInt32).toInt8.toInt32)) fun M6 =>
            lt_ (sI M6 a0 1 ((zI M6 a0 1) + (1 : Int32))) fun M7 =>
            some M7
        ) fun y8 =>
      lt_ (v2 + (-8 : Int32)) fun x9 =>
      lp_X6_append_3 h w1 a0 n x9 y8
set_option maxHeartbeats 4000000 in
set_option maxRecDepth 100000 in
theorem wlp_X6_append_3 {l : Launch} {D : va_G} {cy : Nat → ClassId} {h : Hs} {w1 : Int32} {a0 : Nat} {p : Program} {e : Env} {s : State} {m : MethodId} {args : Array Value} {below : List Frame} {meth : Method} {c : Code} {A : Nat → Prop} (X : Cx p s m args c cX6_append 3 gtbl RX6 D cy A) {Q : State → Prop} : ∀ (n : Nat) (v2 : Int32) (M : Mm) (z : (Int32 × Mm)) (H : Heap) (locs : List Loc) (ls : Array Slot), lp_X6_append_3 h w1 a0 n v2 M = some z → Wd D cy A s.heap h M H locs → lv_has ls 3 [(2, .int v2), (0, .ref a0), (1, .int w1)] → (∀ x : (Int32 × Mm), z = x → ∀ (H : Heap) (locs : List Loc) (ls : Array Slot), Wd D cy A s.heap h x.2 H locs → lv_has ls 3 [(2, .int x.1), (0, .ref a0), (1, .int w1)] → W p l e ({ frames := 0, cells := 0, slots := 0, locals := 0 } : Room) s m args below meth c H locs 0 0 Q (F0 m 55 ls [])) → W p l e ({ frames := 0, cells := 0, slots := 0, locals := 0 } : Room) s m args below meth c H locs 0 0 Q (F0 m 3 ls []) := by
  intro n
  induction n with
  | zero => intro v2 M z H locs ls hf hw hl kx; exact absurd hf (by intro q; cases q)
  | succ n ih =>
    intro v2 M z H locs ls hf hw hl kx
    unfold lp_X6_append_3 at hf
    refine lv_iload_n X.1.1 X.1.2.1 dX6_append_3 rfl (lv_at hl 0 rfl) ?_
    refine lv_if_lt (tgt := 55) X.1.1 X.1.2.1 dX6_append_4 (by decide) (fun c_1 => ?_) (fun c_1 => ?_)
    · skip
      rw [if_pos c_1] at hf
      cases hf
      exact kx _ rfl _ _ _ hw (lv_sub hl [0, 1, 2] rfl)
    · skip
      rw [if_neg c_1] at hf
      refine lv_aload_n X.1.1 X.1.2.1 dX6_append_7 rfl (lv_at hl 1 rfl) ?_
      obtain ⟨g_a0, hf⟩ := ogd hf
      refine r_geti (k := 6) (j := 1) X hw rfl inX6 g_a0 rfl (by decide) (by decide) uf_X6_15 rfl dX6_append_8 ?_
      obtain ⟨y8, ey8, hf⟩ := obd hf
      have Jy8 : ∀ (H : Heap) (locs : List Loc) (ls : Array Slot), Wd D cy A s.heap h y8 H locs → lv_has ls 3 [(2, .int v2), (0, .ref a0), (1, .int w1)] → W p l e ({ frames := 0, cells := 0, slots := 0, locals := 0 } : Room) s m args below meth c H locs 0 0 Q (F0 m 49 ls []) := by
        intro H locs ls hw hl
        obtain ⟨x9, ex9, hf⟩ := olt hf
        refine lv_iinc (v := x9) (lv' := [(2, .int x9), (0, .ref a0), (1, .int w1)]) X.1.1 X.1.2.1 dX6_append_49 hl (k := 0) rfl (by rw [ex9]; rfl) (by decide) rfl (fun ls hl => ?_)
        refine lv_goto (tgt := 3) X.1.1 X.1.2.1 dX6_append_52 (by decide) ?_
        exact ih _ _ _ _ _ _ hf hw (lv_sub hl [0, 1, 2] rfl) kx
      clear hf
      have hf := ey8
      clear ey8
      refine lv_if_lt (tgt := 49) X.1.1 X.1.2.1 dX6_append_11 (by decide) (fun c_2 => ?_) (fun c_2 => ?_)
      · skip
        rw [if_pos c_2] at hf
        cases hf
        exact Jy8 _ _ _ hw (lv_sub hl [0, 1, 2] rfl)
      · skip
        rw [if_neg c_2] at hf
        refine lv_aload_n X.1.1 X.1.2.1 dX6_append_14 rfl (lv_at hl 1 rfl) ?_
        refine r_geti (k := 6) (j := 1) X hw rfl inX6 g_a0 rfl (by decide) (by decide) uf_X6_15 rfl dX6_append_15 ?_
        refine lv_aload_n X.1.1 X.1.2.1 dX6_append_18 rfl (lv_at hl 1 rfl) ?_
        obtain ⟨q3, eq3, hf⟩ := odq hf
        refine r_getq (k := 6) (j := 0) X hw rfl inX6 g_a0 rfl (by decide) (by decide) uf_X6_9 rfl dX6_append_19 eq3 ?_
        obtain ⟨g_q3, hf⟩ := ogd hf
        refine r_alen X hw g_q3 (by decide) dX6_append_22 ?_
        refine lv_icmp_ge (tgt := 49) X.1.1 X.1.2.1 dX6_append_23 (by decide) (fun c_4 => ?_) (fun c_4 => ?_)
        · skip
          rw [if_pos c_4] at hf
          cases hf
          exact Jy8 _ _ _ hw (lv_sub hl [0, 1, 2] rfl)
        · skip
          rw [if_neg c_4] at hf
          refine lv_aload_n X.1.1 X.1.2.1 dX6_append_26 rfl (lv_at hl 1 rfl) ?_
          refine r_getq (k := 6) (j := 0) X hw rfl inX6 g_a0 rfl (by decide) (by decide) uf_X6_9 rfl dX6_append_27 eq3 ?_
          refine lv_aload_n X.1.1 X.1.2.1 dX6_append_30 rfl (lv_at hl 1 rfl) ?_
          refine r_geti (k := 6) (j := 1) X hw rfl inX6 g_a0 rfl (by decide) (by decide) uf_X6_15 rfl dX6_append_31 ?_
          refine lv_iload_n X.1.1 X.1.2.1 dX6_append_34 rfl (lv_at hl 2 rfl) ?_
          refine lv_iload_n X.1.1 X.1.2.1 dX6_append_35 rfl (lv_at hl 0 rfl) ?_
          refine lv_ishr X.1.1 X.1.2.1 dX6_append_36 ?_
          refine lv_i2b X.1.1 X.1.2.1 dX6_append_37 rfl ?_
          obtain ⟨i_5, hf⟩ := ogd hf
          refine r_bast X hw g_q3 i_5 dX6_append_38 (fun H locs hw => ?_)
          obtain ⟨M6, eM6, hf⟩ := olt hf
          rw [← eM6] at hw
          refine lv_aload_n X.1.1 X.1.2.1 dX6_append_39 rfl (lv_at hl 1 rfl) ?_
          refine lv_dup X.1.1 X.1.2.1 dX6_append_40 rfl ?_
          refine r_geti (k := 6) (j := 1) X hw rfl inX6 g_a0 rfl (by decide) (by decide) uf_X6_15 rfl dX6_append_41 ?_
          refine lv_iconst (v := (1 : Int32)) X.1.1 X.1.2.1 dX6_append_44 (by decide) ?_
          refine lv_iadd X.1.1 X.1.2.1 dX6_append_45 ?_
          refine r_puti (k := 6) (j := 1) X hw rfl inX6 tyX6_ok nmX6 g_a0 rfl (by decide) (by decide) uf_X6_15 rfl rfl rfl rfl dX6_append_46 (fun H locs hw => ?_)
          obtain ⟨M7, eM7, hf⟩ := olt hf
          rw [← eM7] at hw
          cases hf
          exact Jy8 _ _ _ hw (lv_sub hl [0, 1, 2] rfl)
def f_X6_append (h : Hs) (a0 : Nat) (p1 : Int32) (M : Mm) : Option Mm :=
  (lp_X6_append_3 h p1 a0 fuel (24 : Int32) M).bind fun z10 =>
  some z10.2
set_option maxHeartbeats 4000000 in
set_option maxRecDepth 100000 in
theorem c_X6_append {l : Launch} {D : va_G} {cy : Nat → ClassId} {h : Hs} {a0 : Nat} {p1 : Int32} {M : Mm} {z : Mm} (hf : f_X6_append h a0 p1 M = some z) : CtV l D cy yX6_append (wu yX6_append cX6_append 3 none) ({ frames := 0, cells := 0, slots := 0, locals := 0 }) [.ref a0, .int p1] h M z := by
  refine enterV (cc := cX6_append) (maxL := 3) (ret := none) (by decide) (Nat.le_of_ble_eq_true rfl) ?_
  intro p e s m args below meth c A ls X hw hr hlk hl
  have hl : lv_has ls 3 [(0, .ref a0), (1, .int p1)] := hl
  unfold f_X6_append at hf
  refine lv_bipush (v := (24 : Int32)) X.1.1 X.1.2.1 dX6_append_0 (by decide) ?_
  refine lv_istore_n (lv' := [(2, .int (24 : Int32)), (0, .ref a0), (1, .int p1)]) X.1.1 X.1.2.1 dX6_append_2 rfl hl (by decide) rfl (fun ls hl => ?_)
  obtain ⟨z10, ez10, hf⟩ := obd hf
  refine wlp_X6_append_3 X fuel _ _ _ _ _ _ ez10 hw (lv_sub hl [0, 1, 2] rfl) (fun x ex H locs ls hw hl => ?_)
  subst ex
  cases hf
  exact r_retV X hw hr hlk dX6_append_55
/-! X6_byteAt -/
def f_X6_byteAt (h : Hs) (a0 : Nat) (p1 : Int32) (M : Mm) : Option Int32 :=
  if p1 < 0 then
    some (0 : Int32)
  else
    gd (ok h a0 6) <|
    if (zI M a0 1) ≤ p1 then
      some (0 : Int32)
    else
      dq (zR h a0 0) fun q3 =>
      gd (ok h q3 10) <|
      if (Int32.ofNat (zN h q3)) ≤ p1 then
        some (0 : Int32)
      else
        gd (inb p1 (zN h q3)) <|
        some ((zI M q3 p1.toNatClampNeg) &&& (255 : Int32))
set_option maxHeartbeats 4000000 in
set_option maxRecDepth 100000 in
theorem c_X6_byteAt {l : Launch} {D : va_G} {cy : Nat → ClassId} {h : Hs} {a0 : Nat} {p1 : Int32} {M : Mm} {z : Int32} (hf : f_X6_byteAt h a0 p1 M = some z) : CtI l D cy yX6_byteAt (wu yX6_byteAt cX6_byteAt 2 (some .int)) ({ frames := 0, cells := 0, slots := 0, locals := 0 }) [.ref a0, .int p1] h M z M := by
  refine enterI (cc := cX6_byteAt) (maxL := 2) (ret := (some .int)) (by decide) (Nat.le_of_ble_eq_true rfl) ?_
  intro p e s m args below meth c A ls X hw hr hlk hl
  have hl : lv_has ls 2 [(0, .ref a0), (1, .int p1)] := hl
  unfold f_X6_byteAt at hf
  refine lv_iload_n X.1.1 X.1.2.1 dX6_byteAt_0 rfl (lv_at hl 1 rfl) ?_
  refine lv_if_lt (tgt := 34) X.1.1 X.1.2.1 dX6_byteAt_1 (by decide) (fun c_1 => ?_) (fun c_1 => ?_)
  · skip
    rw [if_pos c_1] at hf
    refine lv_iconst (v := (0 : Int32)) X.1.1 X.1.2.1 dX6_byteAt_34 (by decide) ?_
    cases hf
    exact r_retI X hw hr hlk rfl dX6_byteAt_35
  · skip
    rw [if_neg c_1] at hf
    refine lv_iload_n X.1.1 X.1.2.1 dX6_byteAt_4 rfl (lv_at hl 1 rfl) ?_
    refine lv_aload_n X.1.1 X.1.2.1 dX6_byteAt_5 rfl (lv_at hl 0 rfl) ?_
    obtain ⟨g_a0, hf⟩ := ogd hf
    refine r_geti (k := 6) (j := 1) X hw rfl inX6 g_a0 rfl (by decide) (by decide) uf_X6_15 rfl dX6_byteAt_6 ?_
    refine lv_icmp_ge (tgt := 34) X.1.1 X.1.2.1 dX6_byteAt_9 (by decide) (fun c_2 => ?_) (fun c_2 => ?_)
    · skip
      rw [if_pos c_2] at hf
      refine lv_iconst (v := (0 : Int32)) X.1.1 X.1.2.1 dX6_byteAt_34 (by decide) ?_
      cases hf
      exact r_retI X hw hr hlk rfl dX6_byteAt_35
    · skip
      rw [if_neg c_2] at hf
      refine lv_iload_n X.1.1 X.1.2.1 dX6_byteAt_12 rfl (lv_at hl 1 rfl) ?_
      refine lv_aload_n X.1.1 X.1.2.1 dX6_byteAt_13 rfl (lv_at hl 0 rfl) ?_
      obtain ⟨q3, eq3, hf⟩ := odq hf
      refine r_getq (k := 6) (j := 0) X hw rfl inX6 g_a0 rfl (by decide) (by decide) uf_X6_9 rfl dX6_byteAt_14 eq3 ?_
      obtain ⟨g_q3, hf⟩ := ogd hf
      refine r_alen X hw g_q3 (by decide) dX6_byteAt_17 ?_
      refine lv_icmp_ge (tgt := 34) X.1.1 X.1.2.1 dX6_byteAt_18 (by decide) (fun c_4 => ?_) (fun c_4 => ?_)
      · skip
        rw [if_pos c_4] at hf
        refine lv_iconst (v := (0 : Int32)) X.1.1 X.1.2.1 dX6_byteAt_34 (by decide) ?_
        cases hf
        exact r_retI X hw hr hlk rfl dX6_byteAt_35
      · skip
        rw [if_neg c_4] at hf
        refine lv_aload_n X.1.1 X.1.2.1 dX6_byteAt_21 rfl (lv_at hl 0 rfl) ?_
        refine r_getq (k := 6) (j := 0) X hw rfl inX6 g_a0 rfl (by decide) (by decide) uf_X6_9 rfl dX6_byteAt_22 eq3 ?_
        refine lv_iload_n X.1.1 X.1.2.1 dX6_byteAt_25 rfl (lv_at hl 1 rfl) ?_
        obtain ⟨i_5, hf⟩ := ogd hf
        refine r_bald X hw g_q3 i_5 dX6_byteAt_26 ?_
        refine lv_sipush (v := (255 : Int32)) X.1.1 X.1.2.1 dX6_byteAt_27 (by decide) ?_
        refine lv_iand X.1.1 X.1.2.1 dX6_byteAt_30 ?_
        refine lv_goto (tgt := 35) X.1.1 X.1.2.1 dX6_byteAt_31 (by decide) ?_
        cases hf
        exact r_retI X hw hr hlk rfl dX6_byteAt_35
/-! X6_bitsAt -/
def lp_X6_bitsAt_5 (h : Hs) (w1 : Int32) (w2 : Int32) (a0 : Nat) (M : Mm) : Nat → Int64 → Int32 → Option (Int64 × Int32)
  | 0, _, _ => none
  | n + 1, v3, v5 =>
    if w2 ≤ v5 then
      some (v3, v5)
    else
      gd (ok h a0 6) <|
      (f_X6_byteAt h a0 (w1 + v5) M).bind fun z2 =>
      lt_ ((v3 <<< ((8 : Int32).toInt64 &&& 63)) ||| z2.toInt64) fun x3 =>
      lt_ (v5 + (1 : Int32)) fun x4 =>
      lp_X6_bitsAt_5 h w1 w2 a0 M n x3 x4
set_option maxHeartbeats 4000000 in
set_option maxRecDepth 100000 in
theorem wlp_X6_bitsAt_5 {l : Launch} {D : va_G} {cy : Nat → ClassId} {h : Hs} {w1 : Int32} {w2 : Int32} {a0 : Nat} {M : Mm} {p : Program} {e : Env} {s : State} {m : MethodId} {args : Array Value} {below : List Frame} {meth : Method} {c : Code} {A : Nat → Prop} (X : Cx p s m args c cX6_bitsAt 6 gtbl RX6 D cy A) {Q : State → Prop} : ∀ (n : Nat) (v3 : Int64) (v5 : Int32) (z : (Int64 × Int32)) (H : Heap) (locs : List Loc) (ls : Array Slot), lp_X6_bitsAt_5 h w1 w2 a0 M n v3 v5 = some z → Wd D cy A s.heap h M H locs → lv_has ls 6 [(3, .long v3), (5, .int v5), (0, .ref a0), (1, .int w1), (2, .int w2)] → (∀ x : (Int64 × Int32), z = x → ∀ (H : Heap) (locs : List Loc) (ls : Array Slot), Wd D cy A s.heap h M H locs → lv_has ls 6 [(3, .long x.1), (5, .int x.2), (0, .ref a0), (1, .int w1), (2, .int w2)] → W p l e ({ frames := 1, cells := 0, slots := 0, locals := 21 } : Room) s m args below meth c H locs 0 0 Q (F0 m 32 ls [])) → W p l e ({ frames := 1, cells := 0, slots := 0, locals := 21 } : Room) s m args below meth c H locs 0 0 Q (F0 m 5 ls []) := by
  intro n
  induction n with
  | zero => intro v3 v5 z H locs ls hf hw hl kx; exact absurd hf (by intro q; cases q)
  | succ n ih =>
    intro v3 v5 z H locs ls hf hw hl kx
    unfold lp_X6_bitsAt_5 at hf
    refine lv_iload X.1.1 X.1.2.1 dX6_bitsAt_5 (lv_at hl 1 rfl) ?_
    refine lv_iload_n X.1.1 X.1.2.1 dX6_bitsAt_7 rfl (lv_at hl 4 rfl) ?_
    refine lv_icmp_ge (tgt := 32) X.1.1 X.1.2.1 dX6_bitsAt_8 (by decide) (fun c_1 => ?_) (fun c_1 => ?_)
    · skip
      rw [if_pos c_1] at hf
      cases hf
      exact kx _ rfl _ _ _ hw (lv_sub hl [0, 1, 2, 3, 4] rfl)
    · skip
      rw [if_neg c_1] at hf
      refine lv_lload_n X.1.1 X.1.2.1 dX6_bitsAt_11 rfl (lv_at hl 0 rfl) ?_
      refine lv_bipush (v := (8 : Int32)) X.1.1 X.1.2.1 dX6_bitsAt_12 (by decide) ?_
      refine lv_lshl X.1.1 X.1.2.1 dX6_bitsAt_14 rfl ?_
      refine lv_aload_n X.1.1 X.1.2.1 dX6_bitsAt_15 rfl (lv_at hl 2 rfl) ?_
      refine lv_iload_n X.1.1 X.1.2.1 dX6_bitsAt_16 rfl (lv_at hl 3 rfl) ?_
      refine lv_iload X.1.1 X.1.2.1 dX6_bitsAt_17 (lv_at hl 1 rfl) ?_
      refine lv_iadd X.1.1 X.1.2.1 dX6_bitsAt_19 ?_
      obtain ⟨g_a0, hf⟩ := ogd hf
      obtain ⟨z2, ez2, hf⟩ := obd hf
      refine r_callVI (As := [.int (w1 + v5)]) (rest := [.long (v3 <<< ((8 : Int32).toInt64 &&& 63))]) X hw (c_X6_byteAt ez2) (cwV 1 X.1.2.2.2.2 (guV um_X6_32 ui_X6_byteAt us_X6_byteAt un_X6 uo_X6_byteAt) rfl rfl rfl (by decide +kernel) ⟨Nat.le_of_ble_eq_true rfl, Nat.le_of_ble_eq_true rfl⟩) g_a0 (by decide) rfl rfl hl.1 rfl (Nat.le_of_ble_eq_true rfl) dX6_bitsAt_20 ⟨Nat.zero_le _, Nat.zero_le _⟩ (fun H locs hw => ?_)
      refine lv_i2l X.1.1 X.1.2.1 dX6_bitsAt_23 rfl ?_
      refine lv_lor X.1.1 X.1.2.1 dX6_bitsAt_24 ?_
      refine lv_topl (fun x3 ex3 => ?_)
      have hf := oltE ex3 hf
      refine lv_lstore_n (lv' := [(3, .long x3), (5, .int v5), (0, .ref a0), (1, .int w1), (2, .int w2)]) X.1.1 X.1.2.1 dX6_bitsAt_25 rfl hl (by decide) rfl (fun ls hl => ?_)
      obtain ⟨x4, ex4, hf⟩ := olt hf
      refine lv_iinc (v := x4) (lv' := [(5, .int x4), (3, .long x3), (0, .ref a0), (1, .int w1), (2, .int w2)]) X.1.1 X.1.2.1 dX6_bitsAt_26 hl (k := 1) rfl (by rw [ex4]; rfl) (by decide) rfl (fun ls hl => ?_)
      refine lv_goto (tgt := 5) X.1.1 X.1.2.1 dX6_bitsAt_29 (by decide) ?_
      exact ih _ _ _ _ _ _ hf hw (lv_sub hl [1, 0, 2, 3, 4] rfl) kx
def f_X6_bitsAt (h : Hs) (a0 : Nat) (p1 : Int32) (p2 : Int32) (M : Mm) : Option Int64 :=
  (lp_X6_bitsAt_5 h p1 p2 a0 M fuel (0 : Int64) (0 : Int32)).bind fun z5 =>
  lt_ ((64 : Int32) - ((8 : Int32) * p2)) fun x6 =>
  some ((z5.1 <<< (x6.toInt64 &&& 63)) >>> (x6.toInt64 &&& 63))
set_option maxHeartbeats 4000000 in
set_option maxRecDepth 100000 in
theorem c_X6_bitsAt {l : Launch} {D : va_G} {cy : Nat → ClassId} {h : Hs} {a0 : Nat} {p1 : Int32} {p2 : Int32} {M : Mm} {z : Int64} (hf : f_X6_bitsAt h a0 p1 p2 M = some z) : CtL l D cy yX6_bitsAt (wu yX6_bitsAt cX6_bitsAt 6 (some .long)) ({ frames := 1, cells := 0, slots := 0, locals := 21 }) [.ref a0, .int p1, .int p2] h M z M := by
  refine enterL (cc := cX6_bitsAt) (maxL := 6) (ret := (some .long)) (by decide) (Nat.le_of_ble_eq_true rfl) ?_
  intro p e s m args below meth c A ls X hw hr hlk hl
  have hl : lv_has ls 6 [(0, .ref a0), (1, .int p1), (2, .int p2)] := hl
  unfold f_X6_bitsAt at hf
  refine lv_lconst (v := (0 : Int64)) X.1.1 X.1.2.1 dX6_bitsAt_0 (by decide) ?_
  refine lv_lstore_n (lv' := [(3, .long (0 : Int64)), (0, .ref a0), (1, .int p1), (2, .int p2)]) X.1.1 X.1.2.1 dX6_bitsAt_1 rfl hl (by decide) rfl (fun ls hl => ?_)
  refine lv_iconst (v := (0 : Int32)) X.1.1 X.1.2.1 dX6_bitsAt_2 (by decide) ?_
  refine lv_istore (lv' := [(5, .int (0 : Int32)), (3, .long (0 : Int64)), (0, .ref a0), (1, .int p1), (2, .int p2)]) X.1.1 X.1.2.1 dX6_bitsAt_3 hl (by decide) rfl (fun ls hl => ?_)
  obtain ⟨z5, ez5, hf⟩ := obd hf
  refine wlp_X6_bitsAt_5 X fuel _ _ _ _ _ _ ez5 hw (lv_sub hl [1, 0, 2, 3, 4] rfl) (fun x ex H locs ls hw hl => ?_)
  subst ex
  refine lv_bipush (v := (64 : Int32)) X.1.1 X.1.2.1 dX6_bitsAt_32 (by decide) ?_
  refine lv_bipush (v := (8 : Int32)) X.1.1 X.1.2.1 dX6_bitsAt_34 (by decide) ?_
  refine lv_iload_n X.1.1 X.1.2.1 dX6_bitsAt_36 rfl (lv_at hl 4 rfl) ?_
  refine lv_imul X.1.1 X.1.2.1 dX6_bitsAt_37 ?_
  refine lv_isub X.1.1 X.1.2.1 dX6_bitsAt_38 ?_
  refine lv_topi (fun x6 ex6 => ?_)
  have hf := oltE ex6 hf
  refine lv_istore (lv' := [(5, .int x6), (3, .long z5.1), (0, .ref a0), (1, .int p1), (2, .int p2)]) X.1.1 X.1.2.1 dX6_bitsAt_39 hl (by decide) rfl (fun ls hl => ?_)
  refine lv_lload_n X.1.1 X.1.2.1 dX6_bitsAt_41 rfl (lv_at hl 1 rfl) ?_
  refine lv_iload X.1.1 X.1.2.1 dX6_bitsAt_42 (lv_at hl 0 rfl) ?_
  refine lv_lshl X.1.1 X.1.2.1 dX6_bitsAt_44 rfl ?_
  refine lv_iload X.1.1 X.1.2.1 dX6_bitsAt_45 (lv_at hl 0 rfl) ?_
  refine lv_lshr X.1.1 X.1.2.1 dX6_bitsAt_47 rfl ?_
  cases hf
  exact r_retL X hw hr hlk dX6_bitsAt_48
/-! X6_cutFloating -/
def f_X6_cutFloating (h : Hs) (p1 : Int64) (p2 : Int32) (p3 : Int32) (M : Mm) : Option Int32 :=
  lt_ (((1 : Int32) <<< ((p2 - (1 : Int32)) &&& 31)) - (1 : Int32)) fun x1 =>
  lt_ ((((p1.toUInt64 >>> (p3.toInt64.toUInt64 &&& Int64.toUInt64 63)).toInt64).toInt32) &&& (((1 : Int32) <<< (p2 &&& 31)) - (1 : Int32))) fun x2 =>
  lt_ (x2 - x1) fun x3 =>
  if 0 ≤ x3 then
    if x3 < (20 : Int32) then
      lt_ (p1 &&& (((1 : Int64) <<< (p3.toInt64 &&& 63)) - (1 : Int64))) fun x6 =>
      lt_ ((x6 ||| ((1 : Int64) <<< (p3.toInt64 &&& 63))) >>> ((p3 - x3).toInt64 &&& 63)) fun x7 =>
      Option.bind (
        if (((p1.toUInt64 >>> ((p3 + p2).toInt64.toUInt64 &&& Int64.toUInt64 63)).toInt64) &&& (1 : Int64)) = (0 : Int64) then
          some (0 : Int32)
        else
          some (1 : Int32)
        ) fun y9 =>
      Option.bind (
        if y9 = 0 then
          some x7
        else
          some (-x7)
        ) fun y11 =>
      (f_X6_readingOrGap h y11 M).bind fun z12 =>
      some z12
    else
      some (2000000 : Int32)
  else
    some (0 : Int32)
set_option maxHeartbeats 4000000 in
set_option maxRecDepth 100000 in
theorem c_X6_cutFloating {l : Launch} {D : va_G} {cy : Nat → ClassId} {h : Hs} {p1 : Int64} {p2 : Int32} {p3 : Int32} {M : Mm} {z : Int32} (hf : f_X6_cutFloating h p1 p2 p3 M = some z) : CtI l D cy yX6_cutFloating (wu yX6_cutFloating cX6_cutFloating 12 (some .int)) ({ frames := 2, cells := 0, slots := 0, locals := 44 }) [.long p1, .int p2, .int p3] h M z M := by
  refine enterI (cc := cX6_cutFloating) (maxL := 12) (ret := (some .int)) (by decide) (Nat.le_of_ble_eq_true rfl) ?_
  intro p e s m args below meth c A ls X hw hr hlk hl
  have hl : lv_has ls 12 [(0, .long p1), (2, .int p2), (3, .int p3)] := hl
  unfold f_X6_cutFloating at hf
  refine lv_iconst (v := (1 : Int32)) X.1.1 X.1.2.1 dX6_cutFloating_0 (by decide) ?_
  refine lv_iload_n X.1.1 X.1.2.1 dX6_cutFloating_1 rfl (lv_at hl 1 rfl) ?_
  refine lv_iconst (v := (1 : Int32)) X.1.1 X.1.2.1 dX6_cutFloating_2 (by decide) ?_
  refine lv_isub X.1.1 X.1.2.1 dX6_cutFloating_3 ?_
  refine lv_ishl X.1.1 X.1.2.1 dX6_cutFloating_4 ?_
  refine lv_iconst (v := (1 : Int32)) X.1.1 X.1.2.1 dX6_cutFloating_5 (by decide) ?_
  refine lv_isub X.1.1 X.1.2.1 dX6_cutFloating_6 ?_
  refine lv_topi (fun x1 ex1 => ?_)
  have hf := oltE ex1 hf
  refine lv_istore (lv' := [(4, .int x1), (0, .long p1), (2, .int p2), (3, .int p3)]) X.1.1 X.1.2.1 dX6_cutFloating_7 hl (by decide) rfl (fun ls hl => ?_)
  refine lv_lload_n X.1.1 X.1.2.1 dX6_cutFloating_9 rfl (lv_at hl 1 rfl) ?_
  refine lv_iload_n X.1.1 X.1.2.1 dX6_cutFloating_10 rfl (lv_at hl 3 rfl) ?_
  refine lv_lushr X.1.1 X.1.2.1 dX6_cutFloating_11 rfl ?_
  refine lv_l2i X.1.1 X.1.2.1 dX6_cutFloating_12 rfl ?_
  refine lv_iconst (v := (1 : Int32)) X.1.1 X.1.2.1 dX6_cutFloating_13 (by decide) ?_
  refine lv_iload_n X.1.1 X.1.2.1 dX6_cutFloating_14 rfl (lv_at hl 2 rfl) ?_
  refine lv_ishl X.1.1 X.1.2.1 dX6_cutFloating_15 ?_
  refine lv_iconst (v := (1 : Int32)) X.1.1 X.1.2.1 dX6_cutFloating_16 (by decide) ?_
  refine lv_isub X.1.1 X.1.2.1 dX6_cutFloating_17 ?_
  refine lv_iand X.1.1 X.1.2.1 dX6_cutFloating_18 ?_
  refine lv_topi (fun x2 ex2 => ?_)
  have hf := oltE ex2 hf
  refine lv_istore (lv' := [(5, .int x2), (4, .int x1), (0, .long p1), (2, .int p2), (3, .int p3)]) X.1.1 X.1.2.1 dX6_cutFloating_19 hl (by decide) rfl (fun ls hl => ?_)
  refine lv_iload X.1.1 X.1.2.1 dX6_cutFloating_21 (lv_at hl 0 rfl) ?_
  refine lv_iload X.1.1 X.1.2.1 dX6_cutFloating_23 (lv_at hl 1 rfl) ?_
  refine lv_isub X.1.1 X.1.2.1 dX6_cutFloating_25 ?_
  refine lv_topi (fun x3 ex3 => ?_)
  have hf := oltE ex3 hf
  refine lv_istore (lv' := [(6, .int x3), (5, .int x2), (4, .int x1), (0, .long p1), (2, .int p2), (3, .int p3)]) X.1.1 X.1.2.1 dX6_cutFloating_26 hl (by decide) rfl (fun ls hl => ?_)
  refine lv_iload X.1.1 X.1.2.1 dX6_cutFloating_28 (lv_at hl 0 rfl) ?_
  refine lv_if_ge (tgt := 35) X.1.1 X.1.2.1 dX6_cutFloating_30 (by decide) (fun c_4 => ?_) (fun c_4 => ?_)
  · skip
    rw [if_pos c_4] at hf
    refine lv_iload X.1.1 X.1.2.1 dX6_cutFloating_35 (lv_at hl 0 rfl) ?_
    refine lv_bipush (v := (20 : Int32)) X.1.1 X.1.2.1 dX6_cutFloating_37 (by decide) ?_
    refine lv_icmp_lt (tgt := 45) X.1.1 X.1.2.1 dX6_cutFloating_39 (by decide) (fun c_5 => ?_) (fun c_5 => ?_)
    · skip
      rw [if_pos c_5] at hf
      refine lv_lload_n X.1.1 X.1.2.1 dX6_cutFloating_45 rfl (lv_at hl 3 rfl) ?_
      refine lv_lconst (v := (1 : Int64)) X.1.1 X.1.2.1 dX6_cutFloating_46 (by decide) ?_
      refine lv_iload_n X.1.1 X.1.2.1 dX6_cutFloating_47 rfl (lv_at hl 5 rfl) ?_
      refine lv_lshl X.1.1 X.1.2.1 dX6_cutFloating_48 rfl ?_
      refine lv_lconst (v := (1 : Int64)) X.1.1 X.1.2.1 dX6_cutFloating_49 (by decide) ?_
      refine lv_lsub X.1.1 X.1.2.1 dX6_cutFloating_50 ?_
      refine lv_land X.1.1 X.1.2.1 dX6_cutFloating_51 ?_
      refine lv_topl (fun x6 ex6 => ?_)
      have hf := oltE ex6 hf
      refine lv_lstore (lv' := [(7, .long x6), (6, .int x3), (5, .int x2), (4, .int x1), (0, .long p1), (2, .int p2), (3, .int p3)]) X.1.1 X.1.2.1 dX6_cutFloating_52 hl (by decide) rfl (fun ls hl => ?_)
      refine lv_lload X.1.1 X.1.2.1 dX6_cutFloating_54 (lv_at hl 0 rfl) ?_
      refine lv_lconst (v := (1 : Int64)) X.1.1 X.1.2.1 dX6_cutFloating_56 (by decide) ?_
      refine lv_iload_n X.1.1 X.1.2.1 dX6_cutFloating_57 rfl (lv_at hl 6 rfl) ?_
      refine lv_lshl X.1.1 X.1.2.1 dX6_cutFloating_58 rfl ?_
      refine lv_lor X.1.1 X.1.2.1 dX6_cutFloating_59 ?_
      refine lv_iload_n X.1.1 X.1.2.1 dX6_cutFloating_60 rfl (lv_at hl 6 rfl) ?_
      refine lv_iload X.1.1 X.1.2.1 dX6_cutFloating_61 (lv_at hl 1 rfl) ?_
      refine lv_isub X.1.1 X.1.2.1 dX6_cutFloating_63 ?_
      refine lv_lshr X.1.1 X.1.2.1 dX6_cutFloating_64 rfl ?_
      refine lv_topl (fun x7 ex7 => ?_)
      have hf := oltE ex7 hf
      refine lv_lstore (lv' := [(9, .long x7), (7, .long x6), (6, .int x3), (5, .int x2), (4, .int x1), (0, .long p1), (2, .int p2), (3, .int p3)]) X.1.1 X.1.2.1 dX6_cutFloating_65 hl (by decide) rfl (fun ls hl => ?_)
      refine lv_lload_n X.1.1 X.1.2.1 dX6_cutFloating_67 rfl (lv_at hl 5 rfl) ?_
      refine lv_iload_n X.1.1 X.1.2.1 dX6_cutFloating_68 rfl (lv_at hl 7 rfl) ?_
      refine lv_iload_n X.1.1 X.1.2.1 dX6_cutFloating_69 rfl (lv_at hl 6 rfl) ?_
      refine lv_iadd X.1.1 X.1.2.1 dX6_cutFloating_70 ?_
      refine lv_lushr X.1.1 X.1.2.1 dX6_cutFloating_71 rfl ?_
      refine lv_lconst (v := (1 : Int64)) X.1.1 X.1.2.1 dX6_cutFloating_72 (by decide) ?_
      refine lv_land X.1.1 X.1.2.1 dX6_cutFloating_73 ?_
      refine lv_lconst (v := (0 : Int64)) X.1.1 X.1.2.1 dX6_cutFloating_74 (by decide) ?_
      refine W.lcmp X.1.1 X.1.2.1 dX6_cutFloating_75 ?_
      obtain ⟨y9, ey9, hf⟩ := obd hf
      have Jy9 : ∀ (H : Heap) (locs : List Loc) (ls : Array Slot), Wd D cy A s.heap h M H locs → lv_has ls 12 [(9, .long x7)] → W p l e ({ frames := 2, cells := 0, slots := 0, locals := 44 } : Room) s m args below meth c H locs 0 0 (QI below D cy A h args s z M) (F0 m 84 ls [.int y9]) := by
        intro H locs ls hw hl
        refine lv_istore (lv' := [(11, .int y9), (9, .long x7)]) X.1.1 X.1.2.1 dX6_cutFloating_84 hl (by decide) rfl (fun ls hl => ?_)
        refine lv_iload X.1.1 X.1.2.1 dX6_cutFloating_86 (lv_at hl 0 rfl) ?_
        obtain ⟨y11, ey11, hf⟩ := obd hf
        have Jy11 : ∀ (H : Heap) (locs : List Loc) (ls : Array Slot), Wd D cy A s.heap h M H locs → lv_has ls 12 [] → W p l e ({ frames := 2, cells := 0, slots := 0, locals := 44 } : Room) s m args below meth c H locs 0 0 (QI below D cy A h args s z M) (F0 m 99 ls [.long y11]) := by
          intro H locs ls hw hl
          obtain ⟨z12, ez12, hf⟩ := obd hf
          refine r_callSI (As := [.long y11]) (rest := []) X hw (c_X6_readingOrGap ez12) (va_cwS 1 X.1.2.2.2.2 (guS um_X6_28 ut_X6_readingOrGap un_X6 uo_X6_readingOrGap) rfl rfl rfl (by decide +kernel) ⟨Nat.le_of_ble_eq_true rfl, Nat.le_of_ble_eq_true rfl⟩) rfl hl.1 rfl (Nat.le_of_ble_eq_true rfl) dX6_cutFloating_99 ⟨Nat.zero_le _, Nat.zero_le _⟩ (fun H locs hw => ?_)
          cases hf
          exact r_retI X hw hr hlk rfl dX6_cutFloating_102
        clear hf
        have hf := ey11
        clear ey11
        refine lv_if_eq (tgt := 97) X.1.1 X.1.2.1 dX6_cutFloating_88 (by decide) (fun c_10 => ?_) (fun c_10 => ?_)
        · skip
          rw [if_pos c_10] at hf
          refine lv_lload X.1.1 X.1.2.1 dX6_cutFloating_97 (lv_at hl 1 rfl) ?_
          cases hf
          exact Jy11 _ _ _ hw (lv_sub hl [] rfl)
        · skip
          rw [if_neg c_10] at hf
          refine lv_lload X.1.1 X.1.2.1 dX6_cutFloating_91 (lv_at hl 1 rfl) ?_
          refine lv_lneg X.1.1 X.1.2.1 dX6_cutFloating_93 ?_
          refine lv_goto (tgt := 99) X.1.1 X.1.2.1 dX6_cutFloating_94 (by decide) ?_
          cases hf
          exact Jy11 _ _ _ hw (lv_sub hl [] rfl)
      clear hf
      have hf := ey9
      clear ey9
      refine lv_if_eq (tgt := 83) X.1.1 X.1.2.1 dX6_cutFloating_76 (by decide) (fun c_8 => ?_) (fun c_8 => ?_)
      · skip
        rw [lg_cmp_eq] at c_8
        rw [if_pos c_8] at hf
        refine lv_iconst (v := (0 : Int32)) X.1.1 X.1.2.1 dX6_cutFloating_83 (by decide) ?_
        cases hf
        exact Jy9 _ _ _ hw (lv_sub hl [0] rfl)
      · skip
        rw [lg_cmp_eq] at c_8
        rw [if_neg c_8] at hf
        refine lv_iconst (v := (1 : Int32)) X.1.1 X.1.2.1 dX6_cutFloating_79 (by decide) ?_
        refine lv_goto (tgt := 84) X.1.1 X.1.2.1 dX6_cutFloating_80 (by decide) ?_
        cases hf
        exact Jy9 _ _ _ hw (lv_sub hl [0] rfl)
    · skip
      rw [if_neg c_5] at hf
      refine lv_ldc (v := (2000000 : Int32)) X.1.1 X.1.2.1 X.1.2.2.2.1 (X.1.2.2.2.2 _ uc_X6_19) dX6_cutFloating_42 ?_
      cases hf
      exact r_retI X hw hr hlk rfl dX6_cutFloating_44
  · skip
    rw [if_neg c_4] at hf
    refine lv_iconst (v := (0 : Int32)) X.1.1 X.1.2.1 dX6_cutFloating_33 (by decide) ?_
    cases hf
    exact r_retI X hw hr hlk rfl dX6_cutFloating_34
/-! X6_readingAt -/
def f_X6_readingAt (h : Hs) (a0 : Nat) (p1 : Int32) (p2 : Int32) (p3 : Int32) (M : Mm) : Option Int32 :=
  gd (ok h a0 6) <|
  if (p1 + p2) ≤ (zI M a0 1) then
    (f_X6_bitsAt h a0 p1 p2 M).bind fun z2 =>
    if p3 = (4 : Int32) then
      (f_X6_cutFloating h z2 (8 : Int32) (23 : Int32) M).bind fun z4 =>
      some z4
    else
      if p3 = (5 : Int32) then
        (f_X6_cutFloating h z2 (11 : Int32) (52 : Int32) M).bind fun z6 =>
        some z6
      else
        (f_X6_readingOrGap h z2 M).bind fun z7 =>
        some z7
  else
    some (2000000 : Int32)
set_option maxHeartbeats 4000000 in
set_option maxRecDepth 100000 in
theorem c_X6_readingAt {l : Launch} {D : va_G} {cy : Nat → ClassId} {h : Hs} {a0 : Nat} {p1 : Int32} {p2 : Int32} {p3 : Int32} {M : Mm} {z : Int32} (hf : f_X6_readingAt h a0 p1 p2 p3 M = some z) : CtI l D cy yX6_readingAt (wu yX6_readingAt cX6_readingAt 6 (some .int)) ({ frames := 3, cells := 0, slots := 0, locals := 75 }) [.ref a0, .int p1, .int p2, .int p3] h M z M := by
  refine enterI (cc := cX6_readingAt) (maxL := 6) (ret := (some .int)) (by decide) (Nat.le_of_ble_eq_true rfl) ?_
  intro p e s m args below meth c A ls X hw hr hlk hl
  have hl : lv_has ls 6 [(0, .ref a0), (1, .int p1), (2, .int p2), (3, .int p3)] := hl
  unfold f_X6_readingAt at hf
  refine lv_iload_n X.1.1 X.1.2.1 dX6_readingAt_0 rfl (lv_at hl 1 rfl) ?_
  refine lv_iload_n X.1.1 X.1.2.1 dX6_readingAt_1 rfl (lv_at hl 2 rfl) ?_
  refine lv_iadd X.1.1 X.1.2.1 dX6_readingAt_2 ?_
  refine lv_aload_n X.1.1 X.1.2.1 dX6_readingAt_3 rfl (lv_at hl 0 rfl) ?_
  obtain ⟨g_a0, hf⟩ := ogd hf
  refine r_geti (k := 6) (j := 1) X hw rfl inX6 g_a0 rfl (by decide) (by decide) uf_X6_15 rfl dX6_readingAt_4 ?_
  refine lv_icmp_le (tgt := 13) X.1.1 X.1.2.1 dX6_readingAt_7 (by decide) (fun c_1 => ?_) (fun c_1 => ?_)
  · skip
    rw [if_pos c_1] at hf
    refine lv_aload_n X.1.1 X.1.2.1 dX6_readingAt_13 rfl (lv_at hl 0 rfl) ?_
    refine lv_iload_n X.1.1 X.1.2.1 dX6_readingAt_14 rfl (lv_at hl 1 rfl) ?_
    refine lv_iload_n X.1.1 X.1.2.1 dX6_readingAt_15 rfl (lv_at hl 2 rfl) ?_
    obtain ⟨z2, ez2, hf⟩ := obd hf
    refine r_callVL (As := [.int p1, .int p2]) (rest := []) X hw (c_X6_bitsAt ez2) (cwV 2 X.1.2.2.2.2 (guV um_X6_20 ui_X6_bitsAt us_X6_bitsAt un_X6 uo_X6_bitsAt) rfl rfl rfl (by decide +kernel) ⟨Nat.le_of_ble_eq_true rfl, Nat.le_of_ble_eq_true rfl⟩) g_a0 (by decide) rfl rfl hl.1 rfl (Nat.le_of_ble_eq_true rfl) dX6_readingAt_16 ⟨Nat.zero_le _, Nat.zero_le _⟩ (fun H locs hw => ?_)
    refine lv_lstore (lv' := [(4, .long z2), (0, .ref a0), (1, .int p1), (2, .int p2), (3, .int p3)]) X.1.1 X.1.2.1 dX6_readingAt_19 hl (by decide) rfl (fun ls hl => ?_)
    refine lv_iload_n X.1.1 X.1.2.1 dX6_readingAt_21 rfl (lv_at hl 4 rfl) ?_
    by_cases c_3 : p3 = (4 : Int32)
    · rw [if_pos c_3] at hf
      refine lv_lookup (off := 26) (tgt := 48) X.1.1 X.1.2.1 dX6_readingAt_22 (by decide) (by rw [c_3]; decide) (by decide) ?_
      refine lv_lload X.1.1 X.1.2.1 dX6_readingAt_48 (lv_at hl 0 rfl) ?_
      refine lv_bipush (v := (8 : Int32)) X.1.1 X.1.2.1 dX6_readingAt_50 (by decide) ?_
      refine lv_bipush (v := (23 : Int32)) X.1.1 X.1.2.1 dX6_readingAt_52 (by decide) ?_
      obtain ⟨z4, ez4, hf⟩ := obd hf
      refine r_callSI (As := [.long z2, .int (8 : Int32), .int (23 : Int32)]) (rest := []) X hw (c_X6_cutFloating ez4) (va_cwS 3 X.1.2.2.2.2 (guS um_X6_24 ut_X6_cutFloating un_X6 uo_X6_cutFloating) rfl rfl rfl (by decide +kernel) ⟨Nat.le_of_ble_eq_true rfl, Nat.le_of_ble_eq_true rfl⟩) rfl hl.1 rfl (Nat.le_of_ble_eq_true rfl) dX6_readingAt_54 ⟨Nat.zero_le _, Nat.zero_le _⟩ (fun H locs hw => ?_)
      cases hf
      exact r_retI X hw hr hlk rfl dX6_readingAt_57
    · rw [if_neg c_3] at hf
      by_cases c_5 : p3 = (5 : Int32)
      · rw [if_pos c_5] at hf
        refine lv_lookup (off := 36) (tgt := 58) X.1.1 X.1.2.1 dX6_readingAt_22 (by decide) (by rw [c_5]; decide) (by decide) ?_
        refine lv_lload X.1.1 X.1.2.1 dX6_readingAt_58 (lv_at hl 0 rfl) ?_
        refine lv_bipush (v := (11 : Int32)) X.1.1 X.1.2.1 dX6_readingAt_60 (by decide) ?_
        refine lv_bipush (v := (52 : Int32)) X.1.1 X.1.2.1 dX6_readingAt_62 (by decide) ?_
        obtain ⟨z6, ez6, hf⟩ := obd hf
        refine r_callSI (As := [.long z2, .int (11 : Int32), .int (52 : Int32)]) (rest := []) X hw (c_X6_cutFloating ez6) (va_cwS 3 X.1.2.2.2.2 (guS um_X6_24 ut_X6_cutFloating un_X6 uo_X6_cutFloating) rfl rfl rfl (by decide +kernel) ⟨Nat.le_of_ble_eq_true rfl, Nat.le_of_ble_eq_true rfl⟩) rfl hl.1 rfl (Nat.le_of_ble_eq_true rfl) dX6_readingAt_64 ⟨Nat.zero_le _, Nat.zero_le _⟩ (fun H locs hw => ?_)
        cases hf
        exact r_retI X hw hr hlk rfl dX6_readingAt_67
      · rw [if_neg c_5] at hf
        refine lv_lookup (tgt := 68) X.1.1 X.1.2.1 dX6_readingAt_22 (by decide) (lk_two (fun q => c_3 ((sw_eq q).trans (by decide))) (fun q => c_5 ((sw_eq q).trans (by decide)))) (by decide) ?_
        refine lv_lload X.1.1 X.1.2.1 dX6_readingAt_68 (lv_at hl 0 rfl) ?_
        obtain ⟨z7, ez7, hf⟩ := obd hf
        refine r_callSI (As := [.long z2]) (rest := []) X hw (c_X6_readingOrGap ez7) (va_cwS 1 X.1.2.2.2.2 (guS um_X6_28 ut_X6_readingOrGap un_X6 uo_X6_readingOrGap) rfl rfl rfl (by decide +kernel) ⟨Nat.le_of_ble_eq_true rfl, Nat.le_of_ble_eq_true rfl⟩) rfl hl.1 rfl (Nat.le_of_ble_eq_true rfl) dX6_readingAt_70 ⟨Nat.zero_le _, Nat.zero_le _⟩ (fun H locs hw => ?_)
        cases hf
        exact r_retI X hw hr hlk rfl dX6_readingAt_73
  · skip
    rw [if_neg c_1] at hf
    refine lv_ldc (v := (2000000 : Int32)) X.1.1 X.1.2.1 X.1.2.2.2.1 (X.1.2.2.2.2 _ uc_X6_19) dX6_readingAt_10 ?_
    cases hf
    exact r_retI X hw hr hlk rfl dX6_readingAt_12
/-! X7_begin -/
def lp_X7_begin_2 (h : Hs) (a0 : Nat) : Nat → Int32 → Mm → Option (Int32 × Mm)
  | 0, _, _ => none
  | n + 1, v1, M =>
    gd (ok h a0 7) <|
    dq (zR h a0 0) fun q1 =>
    gd (ok h q1 12) <|
    if (Int32.ofNat (zN h q1)) ≤ v1 then
      some (v1, M)
    else
      gd (inb v1 (zN h q1)) <|
      lt_ (sJ M q1 v1.toNatClampNeg (0 : Int64)) fun M4 =>
      lt_ (v1 + (1 : Int32)) fun x5 =>
      lp_X7_begin_2 h a0 n x5 M4
set_option maxHeartbeats 4000000 in
set_option maxRecDepth 100000 in
theorem wlp_X7_begin_2 {l : Launch} {D : va_G} {cy : Nat → ClassId} {h : Hs} {a0 : Nat} {p : Program} {e : Env} {s : State} {m : MethodId} {args : Array Value} {below : List Frame} {meth : Method} {c : Code} {A : Nat → Prop} (X : Cx p s m args c cX7_begin 2 gtbl RX7 D cy A) {Q : State → Prop} : ∀ (n : Nat) (v1 : Int32) (M : Mm) (z : (Int32 × Mm)) (H : Heap) (locs : List Loc) (ls : Array Slot), lp_X7_begin_2 h a0 n v1 M = some z → Wd D cy A s.heap h M H locs → lv_has ls 2 [(1, .int v1), (0, .ref a0)] → (∀ x : (Int32 × Mm), z = x → ∀ (H : Heap) (locs : List Loc) (ls : Array Slot), Wd D cy A s.heap h x.2 H locs → lv_has ls 2 [(1, .int x.1), (0, .ref a0)] → W p l e ({ frames := 0, cells := 0, slots := 0, locals := 0 } : Room) s m args below meth c H locs 0 0 Q (F0 m 24 ls [])) → W p l e ({ frames := 0, cells := 0, slots := 0, locals := 0 } : Room) s m args below meth c H locs 0 0 Q (F0 m 2 ls []) := by
  intro n
  induction n with
  | zero => intro v1 M z H locs ls hf hw hl kx; exact absurd hf (by intro q; cases q)
  | succ n ih =>
    intro v1 M z H locs ls hf hw hl kx
    unfold lp_X7_begin_2 at hf
    refine lv_iload_n X.1.1 X.1.2.1 dX7_begin_2 rfl (lv_at hl 0 rfl) ?_
    refine lv_aload_n X.1.1 X.1.2.1 dX7_begin_3 rfl (lv_at hl 1 rfl) ?_
    obtain ⟨g_a0, hf⟩ := ogd hf
    obtain ⟨q1, eq1, hf⟩ := odq hf
    refine r_getq (k := 7) (j := 0) X hw rfl inX7 g_a0 rfl (by decide) (by decide) uf_X7_9 rfl dX7_begin_4 eq1 ?_
    obtain ⟨g_q1, hf⟩ := ogd hf
    refine r_alen X hw g_q1 (by decide) dX7_begin_7 ?_
    refine lv_icmp_ge (tgt := 24) X.1.1 X.1.2.1 dX7_begin_8 (by decide) (fun c_2 => ?_) (fun c_2 => ?_)
    · skip
      rw [if_pos c_2] at hf
      cases hf
      exact kx _ rfl _ _ _ hw (lv_sub hl [0, 1] rfl)
    · skip
      rw [if_neg c_2] at hf
      refine lv_aload_n X.1.1 X.1.2.1 dX7_begin_11 rfl (lv_at hl 1 rfl) ?_
      refine r_getq (k := 7) (j := 0) X hw rfl inX7 g_a0 rfl (by decide) (by decide) uf_X7_9 rfl dX7_begin_12 eq1 ?_
      refine lv_iload_n X.1.1 X.1.2.1 dX7_begin_15 rfl (lv_at hl 0 rfl) ?_
      refine lv_lconst (v := (0 : Int64)) X.1.1 X.1.2.1 dX7_begin_16 (by decide) ?_
      obtain ⟨i_3, hf⟩ := ogd hf
      refine r_last X hw g_q1 i_3 dX7_begin_17 (fun H locs hw => ?_)
      obtain ⟨M4, eM4, hf⟩ := olt hf
      rw [← eM4] at hw
      obtain ⟨x5, ex5, hf⟩ := olt hf
      refine lv_iinc (v := x5) (lv' := [(1, .int x5), (0, .ref a0)]) X.1.1 X.1.2.1 dX7_begin_18 hl (k := 0) rfl (by rw [ex5]; rfl) (by decide) rfl (fun ls hl => ?_)
      refine lv_goto (tgt := 2) X.1.1 X.1.2.1 dX7_begin_21 (by decide) ?_
      exact ih _ _ _ _ _ _ hf hw (lv_sub hl [0, 1] rfl) kx
def f_X7_begin (h : Hs) (a0 : Nat) (M : Mm) : Option Mm :=
  (lp_X7_begin_2 h a0 fuel (0 : Int32) M).bind fun z6 =>
  gd (ok h a0 7) <|
  lt_ (sJ z6.2 a0 1 (0 : Int64)) fun M7 =>
  lt_ (sJ M7 a0 2 (0 : Int64)) fun M8 =>
  lt_ (sI M8 a0 3 (0 : Int32)) fun M9 =>
  some M9
set_option maxHeartbeats 4000000 in
set_option maxRecDepth 100000 in
theorem c_X7_begin {l : Launch} {D : va_G} {cy : Nat → ClassId} {h : Hs} {a0 : Nat} {M : Mm} {z : Mm} (hf : f_X7_begin h a0 M = some z) : CtV l D cy yX7_begin (wu yX7_begin cX7_begin 2 none) ({ frames := 0, cells := 0, slots := 0, locals := 0 }) [.ref a0] h M z := by
  refine enterV (cc := cX7_begin) (maxL := 2) (ret := none) (by decide) (Nat.le_of_ble_eq_true rfl) ?_
  intro p e s m args below meth c A ls X hw hr hlk hl
  have hl : lv_has ls 2 [(0, .ref a0)] := hl
  unfold f_X7_begin at hf
  refine lv_iconst (v := (0 : Int32)) X.1.1 X.1.2.1 dX7_begin_0 (by decide) ?_
  refine lv_istore_n (lv' := [(1, .int (0 : Int32)), (0, .ref a0)]) X.1.1 X.1.2.1 dX7_begin_1 rfl hl (by decide) rfl (fun ls hl => ?_)
  obtain ⟨z6, ez6, hf⟩ := obd hf
  refine wlp_X7_begin_2 X fuel _ _ _ _ _ _ ez6 hw (lv_sub hl [0, 1] rfl) (fun x ex H locs ls hw hl => ?_)
  subst ex
  refine lv_aload_n X.1.1 X.1.2.1 dX7_begin_24 rfl (lv_at hl 1 rfl) ?_
  refine lv_lconst (v := (0 : Int64)) X.1.1 X.1.2.1 dX7_begin_25 (by decide) ?_
  obtain ⟨g_a0, hf⟩ := ogd hf
  refine r_putl (k := 7) (j := 1) X hw rfl inX7 tyX7_ok nmX7 g_a0 rfl (by decide) (by decide) uf_X7_15 rfl rfl rfl rfl dX7_begin_26 (fun H locs hw => ?_)
  obtain ⟨M7, eM7, hf⟩ := olt hf
  rw [← eM7] at hw
  refine lv_aload_n X.1.1 X.1.2.1 dX7_begin_29 rfl (lv_at hl 1 rfl) ?_
  refine lv_lconst (v := (0 : Int64)) X.1.1 X.1.2.1 dX7_begin_30 (by decide) ?_
  refine r_putl (k := 7) (j := 2) X hw rfl inX7 tyX7_ok nmX7 g_a0 rfl (by decide) (by decide) uf_X7_19 rfl rfl rfl rfl dX7_begin_31 (fun H locs hw => ?_)
  obtain ⟨M8, eM8, hf⟩ := olt hf
  rw [← eM8] at hw
  refine lv_aload_n X.1.1 X.1.2.1 dX7_begin_34 rfl (lv_at hl 1 rfl) ?_
  refine lv_iconst (v := (0 : Int32)) X.1.1 X.1.2.1 dX7_begin_35 (by decide) ?_
  refine r_puti (k := 7) (j := 3) X hw rfl inX7 tyX7_ok nmX7 g_a0 rfl (by decide) (by decide) uf_X7_22 rfl rfl rfl rfl dX7_begin_36 (fun H locs hw => ?_)
  obtain ⟨M9, eM9, hf⟩ := olt hf
  rw [← eM9] at hw
  cases hf
  exact r_retV X hw hr hlk dX7_begin_39
/-! X7_use -/
def f_X7_use (h : Hs) (a0 : Nat) (p1 : Nat) (p2 : Int32) (p3 : Int32) (M : Mm) : Option Mm :=
  gd (ok h a0 7) <|
  Option.bind (
    if ¬ (zI M a0 3) = 0 then
      some (1 : Int32)
    else
      gd (ok h p1 2) <|
      if p2 < (zI M p1 5) then
        some (0 : Int32)
      else
        some (1 : Int32)
    ) fun y3 =>
  gd (y3 = 0 ∨ y3 = 1) <|
  lt_ (sI M a0 3 y3) fun M5 =>
  if (zI M5 a0 3) = 0 then
    some M5
  else
    if (1 : Int32) ≤ p3 then
      gd (ok h p1 2) <|
      (f_X2_boundFor h p1 p2 M5).bind fun z8 =>
      (f_X2_useUnder h p1 z8 M5).bind fun z9 =>
      gd (¬ p3.toInt64 = 0) <|
      lt_ (z9 / p3.toInt64) fun x11 =>
      lt_ (sJ M5 a0 1 ((zJ M5 a0 1) + x11)) fun M12 =>
      if z8 < 0 then
        some M12
      else
        dq (zR h a0 0) fun q14 =>
        gd (ok h q14 12) <|
        if (Int32.ofNat (zN h q14)) ≤ z8 then
          some M12
        else
          gd (inb z8 (zN h q14)) <|
          gd (inb z8 (zN h q14)) <|
          lt_ (sJ M12 q14 z8.toNatClampNeg ((zJ M12 q14 z8.toNatClampNeg) + x11)) fun M18 =>
          some M18
    else
      some M5
set_option maxHeartbeats 4000000 in
set_option maxRecDepth 100000 in
theorem c_X7_use {l : Launch} {D : va_G} {cy : Nat → ClassId} {h : Hs} {a0 : Nat} {p1 : Nat} {p2 : Int32} {p3 : Int32} {M : Mm} {z : Mm} (hf : f_X7_use h a0 p1 p2 p3 M = some z) : CtV l D cy yX7_use (wu yX7_use cX7_use 7 none) ({ frames := 2, cells := 0, slots := 0, locals := 44 }) [.ref a0, .ref p1, .int p2, .int p3] h M z := by
  refine enterV (cc := cX7_use) (maxL := 7) (ret := none) (by decide) (Nat.le_of_ble_eq_true rfl) ?_
  intro p e s m args below meth c A ls X hw hr hlk hl
  have hl : lv_has ls 7 [(0, .ref a0), (1, .ref p1), (2, .int p2), (3, .int p3)] := hl
  unfold f_X7_use at hf
  refine lv_aload_n X.1.1 X.1.2.1 dX7_use_0 rfl (lv_at hl 0 rfl) ?_
  refine lv_aload_n X.1.1 X.1.2.1 dX7_use_1 rfl (lv_at hl 0 rfl) ?_
  obtain ⟨g_a0, hf⟩ := ogd hf
  refine r_geti (k := 7) (j := 3) X hw rfl inX7 g_a0 rfl (by decide) (by decide) uf_X7_22 rfl dX7_use_2 ?_
  obtain ⟨y3, ey3, hf⟩ := obd hf
  have Jy3 : ∀ (H : Heap) (locs : List Loc) (ls : Array Slot), Wd D cy A s.heap h M H locs → lv_has ls 7 [(0, .ref a0), (1, .ref p1), (2, .int p2), (3, .int p3)] → W p l e ({ frames := 2, cells := 0, slots := 0, locals := 44 } : Room) s m args below meth c H locs 0 0 (QV below D cy A h args s z) (F0 m 21 ls [.int y3, .ref a0]) := by
    intro H locs ls hw hl
    obtain ⟨b_4, hf⟩ := ogd hf
    refine r_puti (k := 7) (j := 3) X hw rfl inX7 tyX7_ok nmX7 g_a0 rfl (by decide) (by decide) uf_X7_22 rfl rfl (narZ b_4) (fitZ b_4) dX7_use_21 (fun H locs hw => ?_)
    obtain ⟨M5, eM5, hf⟩ := olt hf
    rw [← eM5] at hw
    refine lv_aload_n X.1.1 X.1.2.1 dX7_use_24 rfl (lv_at hl 0 rfl) ?_
    refine r_geti (k := 7) (j := 3) X hw rfl inX7 g_a0 rfl (by decide) (by decide) uf_X7_22 rfl dX7_use_25 ?_
    refine lv_if_eq (tgt := 36) X.1.1 X.1.2.1 dX7_use_28 (by decide) (fun c_6 => ?_) (fun c_6 => ?_)
    · skip
      rw [if_pos c_6] at hf
      cases hf
      exact r_retV X hw hr hlk dX7_use_36
    · skip
      rw [if_neg c_6] at hf
      refine lv_iload_n X.1.1 X.1.2.1 dX7_use_31 rfl (lv_at hl 3 rfl) ?_
      refine lv_iconst (v := (1 : Int32)) X.1.1 X.1.2.1 dX7_use_32 (by decide) ?_
      refine lv_icmp_ge (tgt := 37) X.1.1 X.1.2.1 dX7_use_33 (by decide) (fun c_7 => ?_) (fun c_7 => ?_)
      · skip
        rw [if_pos c_7] at hf
        refine lv_aload_n X.1.1 X.1.2.1 dX7_use_37 rfl (lv_at hl 1 rfl) ?_
        refine lv_iload_n X.1.1 X.1.2.1 dX7_use_38 rfl (lv_at hl 2 rfl) ?_
        obtain ⟨g_p1, hf⟩ := ogd hf
        obtain ⟨z8, ez8, hf⟩ := obd hf
        refine r_callVI (As := [.int p2]) (rest := []) X hw (c_X2_boundFor ez8) (cwV 1 X.1.2.2.2.2 (guV um_X7_61 ui_X2_boundFor us_X2_boundFor un_X2 uo_X2_boundFor) rfl rfl rfl (by decide +kernel) ⟨Nat.le_of_ble_eq_true rfl, Nat.le_of_ble_eq_true rfl⟩) g_p1 (by decide) rfl rfl hl.1 rfl (Nat.le_of_ble_eq_true rfl) dX7_use_39 ⟨Nat.zero_le _, Nat.zero_le _⟩ (fun H locs hw => ?_)
        refine lv_istore (lv' := [(4, .int z8), (0, .ref a0), (1, .ref p1), (2, .int p2), (3, .int p3)]) X.1.1 X.1.2.1 dX7_use_42 hl (by decide) rfl (fun ls hl => ?_)
        refine lv_aload_n X.1.1 X.1.2.1 dX7_use_44 rfl (lv_at hl 2 rfl) ?_
        refine lv_iload X.1.1 X.1.2.1 dX7_use_45 (lv_at hl 0 rfl) ?_
        obtain ⟨z9, ez9, hf⟩ := obd hf
        refine r_callVL (As := [.int z8]) (rest := []) X hw (c_X2_useUnder ez9) (cwV 1 X.1.2.2.2.2 (guV um_X7_64 ui_X2_useUnder us_X2_useUnder un_X2 uo_X2_useUnder) rfl rfl rfl (by decide +kernel) ⟨Nat.le_of_ble_eq_true rfl, Nat.le_of_ble_eq_true rfl⟩) g_p1 (by decide) rfl rfl hl.1 rfl (Nat.le_of_ble_eq_true rfl) dX7_use_47 ⟨Nat.zero_le _, Nat.zero_le _⟩ (fun H locs hw => ?_)
        refine lv_iload_n X.1.1 X.1.2.1 dX7_use_50 rfl (lv_at hl 4 rfl) ?_
        refine lv_i2l X.1.1 X.1.2.1 dX7_use_51 rfl ?_
        obtain ⟨n_10, hf⟩ := ogd hf
        refine lv_ldiv X.1.1 X.1.2.1 dX7_use_52 n_10 ?_
        refine lv_topl (fun x11 ex11 => ?_)
        have hf := oltE ex11 hf
        refine lv_lstore (lv' := [(5, .long x11), (4, .int z8), (0, .ref a0), (1, .ref p1), (2, .int p2), (3, .int p3)]) X.1.1 X.1.2.1 dX7_use_53 hl (by decide) rfl (fun ls hl => ?_)
        refine lv_aload_n X.1.1 X.1.2.1 dX7_use_55 rfl (lv_at hl 2 rfl) ?_
        refine lv_dup X.1.1 X.1.2.1 dX7_use_56 rfl ?_
        refine r_getl (k := 7) (j := 1) X hw rfl inX7 g_a0 rfl (by decide) (by decide) uf_X7_15 rfl dX7_use_57 ?_
        refine lv_lload X.1.1 X.1.2.1 dX7_use_60 (lv_at hl 0 rfl) ?_
        refine lv_ladd X.1.1 X.1.2.1 dX7_use_62 ?_
        refine r_putl (k := 7) (j := 1) X hw rfl inX7 tyX7_ok nmX7 g_a0 rfl (by decide) (by decide) uf_X7_15 rfl rfl rfl rfl dX7_use_63 (fun H locs hw => ?_)
        obtain ⟨M12, eM12, hf⟩ := olt hf
        rw [← eM12] at hw
        refine lv_iload X.1.1 X.1.2.1 dX7_use_66 (lv_at hl 1 rfl) ?_
        refine lv_if_lt (tgt := 93) X.1.1 X.1.2.1 dX7_use_68 (by decide) (fun c_13 => ?_) (fun c_13 => ?_)
        · skip
          rw [if_pos c_13] at hf
          cases hf
          exact r_retV X hw hr hlk dX7_use_93
        · skip
          rw [if_neg c_13] at hf
          refine lv_iload X.1.1 X.1.2.1 dX7_use_71 (lv_at hl 1 rfl) ?_
          refine lv_aload_n X.1.1 X.1.2.1 dX7_use_73 rfl (lv_at hl 2 rfl) ?_
          obtain ⟨q14, eq14, hf⟩ := odq hf
          refine r_getq (k := 7) (j := 0) X hw rfl inX7 g_a0 rfl (by decide) (by decide) uf_X7_9 rfl dX7_use_74 eq14 ?_
          obtain ⟨g_q14, hf⟩ := ogd hf
          refine r_alen X hw g_q14 (by decide) dX7_use_77 ?_
          refine lv_icmp_ge (tgt := 93) X.1.1 X.1.2.1 dX7_use_78 (by decide) (fun c_15 => ?_) (fun c_15 => ?_)
          · skip
            rw [if_pos c_15] at hf
            cases hf
            exact r_retV X hw hr hlk dX7_use_93
          · skip
            rw [if_neg c_15] at hf
            refine lv_aload_n X.1.1 X.1.2.1 dX7_use_81 rfl (lv_at hl 2 rfl) ?_
            refine r_getq (k := 7) (j := 0) X hw rfl inX7 g_a0 rfl (by decide) (by decide) uf_X7_9 rfl dX7_use_82 eq14 ?_
            refine lv_iload X.1.1 X.1.2.1 dX7_use_85 (lv_at hl 1 rfl) ?_
            refine lv_dup2_11 X.1.1 X.1.2.1 dX7_use_87 rfl rfl ?_
            obtain ⟨i_16, hf⟩ := ogd hf
            refine r_lald X hw g_q14 i_16 dX7_use_88 ?_
            refine lv_lload X.1.1 X.1.2.1 dX7_use_89 (lv_at hl 0 rfl) ?_
            refine lv_ladd X.1.1 X.1.2.1 dX7_use_91 ?_
            obtain ⟨i_17, hf⟩ := ogd hf
            refine r_last X hw g_q14 i_17 dX7_use_92 (fun H locs hw => ?_)
            obtain ⟨M18, eM18, hf⟩ := olt hf
            rw [← eM18] at hw
            cases hf
            exact r_retV X hw hr hlk dX7_use_93
      · skip
        rw [if_neg c_7] at hf
        cases hf
        exact r_retV X hw hr hlk dX7_use_36
  clear hf
  have hf := ey3
  clear ey3
  refine lv_if_ne (tgt := 16) X.1.1 X.1.2.1 dX7_use_5 (by decide) (fun c_1 => ?_) (fun c_1 => ?_)
  · skip
    rw [if_pos c_1] at hf
    refine lv_iconst (v := (1 : Int32)) X.1.1 X.1.2.1 dX7_use_16 (by decide) ?_
    refine lv_goto (tgt := 21) X.1.1 X.1.2.1 dX7_use_17 (by decide) ?_
    cases hf
    exact Jy3 _ _ _ hw (lv_sub hl [0, 1, 2, 3] rfl)
  · skip
    rw [if_neg (fun z => z c_1)] at hf
    refine lv_iload_n X.1.1 X.1.2.1 dX7_use_8 rfl (lv_at hl 2 rfl) ?_
    refine lv_aload_n X.1.1 X.1.2.1 dX7_use_9 rfl (lv_at hl 1 rfl) ?_
    obtain ⟨g_p1, hf⟩ := ogd hf
    refine r_geti (k := 2) (j := 5) X hw rfl inX2 g_p1 rfl (by decide) (by decide) uf_X7_68 rfl dX7_use_10 ?_
    refine lv_icmp_lt (tgt := 20) X.1.1 X.1.2.1 dX7_use_13 (by decide) (fun c_2 => ?_) (fun c_2 => ?_)
    · skip
      rw [if_pos c_2] at hf
      refine lv_iconst (v := (0 : Int32)) X.1.1 X.1.2.1 dX7_use_20 (by decide) ?_
      cases hf
      exact Jy3 _ _ _ hw (lv_sub hl [0, 1, 2, 3] rfl)
    · skip
      rw [if_neg c_2] at hf
      refine lv_iconst (v := (1 : Int32)) X.1.1 X.1.2.1 dX7_use_16 (by decide) ?_
      refine lv_goto (tgt := 21) X.1.1 X.1.2.1 dX7_use_17 (by decide) ?_
      cases hf
      exact Jy3 _ _ _ hw (lv_sub hl [0, 1, 2, 3] rfl)
/-! X7_reckon -/
def lp_X7_reckon_2 (h : Hs) (a0 : Nat) (p1 : Nat) (p2 : Nat) : Nat → Int32 → Mm → Option (Int32 × Mm)
  | 0, _, _ => none
  | n + 1, v3, M =>
    gd (ok h p2 5) <|
    if (zI M p2 11) ≤ v3 then
      some (v3, M)
    else
      (f_X5_firstOf h p2 v3 M).bind fun z2 =>
      (f_X5_secondOf h p2 v3 M).bind fun z3 =>
      gd (ok h p1 2) <|
      (f_X2_effectOf h p1 p2 z2 z3 M).bind fun z4 =>
      gd (ok h a0 7) <|
      (f_X7_use h a0 p1 z4 (1 : Int32) M).bind fun z5 =>
      lt_ (v3 + (1 : Int32)) fun x6 =>
      lp_X7_reckon_2 h a0 p1 p2 n x6 z5
set_option maxHeartbeats 4000000 in
set_option maxRecDepth 100000 in
theorem wlp_X7_reckon_2 {l : Launch} {D : va_G} {cy : Nat → ClassId} {h : Hs} {a0 : Nat} {p1 : Nat} {p2 : Nat} {p : Program} {e : Env} {s : State} {m : MethodId} {args : Array Value} {below : List Frame} {meth : Method} {c : Code} {A : Nat → Prop} (X : Cx p s m args c cX7_reckon 4 gtbl RX7 D cy A) {Q : State → Prop} : ∀ (n : Nat) (v3 : Int32) (M : Mm) (z : (Int32 × Mm)) (H : Heap) (locs : List Loc) (ls : Array Slot), lp_X7_reckon_2 h a0 p1 p2 n v3 M = some z → Wd D cy A s.heap h M H locs → lv_has ls 4 [(3, .int v3), (0, .ref a0), (1, .ref p1), (2, .ref p2)] → (∀ x : (Int32 × Mm), z = x → ∀ (H : Heap) (locs : List Loc) (ls : Array Slot), Wd D cy A s.heap h x.2 H locs → lv_has ls 4 [(3, .int x.1), (0, .ref a0), (1, .ref p1), (2, .ref p2)] → W p l e ({ frames := 3, cells := 0, slots := 0, locals := 72 } : Room) s m args below meth c H locs 0 0 Q (F0 m 37 ls [])) → W p l e ({ frames := 3, cells := 0, slots := 0, locals := 72 } : Room) s m args below meth c H locs 0 0 Q (F0 m 2 ls []) := by
  intro n
  induction n with
  | zero => intro v3 M z H locs ls hf hw hl kx; exact absurd hf (by intro q; cases q)
  | succ n ih =>
    intro v3 M z H locs ls hf hw hl kx
    unfold lp_X7_reckon_2 at hf
    refine lv_iload_n X.1.1 X.1.2.1 dX7_reckon_2 rfl (lv_at hl 0 rfl) ?_
    refine lv_aload_n X.1.1 X.1.2.1 dX7_reckon_3 rfl (lv_at hl 3 rfl) ?_
    obtain ⟨g_p2, hf⟩ := ogd hf
    refine r_geti (k := 5) (j := 11) X hw rfl inX5 g_p2 rfl (by decide) (by decide) uf_X7_26 rfl dX7_reckon_4 ?_
    refine lv_icmp_ge (tgt := 37) X.1.1 X.1.2.1 dX7_reckon_7 (by decide) (fun c_1 => ?_) (fun c_1 => ?_)
    · skip
      rw [if_pos c_1] at hf
      cases hf
      exact kx _ rfl _ _ _ hw (lv_sub hl [0, 1, 2, 3] rfl)
    · skip
      rw [if_neg c_1] at hf
      refine lv_aload_n X.1.1 X.1.2.1 dX7_reckon_10 rfl (lv_at hl 1 rfl) ?_
      refine lv_aload_n X.1.1 X.1.2.1 dX7_reckon_11 rfl (lv_at hl 2 rfl) ?_
      refine lv_aload_n X.1.1 X.1.2.1 dX7_reckon_12 rfl (lv_at hl 2 rfl) ?_
      refine lv_aload_n X.1.1 X.1.2.1 dX7_reckon_13 rfl (lv_at hl 3 rfl) ?_
      refine lv_aload_n X.1.1 X.1.2.1 dX7_reckon_14 rfl (lv_at hl 3 rfl) ?_
      refine lv_iload_n X.1.1 X.1.2.1 dX7_reckon_15 rfl (lv_at hl 0 rfl) ?_
      obtain ⟨z2, ez2, hf⟩ := obd hf
      refine r_callVI (As := [.int v3]) (rest := [.ref p2, .ref p1, .ref p1, .ref a0]) X hw (c_X5_firstOf ez2) (cwV 1 X.1.2.2.2.2 (guV um_X7_32 ui_X5_firstOf us_X5_firstOf un_X5 uo_X5_firstOf) rfl rfl rfl (by decide +kernel) ⟨Nat.le_of_ble_eq_true rfl, Nat.le_of_ble_eq_true rfl⟩) g_p2 (by decide) rfl rfl hl.1 rfl (Nat.le_of_ble_eq_true rfl) dX7_reckon_16 ⟨Nat.zero_le _, Nat.zero_le _⟩ (fun H locs hw => ?_)
      refine lv_aload_n X.1.1 X.1.2.1 dX7_reckon_19 rfl (lv_at hl 3 rfl) ?_
      refine lv_iload_n X.1.1 X.1.2.1 dX7_reckon_20 rfl (lv_at hl 0 rfl) ?_
      obtain ⟨z3, ez3, hf⟩ := obd hf
      refine r_callVI (As := [.int v3]) (rest := [.int z2, .ref p2, .ref p1, .ref p1, .ref a0]) X hw (c_X5_secondOf ez3) (cwV 1 X.1.2.2.2.2 (guV um_X7_36 ui_X5_secondOf us_X5_secondOf un_X5 uo_X5_secondOf) rfl rfl rfl (by decide +kernel) ⟨Nat.le_of_ble_eq_true rfl, Nat.le_of_ble_eq_true rfl⟩) g_p2 (by decide) rfl rfl hl.1 rfl (Nat.le_of_ble_eq_true rfl) dX7_reckon_21 ⟨Nat.zero_le _, Nat.zero_le _⟩ (fun H locs hw => ?_)
      obtain ⟨g_p1, hf⟩ := ogd hf
      obtain ⟨z4, ez4, hf⟩ := obd hf
      refine r_callVI (As := [.ref p2, .int z2, .int z3]) (rest := [.ref p1, .ref a0]) X hw (c_X2_effectOf ez4) (cwV 3 X.1.2.2.2.2 (guV um_X7_39 ui_X2_effectOf us_X2_effectOf un_X2 uo_X2_effectOf) rfl rfl rfl (by decide +kernel) ⟨Nat.le_of_ble_eq_true rfl, Nat.le_of_ble_eq_true rfl⟩) g_p1 (by decide) rfl rfl hl.1 rfl (Nat.le_of_ble_eq_true rfl) dX7_reckon_24 ⟨Nat.zero_le _, Nat.zero_le _⟩ (fun H locs hw => ?_)
      refine lv_iconst (v := (1 : Int32)) X.1.1 X.1.2.1 dX7_reckon_27 (by decide) ?_
      obtain ⟨g_a0, hf⟩ := ogd hf
      obtain ⟨z5, ez5, hf⟩ := obd hf
      refine r_callVV (As := [.ref p1, .int z4, .int (1 : Int32)]) (rest := []) X hw (c_X7_use ez5) (cwV 3 X.1.2.2.2.2 (guV um_X7_45 ui_X7_use us_X7_use un_X7 uo_X7_use) rfl rfl rfl (by decide +kernel) ⟨Nat.le_of_ble_eq_true rfl, Nat.le_of_ble_eq_true rfl⟩) g_a0 (by decide) rfl rfl hl.1 rfl (Nat.le_of_ble_eq_true rfl) dX7_reckon_28 ⟨Nat.zero_le _, Nat.zero_le _⟩ (fun H locs hw => ?_)
      obtain ⟨x6, ex6, hf⟩ := olt hf
      refine lv_iinc (v := x6) (lv' := [(3, .int x6), (0, .ref a0), (1, .ref p1), (2, .ref p2)]) X.1.1 X.1.2.1 dX7_reckon_31 hl (k := 0) rfl (by rw [ex6]; rfl) (by decide) rfl (fun ls hl => ?_)
      refine lv_goto (tgt := 2) X.1.1 X.1.2.1 dX7_reckon_34 (by decide) ?_
      exact ih _ _ _ _ _ _ hf hw (lv_sub hl [0, 1, 2, 3] rfl) kx
def lp_X7_reckon_39 (h : Hs) (a0 : Nat) (p1 : Nat) (p2 : Nat) : Nat → Int32 → Mm → Option (Int32 × Mm)
  | 0, _, _ => none
  | n + 1, v3, M =>
    gd (ok h p2 5) <|
    if (zI M p2 10) ≤ (v3 + (1 : Int32)) then
      some (v3, M)
    else
      (f_X5_restAt h p2 v3 M).bind fun z9 =>
      (f_X5_restAt h p2 (v3 + (1 : Int32)) M).bind fun z10 =>
      gd (ok h p1 2) <|
      (f_X2_effectOf h p1 p2 z9 z10 M).bind fun z11 =>
      gd (ok h a0 7) <|
      (f_X7_use h a0 p1 z11 (2 : Int32) M).bind fun z12 =>
      lt_ (v3 + (1 : Int32)) fun x13 =>
      lp_X7_reckon_39 h a0 p1 p2 n x13 z12
set_option maxHeartbeats 4000000 in
set_option maxRecDepth 100000 in
theorem wlp_X7_reckon_39 {l : Launch} {D : va_G} {cy : Nat → ClassId} {h : Hs} {a0 : Nat} {p1 : Nat} {p2 : Nat} {p : Program} {e : Env} {s : State} {m : MethodId} {args : Array Value} {below : List Frame} {meth : Method} {c : Code} {A : Nat → Prop} (X : Cx p s m args c cX7_reckon 4 gtbl RX7 D cy A) {Q : State → Prop} : ∀ (n : Nat) (v3 : Int32) (M : Mm) (z : (Int32 × Mm)) (H : Heap) (locs : List Loc) (ls : Array Slot), lp_X7_reckon_39 h a0 p1 p2 n v3 M = some z → Wd D cy A s.heap h M H locs → lv_has ls 4 [(3, .int v3), (0, .ref a0), (1, .ref p1), (2, .ref p2)] → (∀ x : (Int32 × Mm), z = x → ∀ (H : Heap) (locs : List Loc) (ls : Array Slot), Wd D cy A s.heap h x.2 H locs → lv_has ls 4 [(3, .int x.1), (0, .ref a0), (1, .ref p1), (2, .ref p2)] → W p l e ({ frames := 3, cells := 0, slots := 0, locals := 72 } : Room) s m args below meth c H locs 0 0 Q (F0 m 78 ls [])) → W p l e ({ frames := 3, cells := 0, slots := 0, locals := 72 } : Room) s m args below meth c H locs 0 0 Q (F0 m 39 ls []) := by
  intro n
  induction n with
  | zero => intro v3 M z H locs ls hf hw hl kx; exact absurd hf (by intro q; cases q)
  | succ n ih =>
    intro v3 M z H locs ls hf hw hl kx
    unfold lp_X7_reckon_39 at hf
    refine lv_iload_n X.1.1 X.1.2.1 dX7_reckon_39 rfl (lv_at hl 0 rfl) ?_
    refine lv_iconst (v := (1 : Int32)) X.1.1 X.1.2.1 dX7_reckon_40 (by decide) ?_
    refine lv_iadd X.1.1 X.1.2.1 dX7_reckon_41 ?_
    refine lv_aload_n X.1.1 X.1.2.1 dX7_reckon_42 rfl (lv_at hl 3 rfl) ?_
    obtain ⟨g_p2, hf⟩ := ogd hf
    refine r_geti (k := 5) (j := 10) X hw rfl inX5 g_p2 rfl (by decide) (by decide) uf_X7_49 rfl dX7_reckon_43 ?_
    refine lv_icmp_ge (tgt := 78) X.1.1 X.1.2.1 dX7_reckon_46 (by decide) (fun c_8 => ?_) (fun c_8 => ?_)
    · skip
      rw [if_pos c_8] at hf
      cases hf
      exact kx _ rfl _ _ _ hw (lv_sub hl [0, 1, 2, 3] rfl)
    · skip
      rw [if_neg c_8] at hf
      refine lv_aload_n X.1.1 X.1.2.1 dX7_reckon_49 rfl (lv_at hl 1 rfl) ?_
      refine lv_aload_n X.1.1 X.1.2.1 dX7_reckon_50 rfl (lv_at hl 2 rfl) ?_
      refine lv_aload_n X.1.1 X.1.2.1 dX7_reckon_51 rfl (lv_at hl 2 rfl) ?_
      refine lv_aload_n X.1.1 X.1.2.1 dX7_reckon_52 rfl (lv_at hl 3 rfl) ?_
      refine lv_aload_n X.1.1 X.1.2.1 dX7_reckon_53 rfl (lv_at hl 3 rfl) ?_
      refine lv_iload_n X.1.1 X.1.2.1 dX7_reckon_54 rfl (lv_at hl 0 rfl) ?_
      obtain ⟨z9, ez9, hf⟩ := obd hf
      refine r_callVI (As := [.int v3]) (rest := [.ref p2, .ref p1, .ref p1, .ref a0]) X hw (c_X5_restAt ez9) (cwV 1 X.1.2.2.2.2 (guV um_X7_52 ui_X5_restAt us_X5_restAt un_X5 uo_X5_restAt) rfl rfl rfl (by decide +kernel) ⟨Nat.le_of_ble_eq_true rfl, Nat.le_of_ble_eq_true rfl⟩) g_p2 (by decide) rfl rfl hl.1 rfl (Nat.le_of_ble_eq_true rfl) dX7_reckon_55 ⟨Nat.zero_le _, Nat.zero_le _⟩ (fun H locs hw => ?_)
      refine lv_aload_n X.1.1 X.1.2.1 dX7_reckon_58 rfl (lv_at hl 3 rfl) ?_
      refine lv_iload_n X.1.1 X.1.2.1 dX7_reckon_59 rfl (lv_at hl 0 rfl) ?_
      refine lv_iconst (v := (1 : Int32)) X.1.1 X.1.2.1 dX7_reckon_60 (by decide) ?_
      refine lv_iadd X.1.1 X.1.2.1 dX7_reckon_61 ?_
      obtain ⟨z10, ez10, hf⟩ := obd hf
      refine r_callVI (As := [.int (v3 + (1 : Int32))]) (rest := [.int z9, .ref p2, .ref p1, .ref p1, .ref a0]) X hw (c_X5_restAt ez10) (cwV 1 X.1.2.2.2.2 (guV um_X7_52 ui_X5_restAt us_X5_restAt un_X5 uo_X5_restAt) rfl rfl rfl (by decide +kernel) ⟨Nat.le_of_ble_eq_true rfl, Nat.le_of_ble_eq_true rfl⟩) g_p2 (by decide) rfl rfl hl.1 rfl (Nat.le_of_ble_eq_true rfl) dX7_reckon_62 ⟨Nat.zero_le _, Nat.zero_le _⟩ (fun H locs hw => ?_)
      obtain ⟨g_p1, hf⟩ := ogd hf
      obtain ⟨z11, ez11, hf⟩ := obd hf
      refine r_callVI (As := [.ref p2, .int z9, .int z10]) (rest := [.ref p1, .ref a0]) X hw (c_X2_effectOf ez11) (cwV 3 X.1.2.2.2.2 (guV um_X7_39 ui_X2_effectOf us_X2_effectOf un_X2 uo_X2_effectOf) rfl rfl rfl (by decide +kernel) ⟨Nat.le_of_ble_eq_true rfl, Nat.le_of_ble_eq_true rfl⟩) g_p1 (by decide) rfl rfl hl.1 rfl (Nat.le_of_ble_eq_true rfl) dX7_reckon_65 ⟨Nat.zero_le _, Nat.zero_le _⟩ (fun H locs hw => ?_)
      refine lv_iconst (v := (2 : Int32)) X.1.1 X.1.2.1 dX7_reckon_68 (by decide) ?_
      obtain ⟨g_a0, hf⟩ := ogd hf
      obtain ⟨z12, ez12, hf⟩ := obd hf
      refine r_callVV (As := [.ref p1, .int z11, .int (2 : Int32)]) (rest := []) X hw (c_X7_use ez12) (cwV 3 X.1.2.2.2.2 (guV um_X7_45 ui_X7_use us_X7_use un_X7 uo_X7_use) rfl rfl rfl (by decide +kernel) ⟨Nat.le_of_ble_eq_true rfl, Nat.le_of_ble_eq_true rfl⟩) g_a0 (by decide) rfl rfl hl.1 rfl (Nat.le_of_ble_eq_true rfl) dX7_reckon_69 ⟨Nat.zero_le _, Nat.zero_le _⟩ (fun H locs hw => ?_)
      obtain ⟨x13, ex13, hf⟩ := olt hf
      refine lv_iinc (v := x13) (lv' := [(3, .int x13), (0, .ref a0), (1, .ref p1), (2, .ref p2)]) X.1.1 X.1.2.1 dX7_reckon_72 hl (k := 0) rfl (by rw [ex13]; rfl) (by decide) rfl (fun ls hl => ?_)
      refine lv_goto (tgt := 39) X.1.1 X.1.2.1 dX7_reckon_75 (by decide) ?_
      exact ih _ _ _ _ _ _ hf hw (lv_sub hl [0, 1, 2, 3] rfl) kx
def f_X7_reckon (h : Hs) (a0 : Nat) (p1 : Nat) (p2 : Nat) (M : Mm) : Option Mm :=
  (lp_X7_reckon_2 h a0 p1 p2 fuel (0 : Int32) M).bind fun z7 =>
  (lp_X7_reckon_39 h a0 p1 p2 fuel (0 : Int32) z7.2).bind fun z14 =>
  gd (ok h a0 7) <|
  gd (ok h p2 5) <|
  gd (ok h p1 2) <|
  (f_X2_boundFor h p1 (zI z14.2 p1 6) z14.2).bind fun z15 =>
  (f_X2_useUnder h p1 z15 z14.2).bind fun z16 =>
  lt_ (sJ z14.2 a0 2 ((zJ z14.2 a0 1) + (((zI z14.2 p2 6).toInt64) * z16))) fun M17 =>
  some M17
set_option maxHeartbeats 4000000 in
set_option maxRecDepth 100000 in
theorem c_X7_reckon {l : Launch} {D : va_G} {cy : Nat → ClassId} {h : Hs} {a0 : Nat} {p1 : Nat} {p2 : Nat} {M : Mm} {z : Mm} (hf : f_X7_reckon h a0 p1 p2 M = some z) : CtV l D cy yX7_reckon (wu yX7_reckon cX7_reckon 4 none) ({ frames := 3, cells := 0, slots := 0, locals := 72 }) [.ref a0, .ref p1, .ref p2] h M z := by
  refine enterV (cc := cX7_reckon) (maxL := 4) (ret := none) (by decide) (Nat.le_of_ble_eq_true rfl) ?_
  intro p e s m args below meth c A ls X hw hr hlk hl
  have hl : lv_has ls 4 [(0, .ref a0), (1, .ref p1), (2, .ref p2)] := hl
  unfold f_X7_reckon at hf
  refine lv_iconst (v := (0 : Int32)) X.1.1 X.1.2.1 dX7_reckon_0 (by decide) ?_
  refine lv_istore_n (lv' := [(3, .int (0 : Int32)), (0, .ref a0), (1, .ref p1), (2, .ref p2)]) X.1.1 X.1.2.1 dX7_reckon_1 rfl hl (by decide) rfl (fun ls hl => ?_)
  obtain ⟨z7, ez7, hf⟩ := obd hf
  refine wlp_X7_reckon_2 X fuel _ _ _ _ _ _ ez7 hw (lv_sub hl [0, 1, 2, 3] rfl) (fun x ex H locs ls hw hl => ?_)
  subst ex
  refine lv_iconst (v := (0 : Int32)) X.1.1 X.1.2.1 dX7_reckon_37 (by decide) ?_
  refine lv_istore_n (lv' := [(3, .int (0 : Int32)), (0, .ref a0), (1, .ref p1), (2, .ref p2)]) X.1.1 X.1.2.1 dX7_reckon_38 rfl hl (by decide) rfl (fun ls hl => ?_)
  obtain ⟨z14, ez14, hf⟩ := obd hf
  refine wlp_X7_reckon_39 X fuel _ _ _ _ _ _ ez14 hw (lv_sub hl [0, 1, 2, 3] rfl) (fun x ex H locs ls hw hl => ?_)
  subst ex
  refine lv_aload_n X.1.1 X.1.2.1 dX7_reckon_78 rfl (lv_at hl 1 rfl) ?_
  refine lv_aload_n X.1.1 X.1.2.1 dX7_reckon_79 rfl (lv_at hl 1 rfl) ?_
  obtain ⟨g_a0, hf⟩ := ogd hf
  refine r_getl (k := 7) (j := 1) X hw rfl inX7 g_a0 rfl (by decide) (by decide) uf_X7_15 rfl dX7_reckon_80 ?_
  refine lv_aload_n X.1.1 X.1.2.1 dX7_reckon_83 rfl (lv_at hl 3 rfl) ?_
  obtain ⟨g_p2, hf⟩ := ogd hf
  refine r_geti (k := 5) (j := 6) X hw rfl inX5 g_p2 rfl (by decide) (by decide) uf_X7_55 rfl dX7_reckon_84 ?_
  refine lv_i2l X.1.1 X.1.2.1 dX7_reckon_87 rfl ?_
  refine lv_aload_n X.1.1 X.1.2.1 dX7_reckon_88 rfl (lv_at hl 2 rfl) ?_
  refine lv_aload_n X.1.1 X.1.2.1 dX7_reckon_89 rfl (lv_at hl 2 rfl) ?_
  refine lv_aload_n X.1.1 X.1.2.1 dX7_reckon_90 rfl (lv_at hl 2 rfl) ?_
  obtain ⟨g_p1, hf⟩ := ogd hf
  refine r_geti (k := 2) (j := 6) X hw rfl inX2 g_p1 rfl (by decide) (by decide) uf_X7_58 rfl dX7_reckon_91 ?_
  obtain ⟨z15, ez15, hf⟩ := obd hf
  refine r_callVI (As := [.int (zI z14.2 p1 6)]) (rest := [.ref p1, .long ((zI z14.2 p2 6).toInt64), .long (zJ z14.2 a0 1), .ref a0]) X hw (c_X2_boundFor ez15) (cwV 1 X.1.2.2.2.2 (guV um_X7_61 ui_X2_boundFor us_X2_boundFor un_X2 uo_X2_boundFor) rfl rfl rfl (by decide +kernel) ⟨Nat.le_of_ble_eq_true rfl, Nat.le_of_ble_eq_true rfl⟩) g_p1 (by decide) rfl rfl hl.1 rfl (Nat.le_of_ble_eq_true rfl) dX7_reckon_94 ⟨Nat.zero_le _, Nat.zero_le _⟩ (fun H locs hw => ?_)
  obtain ⟨z16, ez16, hf⟩ := obd hf
  refine r_callVL (As := [.int z15]) (rest := [.long ((zI z14.2 p2 6).toInt64), .long (zJ z14.2 a0 1), .ref a0]) X hw (c_X2_useUnder ez16) (cwV 1 X.1.2.2.2.2 (guV um_X7_64 ui_X2_useUnder us_X2_useUnder un_X2 uo_X2_useUnder) rfl rfl rfl (by decide +kernel) ⟨Nat.le_of_ble_eq_true rfl, Nat.le_of_ble_eq_true rfl⟩) g_p1 (by decide) rfl rfl hl.1 rfl (Nat.le_of_ble_eq_true rfl) dX7_reckon_97 ⟨Nat.zero_le _, Nat.zero_le _⟩ (fun H locs hw => ?_)
  refine lv_lmul X.1.1 X.1.2.1 dX7_reckon_100 ?_
  refine lv_ladd X.1.1 X.1.2.1 dX7_reckon_101 ?_
  refine r_putl (k := 7) (j := 2) X hw rfl inX7 tyX7_ok nmX7 g_a0 rfl (by decide) (by decide) uf_X7_19 rfl rfl rfl rfl dX7_reckon_102 (fun H locs hw => ?_)
  obtain ⟨M17, eM17, hf⟩ := olt hf
  rw [← eM17] at hw
  cases hf
  exact r_retV X hw hr hlk dX7_reckon_105
