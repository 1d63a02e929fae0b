/-! X7_partOf -/
def f_X7_partOf (h : Hs) (a0 : Nat) (p1 : Int32) (M : Mm) : Option Int64 :=
  if p1 < 0 then
    some (0 : Int64)
  else
    gd (ok h a0 7) <|
    dq (zR h a0 0) fun q2 =>
    gd (ok h q2 12) <|
    if (Int32.ofNat (zN h q2)) ≤ p1 then
      some (0 : Int64)
    else
      gd (inb p1 (zN h q2)) <|
      some (zJ M q2 p1.toNatClampNeg)
set_option maxHeartbeats 4000000 in
set_option maxRecDepth 100000 in
theorem c_X7_partOf {l : Launch} {D : va_G} {cy : Nat → ClassId} {h : Hs} {a0 : Nat} {p1 : Int32} {M : Mm} {z : Int64} (hf : f_X7_partOf h a0 p1 M = some z) : CtL l D cy yX7_partOf (wu yX7_partOf cX7_partOf 2 (some .long)) ({ frames := 0, cells := 0, slots := 0, locals := 0 }) [.ref a0, .int p1] h M z M := by
  refine enterL (cc := cX7_partOf) (maxL := 2) (ret := (some .long)) (by decide) (Nat.le_of_ble_eq_true rfl) ?_
  intro p e s m args below meth c A ls X hw hr hlk hl
  have hl : lv_has ls 2 [(0, .ref a0), (1, .int p1)] := hl
  unfold f_X7_partOf at hf
  refine lv_iload_n X.1.1 X.1.2.1 dX7_partOf_0 rfl (lv_at hl 1 rfl) ?_
  refine lv_if_lt (tgt := 22) X.1.1 X.1.2.1 dX7_partOf_1 (by decide) (fun c_1 => ?_) (fun c_1 => ?_)
  · skip
    rw [if_pos c_1] at hf
    refine lv_lconst (v := (0 : Int64)) X.1.1 X.1.2.1 dX7_partOf_22 (by decide) ?_
    cases hf
    exact r_retL X hw hr hlk dX7_partOf_23
  · skip
    rw [if_neg c_1] at hf
    refine lv_iload_n X.1.1 X.1.2.1 dX7_partOf_4 rfl (lv_at hl 1 rfl) ?_
    refine lv_aload_n X.1.1 X.1.2.1 dX7_partOf_5 rfl (lv_at hl 0 rfl) ?_
    obtain ⟨g_a0, hf⟩ := ogd hf
    obtain ⟨q2, eq2, hf⟩ := odq hf
    refine r_getq (k := 7) (j := 0) X hw rfl inX7 g_a0 rfl (by decide) (by decide) uf_X7_9 rfl dX7_partOf_6 eq2 ?_
    obtain ⟨g_q2, hf⟩ := ogd hf
    refine r_alen X hw g_q2 (by decide) dX7_partOf_9 ?_
    refine lv_icmp_ge (tgt := 22) X.1.1 X.1.2.1 dX7_partOf_10 (by decide) (fun c_3 => ?_) (fun c_3 => ?_)
    · skip
      rw [if_pos c_3] at hf
      refine lv_lconst (v := (0 : Int64)) X.1.1 X.1.2.1 dX7_partOf_22 (by decide) ?_
      cases hf
      exact r_retL X hw hr hlk dX7_partOf_23
    · skip
      rw [if_neg c_3] at hf
      refine lv_aload_n X.1.1 X.1.2.1 dX7_partOf_13 rfl (lv_at hl 0 rfl) ?_
      refine r_getq (k := 7) (j := 0) X hw rfl inX7 g_a0 rfl (by decide) (by decide) uf_X7_9 rfl dX7_partOf_14 eq2 ?_
      refine lv_iload_n X.1.1 X.1.2.1 dX7_partOf_17 rfl (lv_at hl 1 rfl) ?_
      obtain ⟨i_4, hf⟩ := ogd hf
      refine r_lald X hw g_q2 i_4 dX7_partOf_18 ?_
      refine lv_goto (tgt := 23) X.1.1 X.1.2.1 dX7_partOf_19 (by decide) ?_
      cases hf
      exact r_retL X hw hr hlk dX7_partOf_23
/-! X7_partsAheadOf -/
def lp_X7_partsAheadOf_12 (h : Hs) (w2 : Int64) (w1 : Int32) (a0 : Nat) (M : Mm) : Nat → Int32 → Int32 → Option (Int32 × Int32)
  | 0, _, _ => none
  | n + 1, v4, v5 =>
    dq (zR h a0 0) fun q2 =>
    gd (ok h q2 12) <|
    if (Int32.ofNat (zN h q2)) ≤ v5 then
      some (v4, v5)
    else
      gd (inb v5 (zN h q2)) <|
      Option.bind (
        if w2 < (zJ M q2 v5.toNatClampNeg) then
          lt_ (v4 + (1 : Int32)) fun x6 =>
          some x6
        else
          gd (inb v5 (zN h q2)) <|
          if ¬ (zJ M q2 v5.toNatClampNeg) = w2 then
            some v4
          else
            if w1 ≤ v5 then
              some v4
            else
              lt_ (v4 + (1 : Int32)) fun x10 =>
              some x10
        ) fun y11 =>
      lt_ (v5 + (1 : Int32)) fun x12 =>
      lp_X7_partsAheadOf_12 h w2 w1 a0 M n y11 x12
set_option maxHeartbeats 4000000 in
set_option maxRecDepth 100000 in
theorem wlp_X7_partsAheadOf_12 {l : Launch} {D : va_G} {cy : Nat → ClassId} {h : Hs} {w2 : Int64} {w1 : Int32} {a0 : Nat} {M : Mm} {p : Program} {e : Env} {s : State} {m : MethodId} {args : Array Value} {below : List Frame} {meth : Method} {c : Code} {A : Nat → Prop} (X : Cx p s m args c cX7_partsAheadOf 6 gtbl RX7 D cy A) {Q : State → Prop} (g_a0 : ok h a0 7) : ∀ (n : Nat) (v4 : Int32) (v5 : Int32) (z : (Int32 × Int32)) (H : Heap) (locs : List Loc) (ls : Array Slot), lp_X7_partsAheadOf_12 h w2 w1 a0 M n v4 v5 = some z → Wd D cy A s.heap h M H locs → lv_has ls 6 [(4, .int v4), (5, .int v5), (2, .long w2), (0, .ref a0), (1, .int w1)] → (∀ x : (Int32 × Int32), z = x → ∀ (H : Heap) (locs : List Loc) (ls : Array Slot), Wd D cy A s.heap h M H locs → lv_has ls 6 [(4, .int x.1), (5, .int x.2), (2, .long w2), (0, .ref a0), (1, .int w1)] → W p l e ({ frames := 1, cells := 0, slots := 0, locals := 21 } : Room) s m args below meth c H locs 0 0 Q (F0 m 61 ls [])) → W p l e ({ frames := 1, cells := 0, slots := 0, locals := 21 } : Room) s m args below meth c H locs 0 0 Q (F0 m 12 ls []) := by
  intro n
  induction n with
  | zero => intro v4 v5 z H locs ls hf hw hl kx; exact absurd hf (by intro q; cases q)
  | succ n ih =>
    intro v4 v5 z H locs ls hf hw hl kx
    unfold lp_X7_partsAheadOf_12 at hf
    refine lv_iload X.1.1 X.1.2.1 dX7_partsAheadOf_12 (lv_at hl 1 rfl) ?_
    refine lv_aload_n X.1.1 X.1.2.1 dX7_partsAheadOf_14 rfl (lv_at hl 3 rfl) ?_
    obtain ⟨q2, eq2, hf⟩ := odq hf
    refine r_getq (k := 7) (j := 0) X hw rfl inX7 g_a0 rfl (by decide) (by decide) uf_X7_9 rfl dX7_partsAheadOf_15 eq2 ?_
    obtain ⟨g_q2, hf⟩ := ogd hf
    refine r_alen X hw g_q2 (by decide) dX7_partsAheadOf_18 ?_
    refine lv_icmp_ge (tgt := 61) X.1.1 X.1.2.1 dX7_partsAheadOf_19 (by decide) (fun c_3 => ?_) (fun c_3 => ?_)
    · skip
      rw [if_pos c_3] at hf
      cases hf
      exact kx _ rfl _ _ _ hw (lv_sub hl [0, 1, 2, 3, 4] rfl)
    · skip
      rw [if_neg c_3] at hf
      refine lv_aload_n X.1.1 X.1.2.1 dX7_partsAheadOf_22 rfl (lv_at hl 3 rfl) ?_
      refine r_getq (k := 7) (j := 0) X hw rfl inX7 g_a0 rfl (by decide) (by decide) uf_X7_9 rfl dX7_partsAheadOf_23 eq2 ?_
      refine lv_iload X.1.1 X.1.2.1 dX7_partsAheadOf_26 (lv_at hl 1 rfl) ?_
      obtain ⟨i_4, hf⟩ := ogd hf
      refine r_lald X hw g_q2 i_4 dX7_partsAheadOf_28 ?_
      refine lv_lload_n X.1.1 X.1.2.1 dX7_partsAheadOf_29 rfl (lv_at hl 2 rfl) ?_
      refine W.lcmp X.1.1 X.1.2.1 dX7_partsAheadOf_30 ?_
      obtain ⟨y11, ey11, hf⟩ := obd hf
      have Jy11 : ∀ (H : Heap) (locs : List Loc) (ls : Array Slot), Wd D cy A s.heap h M H locs → lv_has ls 6 [(4, .int y11), (5, .int v5), (2, .long w2), (0, .ref a0), (1, .int w1)] → W p l e ({ frames := 1, cells := 0, slots := 0, locals := 21 } : Room) s m args below meth c H locs 0 0 Q (F0 m 55 ls []) := by
        intro H locs ls hw hl
        obtain ⟨x12, ex12, hf⟩ := olt hf
        refine lv_iinc (v := x12) (lv' := [(5, .int x12), (4, .int y11), (2, .long w2), (0, .ref a0), (1, .int w1)]) X.1.1 X.1.2.1 dX7_partsAheadOf_55 hl (k := 1) rfl (by rw [ex12]; rfl) (by decide) rfl (fun ls hl => ?_)
        refine lv_goto (tgt := 12) X.1.1 X.1.2.1 dX7_partsAheadOf_58 (by decide) ?_
        exact ih _ _ _ _ _ _ hf hw (lv_sub hl [1, 0, 2, 3, 4] rfl) kx
      clear hf
      have hf := ey11
      clear ey11
      refine lv_if_gt (tgt := 52) X.1.1 X.1.2.1 dX7_partsAheadOf_31 (by decide) (fun c_5 => ?_) (fun c_5 => ?_)
      · skip
        rw [lg_cmp_gt] at c_5
        rw [if_pos c_5] at hf
        obtain ⟨x6, ex6, hf⟩ := olt hf
        refine lv_iinc (v := x6) (lv' := [(4, .int x6), (5, .int v5), (2, .long w2), (0, .ref a0), (1, .int w1)]) X.1.1 X.1.2.1 dX7_partsAheadOf_52 hl (k := 0) rfl (by rw [ex6]; rfl) (by decide) rfl (fun ls hl => ?_)
        cases hf
        exact Jy11 _ _ _ hw (lv_sub hl [0, 1, 2, 3, 4] rfl)
      · skip
        rw [lg_cmp_gt] at c_5
        rw [if_neg c_5] at hf
        refine lv_aload_n X.1.1 X.1.2.1 dX7_partsAheadOf_34 rfl (lv_at hl 3 rfl) ?_
        refine r_getq (k := 7) (j := 0) X hw rfl inX7 g_a0 rfl (by decide) (by decide) uf_X7_9 rfl dX7_partsAheadOf_35 eq2 ?_
        refine lv_iload X.1.1 X.1.2.1 dX7_partsAheadOf_38 (lv_at hl 1 rfl) ?_
        obtain ⟨i_7, hf⟩ := ogd hf
        refine r_lald X hw g_q2 i_7 dX7_partsAheadOf_40 ?_
        refine lv_lload_n X.1.1 X.1.2.1 dX7_partsAheadOf_41 rfl (lv_at hl 2 rfl) ?_
        refine W.lcmp X.1.1 X.1.2.1 dX7_partsAheadOf_42 ?_
        refine lv_if_ne (tgt := 55) X.1.1 X.1.2.1 dX7_partsAheadOf_43 (by decide) (fun c_8 => ?_) (fun c_8 => ?_)
        · skip
          rw [lg_cmp_eq] at c_8
          rw [if_pos c_8] at hf
          cases hf
          exact Jy11 _ _ _ hw (lv_sub hl [0, 1, 2, 3, 4] rfl)
        · skip
          rw [lg_cmp_eq] at c_8
          rw [if_neg (fun z => z c_8)] at hf
          refine lv_iload X.1.1 X.1.2.1 dX7_partsAheadOf_46 (lv_at hl 1 rfl) ?_
          refine lv_iload_n X.1.1 X.1.2.1 dX7_partsAheadOf_48 rfl (lv_at hl 4 rfl) ?_
          refine lv_icmp_ge (tgt := 55) X.1.1 X.1.2.1 dX7_partsAheadOf_49 (by decide) (fun c_9 => ?_) (fun c_9 => ?_)
          · skip
            rw [if_pos c_9] at hf
            cases hf
            exact Jy11 _ _ _ hw (lv_sub hl [0, 1, 2, 3, 4] rfl)
          · skip
            rw [if_neg c_9] at hf
            obtain ⟨x10, ex10, hf⟩ := olt hf
            refine lv_iinc (v := x10) (lv' := [(4, .int x10), (5, .int v5), (2, .long w2), (0, .ref a0), (1, .int w1)]) X.1.1 X.1.2.1 dX7_partsAheadOf_52 hl (k := 0) rfl (by rw [ex10]; rfl) (by decide) rfl (fun ls hl => ?_)
            cases hf
            exact Jy11 _ _ _ hw (lv_sub hl [0, 1, 2, 3, 4] rfl)
def f_X7_partsAheadOf (h : Hs) (a0 : Nat) (p1 : Int32) (M : Mm) : Option Int32 :=
  gd (ok h a0 7) <|
  (f_X7_partOf h a0 p1 M).bind fun z1 =>
  (lp_X7_partsAheadOf_12 h z1 p1 a0 M fuel (0 : Int32) (0 : Int32)).bind fun z13 =>
  some z13.1
set_option maxHeartbeats 4000000 in
set_option maxRecDepth 100000 in
theorem c_X7_partsAheadOf {l : Launch} {D : va_G} {cy : Nat → ClassId} {h : Hs} {a0 : Nat} {p1 : Int32} {M : Mm} {z : Int32} (hf : f_X7_partsAheadOf h a0 p1 M = some z) : CtI l D cy yX7_partsAheadOf (wu yX7_partsAheadOf cX7_partsAheadOf 6 (some .int)) ({ frames := 1, cells := 0, slots := 0, locals := 21 }) [.ref a0, .int p1] h M z M := by
  refine enterI (cc := cX7_partsAheadOf) (maxL := 6) (ret := (some .int)) (by decide) (Nat.le_of_ble_eq_true rfl) ?_
  intro p e s m args below meth c A ls X hw hr hlk hl
  have hl : lv_has ls 6 [(0, .ref a0), (1, .int p1)] := hl
  unfold f_X7_partsAheadOf at hf
  refine lv_aload_n X.1.1 X.1.2.1 dX7_partsAheadOf_0 rfl (lv_at hl 0 rfl) ?_
  refine lv_iload_n X.1.1 X.1.2.1 dX7_partsAheadOf_1 rfl (lv_at hl 1 rfl) ?_
  obtain ⟨g_a0, hf⟩ := ogd hf
  obtain ⟨z1, ez1, hf⟩ := obd hf
  refine r_callVL (As := [.int p1]) (rest := []) X hw (c_X7_partOf ez1) (cwV 1 X.1.2.2.2.2 (guV um_X7_71 ui_X7_partOf us_X7_partOf un_X7 uo_X7_partOf) rfl rfl rfl (by decide +kernel) ⟨Nat.le_of_ble_eq_true rfl, Nat.le_of_ble_eq_true rfl⟩) g_a0 (by decide) rfl rfl hl.1 rfl (Nat.le_of_ble_eq_true rfl) dX7_partsAheadOf_2 ⟨Nat.zero_le _, Nat.zero_le _⟩ (fun H locs hw => ?_)
  refine lv_lstore_n (lv' := [(2, .long z1), (0, .ref a0), (1, .int p1)]) X.1.1 X.1.2.1 dX7_partsAheadOf_5 rfl hl (by decide) rfl (fun ls hl => ?_)
  refine lv_iconst (v := (0 : Int32)) X.1.1 X.1.2.1 dX7_partsAheadOf_6 (by decide) ?_
  refine lv_istore (lv' := [(4, .int (0 : Int32)), (2, .long z1), (0, .ref a0), (1, .int p1)]) X.1.1 X.1.2.1 dX7_partsAheadOf_7 hl (by decide) rfl (fun ls hl => ?_)
  refine lv_iconst (v := (0 : Int32)) X.1.1 X.1.2.1 dX7_partsAheadOf_9 (by decide) ?_
  refine lv_istore (lv' := [(5, .int (0 : Int32)), (4, .int (0 : Int32)), (2, .long z1), (0, .ref a0), (1, .int p1)]) X.1.1 X.1.2.1 dX7_partsAheadOf_10 hl (by decide) rfl (fun ls hl => ?_)
  obtain ⟨z13, ez13, hf⟩ := obd hf
  refine wlp_X7_partsAheadOf_12 X g_a0 fuel _ _ _ _ _ _ ez13 hw (lv_sub hl [1, 0, 2, 3, 4] rfl) (fun x ex H locs ls hw hl => ?_)
  subst ex
  refine lv_iload X.1.1 X.1.2.1 dX7_partsAheadOf_61 (lv_at hl 0 rfl) ?_
  cases hf
  exact r_retI X hw hr hlk rfl dX7_partsAheadOf_63
