/-! X9_thrown -/
def f_X9_thrown (h : Hs) (a0 : Nat) (M : Mm) : Option Int32 :=
  gd (ok h a0 9) <|
  some (zI M a0 0)
set_option maxHeartbeats 4000000 in
set_option maxRecDepth 100000 in
theorem c_X9_thrown {l : Launch} {D : va_G} {cy : Nat → ClassId} {h : Hs} {a0 : Nat} {M : Mm} {z : Int32} (hf : f_X9_thrown h a0 M = some z) : CtI l D cy yX9_thrown (wu yX9_thrown cX9_thrown 1 (some .int)) ({ frames := 0, cells := 0, slots := 0, locals := 0 }) [.ref a0] h M z M := by
  refine enterI (cc := cX9_thrown) (maxL := 1) (ret := (some .int)) (by decide) (Nat.le_of_ble_eq_true rfl) ?_
  intro p e s m args below meth c A ls X hw hr hlk hl
  have hl : lv_has ls 1 [(0, .ref a0)] := hl
  unfold f_X9_thrown at hf
  refine lv_aload_n X.1.1 X.1.2.1 dX9_thrown_0 rfl (lv_at hl 0 rfl) ?_
  obtain ⟨g_a0, hf⟩ := ogd hf
  refine r_geti (k := 9) (j := 0) X hw rfl inX9 g_a0 rfl (by decide) (by decide) uf_X9_1 rfl dX9_thrown_1 ?_
  cases hf
  exact r_retI X hw hr hlk rfl dX9_thrown_4
/-! X9_throwsIf -/
def f_X9_throwsIf (h : Hs) (a0 : Nat) (p1 : Int32) (M : Mm) : Option (Int32 × Mm) :=
  Option.bind (
    if p1 = 0 then
      some (0 : Int32)
    else
      some (1 : Int32)
    ) fun y2 =>
  gd (ok h a0 9) <|
  lt_ (sI M a0 0 y2) fun M3 =>
  gd (p1 = 0 ∨ p1 = 1) <|
  some (p1, M3)
set_option maxHeartbeats 4000000 in
set_option maxRecDepth 100000 in
theorem c_X9_throwsIf {l : Launch} {D : va_G} {cy : Nat → ClassId} {h : Hs} {a0 : Nat} {p1 : Int32} {M : Mm} {z : (Int32 × Mm)} (hf : f_X9_throwsIf h a0 p1 M = some z) : CtI l D cy yX9_throwsIf (wu yX9_throwsIf cX9_throwsIf 2 (some .boolean)) ({ frames := 0, cells := 0, slots := 0, locals := 0 }) [.ref a0, .int p1] h M z.1 z.2 := by
  refine enterI (cc := cX9_throwsIf) (maxL := 2) (ret := (some .boolean)) (by decide) (Nat.le_of_ble_eq_true rfl) ?_
  intro p e s m args below meth c A ls X hw hr hlk hl
  have hl : lv_has ls 2 [(0, .ref a0), (1, .int p1)] := hl
  unfold f_X9_throwsIf at hf
  refine lv_aload_n X.1.1 X.1.2.1 dX9_throwsIf_0 rfl (lv_at hl 0 rfl) ?_
  refine lv_iload_n X.1.1 X.1.2.1 dX9_throwsIf_1 rfl (lv_at hl 1 rfl) ?_
  obtain ⟨y2, ey2, hf⟩ := obd hf
  have Jy2 : ∀ (H : Heap) (locs : List Loc) (ls : Array Slot), Wd D cy A s.heap h M H locs → lv_has ls 2 [(1, .int p1)] → W p l e ({ frames := 0, cells := 0, slots := 0, locals := 0 } : Room) s m args below meth c H locs 0 0 (QI below D cy A h args s z.1 z.2) (F0 m 10 ls [.int y2, .ref a0]) := by
    intro H locs ls hw hl
    obtain ⟨g_a0, hf⟩ := ogd hf
    refine r_puti (k := 9) (j := 0) X hw rfl inX9 tyX9_ok nmX9 g_a0 rfl (by decide) (by decide) uf_X9_1 rfl rfl rfl rfl dX9_throwsIf_10 (fun H locs hw => ?_)
    obtain ⟨M3, eM3, hf⟩ := olt hf
    rw [← eM3] at hw
    refine lv_iload_n X.1.1 X.1.2.1 dX9_throwsIf_13 rfl (lv_at hl 0 rfl) ?_
    obtain ⟨b_4, hf⟩ := ogd hf
    cases hf
    exact r_retI (v := p1) X hw hr hlk (narZ b_4) dX9_throwsIf_14
  clear hf
  have hf := ey2
  clear ey2
  refine lv_if_eq (tgt := 9) X.1.1 X.1.2.1 dX9_throwsIf_2 (by decide) (fun c_1 => ?_) (fun c_1 => ?_)
  · skip
    rw [if_pos c_1] at hf
    refine lv_iconst (v := (0 : Int32)) X.1.1 X.1.2.1 dX9_throwsIf_9 (by decide) ?_
    cases hf
    exact Jy2 _ _ _ hw (lv_sub hl [1] rfl)
  · skip
    rw [if_neg c_1] at hf
    refine lv_iconst (v := (1 : Int32)) X.1.1 X.1.2.1 dX9_throwsIf_5 (by decide) ?_
    refine lv_goto (tgt := 10) X.1.1 X.1.2.1 dX9_throwsIf_6 (by decide) ?_
    cases hf
    exact Jy2 _ _ _ hw (lv_sub hl [1] rfl)
/-! X9_copy -/
def lp_X9_copy_2 (h : Hs) (p1 : Nat) (p2 : Nat) : Nat → Int32 → Mm → Option (Int32 × Mm)
  | 0, _, _ => none
  | n + 1, v3, M =>
    if (5328 : Int32) ≤ v3 then
      some (v3, M)
    else
      gd (ok h p1 11) <|
      gd (inb v3 (zN h p1)) <|
      gd (ok h p2 11) <|
      gd (inb v3 (zN h p2)) <|
      lt_ (sI M p2 v3.toNatClampNeg (zI M p1 v3.toNatClampNeg)) fun M4 =>
      lt_ (v3 + (1 : Int32)) fun x5 =>
      lp_X9_copy_2 h p1 p2 n x5 M4
set_option maxHeartbeats 4000000 in
set_option maxRecDepth 100000 in
theorem wlp_X9_copy_2 {l : Launch} {D : va_G} {cy : Nat → ClassId} {h : Hs} {p1 : Nat} {p2 : Nat} {p : Program} {e : Env} {s : State} {m : MethodId} {args : Array Value} {below : List Frame} {meth : Method} {c : Code} {A : Nat → Prop} (X : Cx p s m args c cX9_copy 4 gtbl RX9 D cy A) {Q : State → Prop} : ∀ (n : Nat) (v3 : Int32) (M : Mm) (z : (Int32 × Mm)) (H : Heap) (locs : List Loc) (ls : Array Slot), lp_X9_copy_2 h p1 p2 n v3 M = some z → Wd D cy A s.heap h M H locs → lv_has ls 4 [(3, .int v3), (1, .ref p1), (2, .ref p2)] → (∀ x : (Int32 × Mm), z = x → ∀ (H : Heap) (locs : List Loc) (ls : Array Slot), Wd D cy A s.heap h x.2 H locs → lv_has ls 4 [(3, .int x.1), (1, .ref p1), (2, .ref p2)] → W p l e ({ frames := 0, cells := 0, slots := 0, locals := 0 } : Room) s m args below meth c H locs 0 0 Q (F0 m 21 ls [])) → W p l e ({ frames := 0, cells := 0, slots := 0, locals := 0 } : Room) s m args below meth c H locs 0 0 Q (F0 m 2 ls []) := by
  intro n
  induction n with
  | zero => intro v3 M z H locs ls hf hw hl kx; exact absurd hf (by intro q; cases q)
  | succ n ih =>
    intro v3 M z H locs ls hf hw hl kx
    unfold lp_X9_copy_2 at hf
    refine lv_iload_n X.1.1 X.1.2.1 dX9_copy_2 rfl (lv_at hl 0 rfl) ?_
    refine lv_sipush (v := (5328 : Int32)) X.1.1 X.1.2.1 dX9_copy_3 (by decide) ?_
    refine lv_icmp_ge (tgt := 21) X.1.1 X.1.2.1 dX9_copy_6 (by decide) (fun c_1 => ?_) (fun c_1 => ?_)
    · skip
      rw [if_pos c_1] at hf
      cases hf
      exact kx _ rfl _ _ _ hw (lv_sub hl [0, 1, 2] rfl)
    · skip
      rw [if_neg c_1] at hf
      refine lv_aload_n X.1.1 X.1.2.1 dX9_copy_9 rfl (lv_at hl 2 rfl) ?_
      refine lv_iload_n X.1.1 X.1.2.1 dX9_copy_10 rfl (lv_at hl 0 rfl) ?_
      refine lv_aload_n X.1.1 X.1.2.1 dX9_copy_11 rfl (lv_at hl 1 rfl) ?_
      refine lv_iload_n X.1.1 X.1.2.1 dX9_copy_12 rfl (lv_at hl 0 rfl) ?_
      obtain ⟨g_p1, hf⟩ := ogd hf
      obtain ⟨i_2, hf⟩ := ogd hf
      refine r_iald X hw g_p1 i_2 dX9_copy_13 ?_
      obtain ⟨g_p2, hf⟩ := ogd hf
      obtain ⟨i_3, hf⟩ := ogd hf
      refine r_iast X hw g_p2 i_3 dX9_copy_14 (fun H locs hw => ?_)
      obtain ⟨M4, eM4, hf⟩ := olt hf
      rw [← eM4] at hw
      obtain ⟨x5, ex5, hf⟩ := olt hf
      refine lv_iinc (v := x5) (lv' := [(3, .int x5), (1, .ref p1), (2, .ref p2)]) X.1.1 X.1.2.1 dX9_copy_15 hl (k := 0) rfl (by rw [ex5]; rfl) (by decide) rfl (fun ls hl => ?_)
      refine lv_goto (tgt := 2) X.1.1 X.1.2.1 dX9_copy_18 (by decide) ?_
      exact ih _ _ _ _ _ _ hf hw (lv_sub hl [0, 1, 2] rfl) kx
def f_X9_copy (h : Hs) (a0 : Nat) (p1 : Nat) (p2 : Nat) (M : Mm) : Option Mm :=
  (lp_X9_copy_2 h p1 p2 fuel (0 : Int32) M).bind fun z6 =>
  some z6.2
set_option maxHeartbeats 4000000 in
set_option maxRecDepth 100000 in
theorem c_X9_copy {l : Launch} {D : va_G} {cy : Nat → ClassId} {h : Hs} {a0 : Nat} {p1 : Nat} {p2 : Nat} {M : Mm} {z : Mm} (hf : f_X9_copy h a0 p1 p2 M = some z) : CtV l D cy yX9_copy (wu yX9_copy cX9_copy 4 none) ({ frames := 0, cells := 0, slots := 0, locals := 0 }) [.ref a0, .ref p1, .ref p2] h M z := by
  refine enterV (cc := cX9_copy) (maxL := 4) (ret := none) (by decide) (Nat.le_of_ble_eq_true rfl) ?_
  intro p e s m args below meth c A ls X hw hr hlk hl
  have hl : lv_has ls 4 [(0, .ref a0), (1, .ref p1), (2, .ref p2)] := hl
  unfold f_X9_copy at hf
  refine lv_iconst (v := (0 : Int32)) X.1.1 X.1.2.1 dX9_copy_0 (by decide) ?_
  refine lv_istore_n (lv' := [(3, .int (0 : Int32)), (0, .ref a0), (1, .ref p1), (2, .ref p2)]) X.1.1 X.1.2.1 dX9_copy_1 rfl hl (by decide) rfl (fun ls hl => ?_)
  obtain ⟨z6, ez6, hf⟩ := obd hf
  refine wlp_X9_copy_2 X fuel _ _ _ _ _ _ ez6 hw (lv_sub hl [0, 2, 3] rfl) (fun x ex H locs ls hw hl => ?_)
  subst ex
  cases hf
  exact r_retV X hw hr hlk dX9_copy_21
/-! X9_act -/
def f_X9_act (h : Hs) (a0 : Nat) (M : Mm) : Option Mm :=
  gd (ok h a0 9) <|
  dq (zR h a0 1) fun q1 =>
  dq (zR h a0 2) fun q2 =>
  (f_X9_copy h a0 q1 q2 M).bind fun z3 =>
  lt_ (sI z3 a0 4 (1 : Int32)) fun M4 =>
  some M4
set_option maxHeartbeats 4000000 in
set_option maxRecDepth 100000 in
theorem c_X9_act {l : Launch} {D : va_G} {cy : Nat → ClassId} {h : Hs} {a0 : Nat} {M : Mm} {z : Mm} (hf : f_X9_act h a0 M = some z) : CtV l D cy yX9_act (wu yX9_act cX9_act 1 none) ({ frames := 1, cells := 0, slots := 0, locals := 23 }) [.ref a0] h M z := by
  refine enterV (cc := cX9_act) (maxL := 1) (ret := none) (by decide) (Nat.le_of_ble_eq_true rfl) ?_
  intro p e s m args below meth c A ls X hw hr hlk hl
  have hl : lv_has ls 1 [(0, .ref a0)] := hl
  unfold f_X9_act at hf
  refine lv_aload_n X.1.1 X.1.2.1 dX9_act_0 rfl (lv_at hl 0 rfl) ?_
  refine lv_aload_n X.1.1 X.1.2.1 dX9_act_1 rfl (lv_at hl 0 rfl) ?_
  obtain ⟨g_a0, hf⟩ := ogd hf
  obtain ⟨q1, eq1, hf⟩ := odq hf
  refine r_getq (k := 9) (j := 1) X hw rfl inX9 g_a0 rfl (by decide) (by decide) uf_X9_13 rfl dX9_act_2 eq1 ?_
  refine lv_aload_n X.1.1 X.1.2.1 dX9_act_5 rfl (lv_at hl 0 rfl) ?_
  obtain ⟨q2, eq2, hf⟩ := odq hf
  refine r_getq (k := 9) (j := 2) X hw rfl inX9 g_a0 rfl (by decide) (by decide) uf_X9_17 rfl dX9_act_6 eq2 ?_
  obtain ⟨z3, ez3, hf⟩ := obd hf
  refine r_callVV (As := [.ref q1, .ref q2]) (rest := []) X hw (c_X9_copy ez3) (cwV 2 X.1.2.2.2.2 (guV um_X9_56 ui_X9_copy us_X9_copy un_X9 uo_X9_copy) rfl rfl rfl (by decide +kernel) ⟨Nat.le_of_ble_eq_true rfl, Nat.le_of_ble_eq_true rfl⟩) g_a0 (by decide) rfl rfl hl.1 rfl (Nat.le_of_ble_eq_true rfl) dX9_act_9 ⟨Nat.zero_le _, Nat.zero_le _⟩ (fun H locs hw => ?_)
  refine lv_aload_n X.1.1 X.1.2.1 dX9_act_12 rfl (lv_at hl 0 rfl) ?_
  refine lv_iconst (v := (1 : Int32)) X.1.1 X.1.2.1 dX9_act_13 (by decide) ?_
  refine r_puti (k := 9) (j := 4) X hw rfl inX9 tyX9_ok nmX9 g_a0 rfl (by decide) (by decide) uf_X9_60 rfl rfl rfl rfl dX9_act_14 (fun H locs hw => ?_)
  obtain ⟨M4, eM4, hf⟩ := olt hf
  rw [← eM4] at hw
  cases hf
  exact r_retV X hw hr hlk dX9_act_17
/-! X9_no -/
def f_X9_no (h : Hs) (p1 : Int32) (M : Mm) : Option Int32 :=
  if p1 < 0 then
    some (1 : Int32)
  else
    if p1 < (12 : Int32) then
      some (0 : Int32)
    else
      some (1 : Int32)
set_option maxHeartbeats 4000000 in
set_option maxRecDepth 100000 in
theorem c_X9_no {l : Launch} {D : va_G} {cy : Nat → ClassId} {h : Hs} {p1 : Int32} {M : Mm} {z : Int32} (hf : f_X9_no h p1 M = some z) : CtI l D cy yX9_no (wu yX9_no cX9_no 1 (some .boolean)) ({ frames := 0, cells := 0, slots := 0, locals := 0 }) [.int p1] h M z M := by
  refine enterI (cc := cX9_no) (maxL := 1) (ret := (some .boolean)) (by decide) (Nat.le_of_ble_eq_true rfl) ?_
  intro p e s m args below meth c A ls X hw hr hlk hl
  have hl : lv_has ls 1 [(0, .int p1)] := hl
  unfold f_X9_no at hf
  refine lv_iload_n X.1.1 X.1.2.1 dX9_no_0 rfl (lv_at hl 0 rfl) ?_
  refine lv_if_lt (tgt := 10) X.1.1 X.1.2.1 dX9_no_1 (by decide) (fun c_1 => ?_) (fun c_1 => ?_)
  · skip
    rw [if_pos c_1] at hf
    refine lv_iconst (v := (1 : Int32)) X.1.1 X.1.2.1 dX9_no_10 (by decide) ?_
    refine lv_goto (tgt := 15) X.1.1 X.1.2.1 dX9_no_11 (by decide) ?_
    cases hf
    exact r_retI X hw hr hlk rfl dX9_no_15
  · skip
    rw [if_neg c_1] at hf
    refine lv_iload_n X.1.1 X.1.2.1 dX9_no_4 rfl (lv_at hl 0 rfl) ?_
    refine lv_bipush (v := (12 : Int32)) X.1.1 X.1.2.1 dX9_no_5 (by decide) ?_
    refine lv_icmp_lt (tgt := 14) X.1.1 X.1.2.1 dX9_no_7 (by decide) (fun c_2 => ?_) (fun c_2 => ?_)
    · skip
      rw [if_pos c_2] at hf
      refine lv_iconst (v := (0 : Int32)) X.1.1 X.1.2.1 dX9_no_14 (by decide) ?_
      cases hf
      exact r_retI X hw hr hlk rfl dX9_no_15
    · skip
      rw [if_neg c_2] at hf
      refine lv_iconst (v := (1 : Int32)) X.1.1 X.1.2.1 dX9_no_10 (by decide) ?_
      refine lv_goto (tgt := 15) X.1.1 X.1.2.1 dX9_no_11 (by decide) ?_
      cases hf
      exact r_retI X hw hr hlk rfl dX9_no_15
/-! X9_four -/
def lp_X9_four_3 (h : Hs) (w1 : Int32) (a0 : Nat) : Nat → Int32 → Mm → Option (Int32 × Mm)
  | 0, _, _ => none
  | n + 1, v2, M =>
    if v2 < 0 then
      some (v2, M)
    else
      gd (ok h a0 9) <|
      dq (zR h a0 6) fun q2 =>
      gd (ok h q2 10) <|
      gd (inb (zI M a0 7) (zN h q2)) <|
      lt_ (sI M q2 (zI M a0 7).toNatClampNeg (((w1 >>> (v2 &&& 31)).toInt8.toInt32).toInt8.toInt32)) fun M4 =>
      lt_ (sI M4 a0 7 ((zI M4 a0 7) + (1 : Int32))) fun M5 =>
      lt_ (v2 + (-8 : Int32)) fun x6 =>
      lp_X9_four_3 h w1 a0 n x6 M5
set_option maxHeartbeats 4000000 in
set_option maxRecDepth 100000 in
theorem wlp_X9_four_3 {l : Launch} {D : va_G} {cy : Nat → ClassId} {h : Hs} {w1 : Int32} {a0 : Nat} {p : Program} {e : Env} {s : State} {m : MethodId} {args : Array Value} {below : List Frame} {meth : Method} {c : Code} {A : Nat → Prop} (X : Cx p s m args c cX9_four 3 gtbl RX9 D cy A) {Q : State → Prop} : ∀ (n : Nat) (v2 : Int32) (M : Mm) (z : (Int32 × Mm)) (H : Heap) (locs : List Loc) (ls : Array Slot), lp_X9_four_3 h w1 a0 n v2 M = some z → Wd D cy A s.heap h M H locs → lv_has ls 3 [(2, .int v2), (0, .ref a0), (1, .int w1)] → (∀ x : (Int32 × Mm), z = x → ∀ (H : Heap) (locs : List Loc) (ls : Array Slot), Wd D cy A s.heap h x.2 H locs → lv_has ls 3 [(2, .int x.1), (0, .ref a0), (1, .int w1)] → W p l e ({ frames := 0, cells := 0, slots := 0, locals := 0 } : Room) s m args below meth c H locs 0 0 Q (F0 m 36 ls [])) → W p l e ({ frames := 0, cells := 0, slots := 0, locals := 0 } : Room) s m args below meth c H locs 0 0 Q (F0 m 3 ls []) := by
  intro n
  induction n with
  | zero => intro v2 M z H locs ls hf hw hl kx; exact absurd hf (by intro q; cases q)
  | succ n ih =>
    intro v2 M z H locs ls hf hw hl kx
    unfold lp_X9_four_3 at hf
    refine lv_iload_n X.1.1 X.1.2.1 dX9_four_3 rfl (lv_at hl 0 rfl) ?_
    refine lv_if_lt (tgt := 36) X.1.1 X.1.2.1 dX9_four_4 (by decide) (fun c_1 => ?_) (fun c_1 => ?_)
    · skip
      rw [if_pos c_1] at hf
      cases hf
      exact kx _ rfl _ _ _ hw (lv_sub hl [0, 1, 2] rfl)
    · skip
      rw [if_neg c_1] at hf
      refine lv_aload_n X.1.1 X.1.2.1 dX9_four_7 rfl (lv_at hl 1 rfl) ?_
      obtain ⟨g_a0, hf⟩ := ogd hf
      obtain ⟨q2, eq2, hf⟩ := odq hf
      refine r_getq (k := 9) (j := 6) X hw rfl inX9 g_a0 rfl (by decide) (by decide) uf_X9_23 rfl dX9_four_8 eq2 ?_
      refine lv_aload_n X.1.1 X.1.2.1 dX9_four_11 rfl (lv_at hl 1 rfl) ?_
      refine r_geti (k := 9) (j := 7) X hw rfl inX9 g_a0 rfl (by decide) (by decide) uf_X9_64 rfl dX9_four_12 ?_
      refine lv_iload_n X.1.1 X.1.2.1 dX9_four_15 rfl (lv_at hl 2 rfl) ?_
      refine lv_iload_n X.1.1 X.1.2.1 dX9_four_16 rfl (lv_at hl 0 rfl) ?_
      refine lv_ishr X.1.1 X.1.2.1 dX9_four_17 ?_
      refine lv_i2b X.1.1 X.1.2.1 dX9_four_18 rfl ?_
      obtain ⟨g_q2, hf⟩ := ogd hf
      obtain ⟨i_3, hf⟩ := ogd hf
      refine r_bast X hw g_q2 i_3 dX9_four_19 (fun H locs hw => ?_)
      obtain ⟨M4, eM4, hf⟩ := olt hf
      rw [← eM4] at hw
      refine lv_aload_n X.1.1 X.1.2.1 dX9_four_20 rfl (lv_at hl 1 rfl) ?_
      refine lv_dup X.1.1 X.1.2.1 dX9_four_21 rfl ?_
      refine r_geti (k := 9) (j := 7) X hw rfl inX9 g_a0 rfl (by decide) (by decide) uf_X9_64 rfl dX9_four_22 ?_
      refine lv_iconst (v := (1 : Int32)) X.1.1 X.1.2.1 dX9_four_25 (by decide) ?_
      refine lv_iadd X.1.1 X.1.2.1 dX9_four_26 ?_
      refine r_puti (k := 9) (j := 7) X hw rfl inX9 tyX9_ok nmX9 g_a0 rfl (by decide) (by decide) uf_X9_64 rfl rfl rfl rfl dX9_four_27 (fun H locs hw => ?_)
      obtain ⟨M5, eM5, hf⟩ := olt hf
      rw [← eM5] at hw
      obtain ⟨x6, ex6, hf⟩ := olt hf
      refine lv_iinc (v := x6) (lv' := [(2, .int x6), (0, .ref a0), (1, .int w1)]) X.1.1 X.1.2.1 dX9_four_30 hl (k := 0) rfl (by rw [ex6]; rfl) (by decide) rfl (fun ls hl => ?_)
      refine lv_goto (tgt := 3) X.1.1 X.1.2.1 dX9_four_33 (by decide) ?_
      exact ih _ _ _ _ _ _ hf hw (lv_sub hl [0, 1, 2] rfl) kx
def f_X9_four (h : Hs) (a0 : Nat) (p1 : Int32) (M : Mm) : Option Mm :=
  (lp_X9_four_3 h p1 a0 fuel (24 : Int32) M).bind fun z7 =>
  some z7.2
set_option maxHeartbeats 4000000 in
set_option maxRecDepth 100000 in
theorem c_X9_four {l : Launch} {D : va_G} {cy : Nat → ClassId} {h : Hs} {a0 : Nat} {p1 : Int32} {M : Mm} {z : Mm} (hf : f_X9_four h a0 p1 M = some z) : CtV l D cy yX9_four (wu yX9_four cX9_four 3 none) ({ frames := 0, cells := 0, slots := 0, locals := 0 }) [.ref a0, .int p1] h M z := by
  refine enterV (cc := cX9_four) (maxL := 3) (ret := none) (by decide) (Nat.le_of_ble_eq_true rfl) ?_
  intro p e s m args below meth c A ls X hw hr hlk hl
  have hl : lv_has ls 3 [(0, .ref a0), (1, .int p1)] := hl
  unfold f_X9_four at hf
  refine lv_bipush (v := (24 : Int32)) X.1.1 X.1.2.1 dX9_four_0 (by decide) ?_
  refine lv_istore_n (lv' := [(2, .int (24 : Int32)), (0, .ref a0), (1, .int p1)]) X.1.1 X.1.2.1 dX9_four_2 rfl hl (by decide) rfl (fun ls hl => ?_)
  obtain ⟨z7, ez7, hf⟩ := obd hf
  refine wlp_X9_four_3 X fuel _ _ _ _ _ _ ez7 hw (lv_sub hl [0, 1, 2] rfl) (fun x ex H locs ls hw hl => ?_)
  subst ex
  cases hf
  exact r_retV X hw hr hlk dX9_four_36
/-! X9_feed -/
def f_X9_feed (h : Hs) (a0 : Nat) (p1 : Int32) (p2 : Int32) (p3 : Int32) (p4 : Int32) (p5 : Int32) (M : Mm) : Option (Int32 × Mm) :=
  gd (ok h a0 9) <|
  lt_ (sI M a0 0 (0 : Int32)) fun M1 =>
  if ((zI M1 a0 7) + (20 : Int32)) ≤ (400 : Int32) then
    (f_X9_four h a0 p1 M1).bind fun z3 =>
    (f_X9_four h a0 p2 z3).bind fun z4 =>
    (f_X9_four h a0 p3 z4).bind fun z5 =>
    (f_X9_four h a0 p4 z5).bind fun z6 =>
    (f_X9_four h a0 p5 z6).bind fun z7 =>
    some (zI z7 a0 7, z7)
  else
    some ((-1 : Int32), M1)
set_option maxHeartbeats 4000000 in
set_option maxRecDepth 100000 in
theorem c_X9_feed {l : Launch} {D : va_G} {cy : Nat → ClassId} {h : Hs} {a0 : Nat} {p1 : Int32} {p2 : Int32} {p3 : Int32} {p4 : Int32} {p5 : Int32} {M : Mm} {z : (Int32 × Mm)} (hf : f_X9_feed h a0 p1 p2 p3 p4 p5 M = some z) : CtI l D cy yX9_feed (wu yX9_feed cX9_feed 6 (some .int)) ({ frames := 1, cells := 0, slots := 0, locals := 22 }) [.ref a0, .int p1, .int p2, .int p3, .int p4, .int p5] h M z.1 z.2 := by
  refine enterI (cc := cX9_feed) (maxL := 6) (ret := (some .int)) (by decide) (Nat.le_of_ble_eq_true rfl) ?_
  intro p e s m args below meth c A ls X hw hr hlk hl
  have hl : lv_has ls 6 [(0, .ref a0), (1, .int p1), (2, .int p2), (3, .int p3), (4, .int p4), (5, .int p5)] := hl
  unfold f_X9_feed at hf
  refine lv_aload_n X.1.1 X.1.2.1 dX9_feed_0 rfl (lv_at hl 0 rfl) ?_
  refine lv_iconst (v := (0 : Int32)) X.1.1 X.1.2.1 dX9_feed_1 (by decide) ?_
  obtain ⟨g_a0, hf⟩ := ogd hf
  refine r_puti (k := 9) (j := 0) X hw rfl inX9 tyX9_ok nmX9 g_a0 rfl (by decide) (by decide) uf_X9_1 rfl rfl rfl rfl dX9_feed_2 (fun H locs hw => ?_)
  obtain ⟨M1, eM1, hf⟩ := olt hf
  rw [← eM1] at hw
  refine lv_aload_n X.1.1 X.1.2.1 dX9_feed_5 rfl (lv_at hl 0 rfl) ?_
  refine r_geti (k := 9) (j := 7) X hw rfl inX9 g_a0 rfl (by decide) (by decide) uf_X9_64 rfl dX9_feed_6 ?_
  refine lv_bipush (v := (20 : Int32)) X.1.1 X.1.2.1 dX9_feed_9 (by decide) ?_
  refine lv_iadd X.1.1 X.1.2.1 dX9_feed_11 ?_
  refine lv_sipush (v := (400 : Int32)) X.1.1 X.1.2.1 dX9_feed_12 (by decide) ?_
  refine lv_icmp_le (tgt := 20) X.1.1 X.1.2.1 dX9_feed_15 (by decide) (fun c_2 => ?_) (fun c_2 => ?_)
  · skip
    rw [if_pos c_2] at hf
    refine lv_aload_n X.1.1 X.1.2.1 dX9_feed_20 rfl (lv_at hl 0 rfl) ?_
    refine lv_iload_n X.1.1 X.1.2.1 dX9_feed_21 rfl (lv_at hl 1 rfl) ?_
    obtain ⟨z3, ez3, hf⟩ := obd hf
    refine r_callVV (As := [.int p1]) (rest := []) X hw (c_X9_four ez3) (cwV 1 X.1.2.2.2.2 (guV um_X9_67 ui_X9_four us_X9_four un_X9 uo_X9_four) rfl rfl rfl (by decide +kernel) ⟨Nat.le_of_ble_eq_true rfl, Nat.le_of_ble_eq_true rfl⟩) g_a0 (by decide) rfl rfl hl.1 rfl (Nat.le_of_ble_eq_true rfl) dX9_feed_22 ⟨Nat.zero_le _, Nat.zero_le _⟩ (fun H locs hw => ?_)
    refine lv_aload_n X.1.1 X.1.2.1 dX9_feed_25 rfl (lv_at hl 0 rfl) ?_
    refine lv_iload_n X.1.1 X.1.2.1 dX9_feed_26 rfl (lv_at hl 2 rfl) ?_
    obtain ⟨z4, ez4, hf⟩ := obd hf
    refine r_callVV (As := [.int p2]) (rest := []) X hw (c_X9_four ez4) (cwV 1 X.1.2.2.2.2 (guV um_X9_67 ui_X9_four us_X9_four un_X9 uo_X9_four) rfl rfl rfl (by decide +kernel) ⟨Nat.le_of_ble_eq_true rfl, Nat.le_of_ble_eq_true rfl⟩) g_a0 (by decide) rfl rfl hl.1 rfl (Nat.le_of_ble_eq_true rfl) dX9_feed_27 ⟨Nat.zero_le _, Nat.zero_le _⟩ (fun H locs hw => ?_)
    refine lv_aload_n X.1.1 X.1.2.1 dX9_feed_30 rfl (lv_at hl 0 rfl) ?_
    refine lv_iload_n X.1.1 X.1.2.1 dX9_feed_31 rfl (lv_at hl 3 rfl) ?_
    obtain ⟨z5, ez5, hf⟩ := obd hf
    refine r_callVV (As := [.int p3]) (rest := []) X hw (c_X9_four ez5) (cwV 1 X.1.2.2.2.2 (guV um_X9_67 ui_X9_four us_X9_four un_X9 uo_X9_four) rfl rfl rfl (by decide +kernel) ⟨Nat.le_of_ble_eq_true rfl, Nat.le_of_ble_eq_true rfl⟩) g_a0 (by decide) rfl rfl hl.1 rfl (Nat.le_of_ble_eq_true rfl) dX9_feed_32 ⟨Nat.zero_le _, Nat.zero_le _⟩ (fun H locs hw => ?_)
    refine lv_aload_n X.1.1 X.1.2.1 dX9_feed_35 rfl (lv_at hl 0 rfl) ?_
    refine lv_iload X.1.1 X.1.2.1 dX9_feed_36 (lv_at hl 4 rfl) ?_
    obtain ⟨z6, ez6, hf⟩ := obd hf
    refine r_callVV (As := [.int p4]) (rest := []) X hw (c_X9_four ez6) (cwV 1 X.1.2.2.2.2 (guV um_X9_67 ui_X9_four us_X9_four un_X9 uo_X9_four) rfl rfl rfl (by decide +kernel) ⟨Nat.le_of_ble_eq_true rfl, Nat.le_of_ble_eq_true rfl⟩) g_a0 (by decide) rfl rfl hl.1 rfl (Nat.le_of_ble_eq_true rfl) dX9_feed_38 ⟨Nat.zero_le _, Nat.zero_le _⟩ (fun H locs hw => ?_)
    refine lv_aload_n X.1.1 X.1.2.1 dX9_feed_41 rfl (lv_at hl 0 rfl) ?_
    refine lv_iload X.1.1 X.1.2.1 dX9_feed_42 (lv_at hl 5 rfl) ?_
    obtain ⟨z7, ez7, hf⟩ := obd hf
    refine r_callVV (As := [.int p5]) (rest := []) X hw (c_X9_four ez7) (cwV 1 X.1.2.2.2.2 (guV um_X9_67 ui_X9_four us_X9_four un_X9 uo_X9_four) rfl rfl rfl (by decide +kernel) ⟨Nat.le_of_ble_eq_true rfl, Nat.le_of_ble_eq_true rfl⟩) g_a0 (by decide) rfl rfl hl.1 rfl (Nat.le_of_ble_eq_true rfl) dX9_feed_44 ⟨Nat.zero_le _, Nat.zero_le _⟩ (fun H locs hw => ?_)
    refine lv_aload_n X.1.1 X.1.2.1 dX9_feed_47 rfl (lv_at hl 0 rfl) ?_
    refine r_geti (k := 9) (j := 7) X hw rfl inX9 g_a0 rfl (by decide) (by decide) uf_X9_64 rfl dX9_feed_48 ?_
    cases hf
    exact r_retI (v := zI z7 a0 7) X hw hr hlk rfl dX9_feed_51
  · skip
    rw [if_neg c_2] at hf
    refine lv_iconst (v := (-1 : Int32)) X.1.1 X.1.2.1 dX9_feed_18 (by decide) ?_
    cases hf
    exact r_retI (v := (-1 : Int32)) X hw hr hlk rfl dX9_feed_19
/-! X9_end -/
def f_X9_end (h : Hs) (a0 : Nat) (p1 : Int32) (M : Mm) : Option (Int32 × Mm) :=
  gd (ok h a0 9) <|
  lt_ (sI M a0 0 (0 : Int32)) fun M1 =>
  if p1 < 0 then
    some ((0 : Int32), M1)
  else
    if p1 ≤ (zI M1 a0 7) then
      lt_ (sI M1 a0 7 p1) fun M4 =>
      some ((1 : Int32), M4)
    else
      some ((0 : Int32), M1)
set_option maxHeartbeats 4000000 in
set_option maxRecDepth 100000 in
theorem c_X9_end {l : Launch} {D : va_G} {cy : Nat → ClassId} {h : Hs} {a0 : Nat} {p1 : Int32} {M : Mm} {z : (Int32 × Mm)} (hf : f_X9_end h a0 p1 M = some z) : CtI l D cy yX9_end (wu yX9_end cX9_end 2 (some .boolean)) ({ frames := 0, cells := 0, slots := 0, locals := 0 }) [.ref a0, .int p1] h M z.1 z.2 := by
  refine enterI (cc := cX9_end) (maxL := 2) (ret := (some .boolean)) (by decide) (Nat.le_of_ble_eq_true rfl) ?_
  intro p e s m args below meth c A ls X hw hr hlk hl
  have hl : lv_has ls 2 [(0, .ref a0), (1, .int p1)] := hl
  unfold f_X9_end at hf
  refine lv_aload_n X.1.1 X.1.2.1 dX9_end_0 rfl (lv_at hl 0 rfl) ?_
  refine lv_iconst (v := (0 : Int32)) X.1.1 X.1.2.1 dX9_end_1 (by decide) ?_
  obtain ⟨g_a0, hf⟩ := ogd hf
  refine r_puti (k := 9) (j := 0) X hw rfl inX9 tyX9_ok nmX9 g_a0 rfl (by decide) (by decide) uf_X9_1 rfl rfl rfl rfl dX9_end_2 (fun H locs hw => ?_)
  obtain ⟨M1, eM1, hf⟩ := olt hf
  rw [← eM1] at hw
  refine lv_iload_n X.1.1 X.1.2.1 dX9_end_5 rfl (lv_at hl 1 rfl) ?_
  refine lv_if_lt (tgt := 17) X.1.1 X.1.2.1 dX9_end_6 (by decide) (fun c_2 => ?_) (fun c_2 => ?_)
  · skip
    rw [if_pos c_2] at hf
    refine lv_iconst (v := (0 : Int32)) X.1.1 X.1.2.1 dX9_end_17 (by decide) ?_
    cases hf
    exact r_retI (v := (0 : Int32)) X hw hr hlk rfl dX9_end_18
  · skip
    rw [if_neg c_2] at hf
    refine lv_iload_n X.1.1 X.1.2.1 dX9_end_9 rfl (lv_at hl 1 rfl) ?_
    refine lv_aload_n X.1.1 X.1.2.1 dX9_end_10 rfl (lv_at hl 0 rfl) ?_
    refine r_geti (k := 9) (j := 7) X hw rfl inX9 g_a0 rfl (by decide) (by decide) uf_X9_64 rfl dX9_end_11 ?_
    refine lv_icmp_le (tgt := 19) X.1.1 X.1.2.1 dX9_end_14 (by decide) (fun c_3 => ?_) (fun c_3 => ?_)
    · skip
      rw [if_pos c_3] at hf
      refine lv_aload_n X.1.1 X.1.2.1 dX9_end_19 rfl (lv_at hl 0 rfl) ?_
      refine lv_iload_n X.1.1 X.1.2.1 dX9_end_20 rfl (lv_at hl 1 rfl) ?_
      refine r_puti (k := 9) (j := 7) X hw rfl inX9 tyX9_ok nmX9 g_a0 rfl (by decide) (by decide) uf_X9_64 rfl rfl rfl rfl dX9_end_21 (fun H locs hw => ?_)
      obtain ⟨M4, eM4, hf⟩ := olt hf
      rw [← eM4] at hw
      refine lv_iconst (v := (1 : Int32)) X.1.1 X.1.2.1 dX9_end_24 (by decide) ?_
      cases hf
      exact r_retI (v := (1 : Int32)) X hw hr hlk rfl dX9_end_25
    · skip
      rw [if_neg c_3] at hf
      refine lv_iconst (v := (0 : Int32)) X.1.1 X.1.2.1 dX9_end_17 (by decide) ?_
      cases hf
      exact r_retI (v := (0 : Int32)) X hw hr hlk rfl dX9_end_18
/-! X9_put -/
def f_X9_put (h : Hs) (a0 : Nat) (p1 : Int32) (p2 : Int32) (p3 : Int32) (p4 : Int32) (M : Mm) : Option (Int32 × Mm) :=
  gd (ok h a0 9) <|
  lt_ (sI M a0 0 (0 : Int32)) fun M1 =>
  (f_X9_no h p1 M1).bind fun z2 =>
  if ¬ z2 = 0 then
    some ((0 : Int32), M1)
  else
    if p2 < 0 then
      some ((0 : Int32), M1)
    else
      if p2 ≤ (4 : Int32) then
        if ¬ p2 = (1 : Int32) then
          if ¬ p2 = (3 : Int32) then
            if ¬ p2 = (4 : Int32) then
              (f_X9_act h a0 M1).bind fun z9 =>
              dq (zR h a0 1) fun q10 =>
              gd (ok h q10 11) <|
              gd (inb ((404 : Int32) * p1) (zN h q10)) <|
              lt_ (sI z9 q10 ((404 : Int32) * p1).toNatClampNeg p2) fun M12 =>
              gd (inb (((404 : Int32) * p1) + (1 : Int32)) (zN h q10)) <|
              lt_ (sI M12 q10 (((404 : Int32) * p1) + (1 : Int32)).toNatClampNeg p3) fun M14 =>
              gd (inb (((404 : Int32) * p1) + (2 : Int32)) (zN h q10)) <|
              lt_ (sI M14 q10 (((404 : Int32) * p1) + (2 : Int32)).toNatClampNeg p4) fun M16 =>
              gd (inb (((404 : Int32) * p1) + (3 : Int32)) (zN h q10)) <|
              lt_ (sI M16 q10 (((404 : Int32) * p1) + (3 : Int32)).toNatClampNeg (0 : Int32)) fun M18 =>
              some ((1 : Int32), M18)
            else
              (f_X9_no h p3 M1).bind fun z19 =>
              if ¬ z19 = 0 then
                some ((0 : Int32), M1)
              else
                (f_X9_no h p4 M1).bind fun z21 =>
                if z21 = 0 then
                  (f_X9_act h a0 M1).bind fun z23 =>
                  dq (zR h a0 1) fun q24 =>
                  gd (ok h q24 11) <|
                  gd (inb ((404 : Int32) * p1) (zN h q24)) <|
                  lt_ (sI z23 q24 ((404 : Int32) * p1).toNatClampNeg p2) fun M26 =>
                  gd (inb (((404 : Int32) * p1) + (1 : Int32)) (zN h q24)) <|
                  lt_ (sI M26 q24 (((404 : Int32) * p1) + (1 : Int32)).toNatClampNeg p3) fun M28 =>
                  gd (inb (((404 : Int32) * p1) + (2 : Int32)) (zN h q24)) <|
                  lt_ (sI M28 q24 (((404 : Int32) * p1) + (2 : Int32)).toNatClampNeg p4) fun M30 =>
                  gd (inb (((404 : Int32) * p1) + (3 : Int32)) (zN h q24)) <|
                  lt_ (sI M30 q24 (((404 : Int32) * p1) + (3 : Int32)).toNatClampNeg (0 : Int32)) fun M32 =>
                  some ((1 : Int32), M32)
                else
                  some ((0 : Int32), M1)
          else
            if p3 < 0 then
              some ((0 : Int32), M1)
            else
              if p4 < p3 then
                some ((0 : Int32), M1)
              else
                if (399 : Int32) < p4 then
                  some ((0 : Int32), M1)
                else
                  if ¬ p2 = (4 : Int32) then
                    (f_X9_act h a0 M1).bind fun z37 =>
                    dq (zR h a0 1) fun q38 =>
                    gd (ok h q38 11) <|
                    gd (inb ((404 : Int32) * p1) (zN h q38)) <|
                    lt_ (sI z37 q38 ((404 : Int32) * p1).toNatClampNeg p2) fun M40 =>
                    gd (inb (((404 : Int32) * p1) + (1 : Int32)) (zN h q38)) <|
                    lt_ (sI M40 q38 (((404 : Int32) * p1) + (1 : Int32)).toNatClampNeg p3) fun M42 =>
                    gd (inb (((404 : Int32) * p1) + (2 : Int32)) (zN h q38)) <|
                    lt_ (sI M42 q38 (((404 : Int32) * p1) + (2 : Int32)).toNatClampNeg p4) fun M44 =>
                    gd (inb (((404 : Int32) * p1) + (3 : Int32)) (zN h q38)) <|
                    lt_ (sI M44 q38 (((404 : Int32) * p1) + (3 : Int32)).toNatClampNeg (0 : Int32)) fun M46 =>
                    some ((1 : Int32), M46)
                  else
                    (f_X9_no h p3 M1).bind fun z47 =>
                    if ¬ z47 = 0 then
                      some ((0 : Int32), M1)
                    else
                      (f_X9_no h p4 M1).bind fun z49 =>
                      if z49 = 0 then
                        (f_X9_act h a0 M1).bind fun z51 =>
                        dq (zR h a0 1) fun q52 =>
                        gd (ok h q52 11) <|
                        gd (inb ((404 : Int32) * p1) (zN h q52)) <|
                        lt_ (sI z51 q52 ((404 : Int32) * p1).toNatClampNeg p2) fun M54 =>
                        gd (inb (((404 : Int32) * p1) + (1 : Int32)) (zN h q52)) <|
                        lt_ (sI M54 q52 (((404 : Int32) * p1) + (1 : Int32)).toNatClampNeg p3) fun M56 =>
                        gd (inb (((404 : Int32) * p1) + (2 : Int32)) (zN h q52)) <|
                        lt_ (sI M56 q52 (((404 : Int32) * p1) + (2 : Int32)).toNatClampNeg p4) fun M58 =>
                        gd (inb (((404 : Int32) * p1) + (3 : Int32)) (zN h q52)) <|
                        lt_ (sI M58 q52 (((404 : Int32) * p1) + (3 : Int32)).toNatClampNeg (0 : Int32)) fun M60 =>
                        some ((1 : Int32), M60)
                      else
                        some ((0 : Int32), M1)
        else
          if p3 < (1 : Int32) then
            some ((0 : Int32), M1)
          else
            if (100000 : Int32) < p3 then
              some ((0 : Int32), M1)
            else
              if ¬ p2 = (3 : Int32) then
                if ¬ p2 = (4 : Int32) then
                  (f_X9_act h a0 M1).bind fun z65 =>
                  dq (zR h a0 1) fun q66 =>
                  gd (ok h q66 11) <|
                  gd (inb ((404 : Int32) * p1) (zN h q66)) <|
                  lt_ (sI z65 q66 ((404 : Int32) * p1).toNatClampNeg p2) fun M68 =>
                  gd (inb (((404 : Int32) * p1) + (1 : Int32)) (zN h q66)) <|
                  lt_ (sI M68 q66 (((404 : Int32) * p1) + (1 : Int32)).toNatClampNeg p3) fun M70 =>
                  gd (inb (((404 : Int32) * p1) + (2 : Int32)) (zN h q66)) <|
                  lt_ (sI M70 q66 (((404 : Int32) * p1) + (2 : Int32)).toNatClampNeg p4) fun M72 =>
                  gd (inb (((404 : Int32) * p1) + (3 : Int32)) (zN h q66)) <|
                  lt_ (sI M72 q66 (((404 : Int32) * p1) + (3 : Int32)).toNatClampNeg (0 : Int32)) fun M74 =>
                  some ((1 : Int32), M74)
                else
                  (f_X9_no h p3 M1).bind fun z75 =>
                  if ¬ z75 = 0 then
                    some ((0 : Int32), M1)
                  else
                    (f_X9_no h p4 M1).bind fun z77 =>
                    if z77 = 0 then
                      (f_X9_act h a0 M1).bind fun z79 =>
                      dq (zR h a0 1) fun q80 =>
                      gd (ok h q80 11) <|
                      gd (inb ((404 : Int32) * p1) (zN h q80)) <|
                      lt_ (sI z79 q80 ((404 : Int32) * p1).toNatClampNeg p2) fun M82 =>
                      gd (inb (((404 : Int32) * p1) + (1 : Int32)) (zN h q80)) <|
                      lt_ (sI M82 q80 (((404 : Int32) * p1) + (1 : Int32)).toNatClampNeg p3) fun M84 =>
                      gd (inb (((404 : Int32) * p1) + (2 : Int32)) (zN h q80)) <|
                      lt_ (sI M84 q80 (((404 : Int32) * p1) + (2 : Int32)).toNatClampNeg p4) fun M86 =>
                      gd (inb (((404 : Int32) * p1) + (3 : Int32)) (zN h q80)) <|
                      lt_ (sI M86 q80 (((404 : Int32) * p1) + (3 : Int32)).toNatClampNeg (0 : Int32)) fun M88 =>
                      some ((1 : Int32), M88)
                    else
                      some ((0 : Int32), M1)
              else
                if p3 < 0 then
                  some ((0 : Int32), M1)
                else
                  if p4 < p3 then
                    some ((0 : Int32), M1)
                  else
                    if (399 : Int32) < p4 then
                      some ((0 : Int32), M1)
                    else
                      if ¬ p2 = (4 : Int32) then
                        (f_X9_act h a0 M1).bind fun z93 =>
                        dq (zR h a0 1) fun q94 =>
                        gd (ok h q94 11) <|
                        gd (inb ((404 : Int32) * p1) (zN h q94)) <|
                        lt_ (sI z93 q94 ((404 : Int32) * p1).toNatClampNeg p2) fun M96 =>
                        gd (inb (((404 : Int32) * p1) + (1 : Int32)) (zN h q94)) <|
                        lt_ (sI M96 q94 (((404 : Int32) * p1) + (1 : Int32)).toNatClampNeg p3) fun M98 =>
                        gd (inb (((404 : Int32) * p1) + (2 : Int32)) (zN h q94)) <|
                        lt_ (sI M98 q94 (((404 : Int32) * p1) + (2 : Int32)).toNatClampNeg p4) fun M100 =>
                        gd (inb (((404 : Int32) * p1) + (3 : Int32)) (zN h q94)) <|
                        lt_ (sI M100 q94 (((404 : Int32) * p1) + (3 : Int32)).toNatClampNeg (0 : Int32)) fun M102 =>
                        some ((1 : Int32), M102)
                      else
                        (f_X9_no h p3 M1).bind fun z103 =>
                        if ¬ z103 = 0 then
                          some ((0 : Int32), M1)
                        else
                          (f_X9_no h p4 M1).bind fun z105 =>
                          if z105 = 0 then
                            (f_X9_act h a0 M1).bind fun z107 =>
                            dq (zR h a0 1) fun q108 =>
                            gd (ok h q108 11) <|
                            gd (inb ((404 : Int32) * p1) (zN h q108)) <|
                            lt_ (sI z107 q108 ((404 : Int32) * p1).toNatClampNeg p2) fun M110 =>
                            gd (inb (((404 : Int32) * p1) + (1 : Int32)) (zN h q108)) <|
                            lt_ (sI M110 q108 (((404 : Int32) * p1) + (1 : Int32)).toNatClampNeg p3) fun M112 =>
                            gd (inb (((404 : Int32) * p1) + (2 : Int32)) (zN h q108)) <|
                            lt_ (sI M112 q108 (((404 : Int32) * p1) + (2 : Int32)).toNatClampNeg p4) fun M114 =>
                            gd (inb (((404 : Int32) * p1) + (3 : Int32)) (zN h q108)) <|
                            lt_ (sI M114 q108 (((404 : Int32) * p1) + (3 : Int32)).toNatClampNeg (0 : Int32)) fun M116 =>
                            some ((1 : Int32), M116)
                          else
                            some ((0 : Int32), M1)
      else
        some ((0 : Int32), M1)
set_option maxHeartbeats 4000000 in
set_option maxRecDepth 100000 in
theorem c_X9_put {l : Launch} {D : va_G} {cy : Nat → ClassId} {h : Hs} {a0 : Nat} {p1 : Int32} {p2 : Int32} {p3 : Int32} {p4 : Int32} {M : Mm} {z : (Int32 × Mm)} (hf : f_X9_put h a0 p1 p2 p3 p4 M = some z) : CtI l D cy yX9_put (wu yX9_put cX9_put 5 (some .boolean)) ({ frames := 2, cells := 0, slots := 0, locals := 43 }) [.ref a0, .int p1, .int p2, .int p3, .int p4] h M z.1 z.2 := by
  refine enterI (cc := cX9_put) (maxL := 5) (ret := (some .boolean)) (by decide) (Nat.le_of_ble_eq_true rfl) ?_
  intro p e s m args below meth c A ls X hw hr hlk hl
  have hl : lv_has ls 5 [(0, .ref a0), (1, .int p1), (2, .int p2), (3, .int p3), (4, .int p4)] := hl
  unfold f_X9_put at hf
  refine lv_aload_n X.1.1 X.1.2.1 dX9_put_0 rfl (lv_at hl 0 rfl) ?_
  refine lv_iconst (v := (0 : Int32)) X.1.1 X.1.2.1 dX9_put_1 (by decide) ?_
  obtain ⟨g_a0, hf⟩ := ogd hf
  refine r_puti (k := 9) (j := 0) X hw rfl inX9 tyX9_ok nmX9 g_a0 rfl (by decide) (by decide) uf_X9_1 rfl rfl rfl rfl dX9_put_2 (fun H locs hw => ?_)
  obtain ⟨M1, eM1, hf⟩ := olt hf
  rw [← eM1] at hw
  refine lv_iload_n X.1.1 X.1.2.1 dX9_put_5 rfl (lv_at hl 1 rfl) ?_
  obtain ⟨z2, ez2, hf⟩ := obd hf
  refine r_callSI (As := [.int p1]) (rest := []) X hw (c_X9_no ez2) (va_cwS 1 X.1.2.2.2.2 (guS um_X9_71 ut_X9_no un_X9 uo_X9_no) rfl rfl rfl (by decide +kernel) ⟨Nat.le_of_ble_eq_true rfl, Nat.le_of_ble_eq_true rfl⟩) rfl hl.1 rfl (Nat.le_of_ble_eq_true rfl) dX9_put_6 ⟨Nat.zero_le _, Nat.zero_le _⟩ (fun H locs hw => ?_)
  refine lv_if_ne (tgt := 21) X.1.1 X.1.2.1 dX9_put_9 (by decide) (fun c_3 => ?_) (fun c_3 => ?_)
  · skip
    rw [if_pos c_3] at hf
    refine lv_iconst (v := (0 : Int32)) X.1.1 X.1.2.1 dX9_put_21 (by decide) ?_
    cases hf
    exact r_retI (v := (0 : Int32)) X hw hr hlk rfl dX9_put_22
  · skip
    rw [if_neg (fun z => z c_3)] at hf
    refine lv_iload_n X.1.1 X.1.2.1 dX9_put_12 rfl (lv_at hl 2 rfl) ?_
    refine lv_if_lt (tgt := 21) X.1.1 X.1.2.1 dX9_put_13 (by decide) (fun c_4 => ?_) (fun c_4 => ?_)
    · skip
      rw [if_pos c_4] at hf
      refine lv_iconst (v := (0 : Int32)) X.1.1 X.1.2.1 dX9_put_21 (by decide) ?_
      cases hf
      exact r_retI (v := (0 : Int32)) X hw hr hlk rfl dX9_put_22
    · skip
      rw [if_neg c_4] at hf
      refine lv_iload_n X.1.1 X.1.2.1 dX9_put_16 rfl (lv_at hl 2 rfl) ?_
      refine lv_iconst (v := (4 : Int32)) X.1.1 X.1.2.1 dX9_put_17 (by decide) ?_
      refine lv_icmp_le (tgt := 23) X.1.1 X.1.2.1 dX9_put_18 (by decide) (fun c_5 => ?_) (fun c_5 => ?_)
      · skip
        rw [if_pos c_5] at hf
        refine lv_iload_n X.1.1 X.1.2.1 dX9_put_23 rfl (lv_at hl 2 rfl) ?_
        refine lv_iconst (v := (1 : Int32)) X.1.1 X.1.2.1 dX9_put_24 (by decide) ?_
        refine lv_icmp_ne (tgt := 39) X.1.1 X.1.2.1 dX9_put_25 (by decide) (fun c_6 => ?_) (fun c_6 => ?_)
        · skip
          rw [if_pos c_6] at hf
          refine lv_iload_n X.1.1 X.1.2.1 dX9_put_39 rfl (lv_at hl 2 rfl) ?_
          refine lv_iconst (v := (3 : Int32)) X.1.1 X.1.2.1 dX9_put_40 (by decide) ?_
          refine lv_icmp_ne (tgt := 62) X.1.1 X.1.2.1 dX9_put_41 (by decide) (fun c_7 => ?_) (fun c_7 => ?_)
          · skip
            rw [if_pos c_7] at hf
            refine lv_iload_n X.1.1 X.1.2.1 dX9_put_62 rfl (lv_at hl 2 rfl) ?_
            refine lv_iconst (v := (4 : Int32)) X.1.1 X.1.2.1 dX9_put_63 (by decide) ?_
            refine lv_icmp_ne (tgt := 84) X.1.1 X.1.2.1 dX9_put_64 (by decide) (fun c_8 => ?_) (fun c_8 => ?_)
            · skip
              rw [if_pos c_8] at hf
              refine lv_aload_n X.1.1 X.1.2.1 dX9_put_84 rfl (lv_at hl 0 rfl) ?_
              obtain ⟨z9, ez9, hf⟩ := obd hf
              refine r_callVV (As := []) (rest := []) X hw (c_X9_act ez9) (cwV 0 X.1.2.2.2.2 (guV um_X9_76 ui_X9_act us_X9_act un_X9 uo_X9_act) rfl rfl rfl (by decide +kernel) ⟨Nat.le_of_ble_eq_true rfl, Nat.le_of_ble_eq_true rfl⟩) g_a0 (by decide) rfl rfl hl.1 rfl (Nat.le_of_ble_eq_true rfl) dX9_put_85 ⟨Nat.zero_le _, Nat.zero_le _⟩ (fun H locs hw => ?_)
              refine lv_aload_n X.1.1 X.1.2.1 dX9_put_88 rfl (lv_at hl 0 rfl) ?_
              obtain ⟨q10, eq10, hf⟩ := odq hf
              refine r_getq (k := 9) (j := 1) X hw rfl inX9 g_a0 rfl (by decide) (by decide) uf_X9_13 rfl dX9_put_89 eq10 ?_
              refine lv_sipush (v := (404 : Int32)) X.1.1 X.1.2.1 dX9_put_92 (by decide) ?_
              refine lv_iload_n X.1.1 X.1.2.1 dX9_put_95 rfl (lv_at hl 1 rfl) ?_
              refine lv_imul X.1.1 X.1.2.1 dX9_put_96 ?_
              refine lv_iload_n X.1.1 X.1.2.1 dX9_put_97 rfl (lv_at hl 2 rfl) ?_
              obtain ⟨g_q10, hf⟩ := ogd hf
              obtain ⟨i_11, hf⟩ := ogd hf
              refine r_iast X hw g_q10 i_11 dX9_put_98 (fun H locs hw => ?_)
              obtain ⟨M12, eM12, hf⟩ := olt hf
              rw [← eM12] at hw
              refine lv_aload_n X.1.1 X.1.2.1 dX9_put_99 rfl (lv_at hl 0 rfl) ?_
              refine r_getq (k := 9) (j := 1) X hw rfl inX9 g_a0 rfl (by decide) (by decide) uf_X9_13 rfl dX9_put_100 eq10 ?_
              refine lv_sipush (v := (404 : Int32)) X.1.1 X.1.2.1 dX9_put_103 (by decide) ?_
              refine lv_iload_n X.1.1 X.1.2.1 dX9_put_106 rfl (lv_at hl 1 rfl) ?_
              refine lv_imul X.1.1 X.1.2.1 dX9_put_107 ?_
              refine lv_iconst (v := (1 : Int32)) X.1.1 X.1.2.1 dX9_put_108 (by decide) ?_
              refine lv_iadd X.1.1 X.1.2.1 dX9_put_109 ?_
              refine lv_iload_n X.1.1 X.1.2.1 dX9_put_110 rfl (lv_at hl 3 rfl) ?_
              obtain ⟨i_13, hf⟩ := ogd hf
              refine r_iast X hw g_q10 i_13 dX9_put_111 (fun H locs hw => ?_)
              obtain ⟨M14, eM14, hf⟩ := olt hf
              rw [← eM14] at hw
              refine lv_aload_n X.1.1 X.1.2.1 dX9_put_112 rfl (lv_at hl 0 rfl) ?_
              refine r_getq (k := 9) (j := 1) X hw rfl inX9 g_a0 rfl (by decide) (by decide) uf_X9_13 rfl dX9_put_113 eq10 ?_
              refine lv_sipush (v := (404 : Int32)) X.1.1 X.1.2.1 dX9_put_116 (by decide) ?_
              refine lv_iload_n X.1.1 X.1.2.1 dX9_put_119 rfl (lv_at hl 1 rfl) ?_
              refine lv_imul X.1.1 X.1.2.1 dX9_put_120 ?_
              refine lv_iconst (v := (2 : Int32)) X.1.1 X.1.2.1 dX9_put_121 (by decide) ?_
              refine lv_iadd X.1.1 X.1.2.1 dX9_put_122 ?_
              refine lv_iload X.1.1 X.1.2.1 dX9_put_123 (lv_at hl 4 rfl) ?_
              obtain ⟨i_15, hf⟩ := ogd hf
              refine r_iast X hw g_q10 i_15 dX9_put_125 (fun H locs hw => ?_)
              obtain ⟨M16, eM16, hf⟩ := olt hf
              rw [← eM16] at hw
              refine lv_aload_n X.1.1 X.1.2.1 dX9_put_126 rfl (lv_at hl 0 rfl) ?_
              refine r_getq (k := 9) (j := 1) X hw rfl inX9 g_a0 rfl (by decide) (by decide) uf_X9_13 rfl dX9_put_127 eq10 ?_
              refine lv_sipush (v := (404 : Int32)) X.1.1 X.1.2.1 dX9_put_130 (by decide) ?_
              refine lv_iload_n X.1.1 X.1.2.1 dX9_put_133 rfl (lv_at hl 1 rfl) ?_
              refine lv_imul X.1.1 X.1.2.1 dX9_put_134 ?_
              refine lv_iconst (v := (3 : Int32)) X.1.1 X.1.2.1 dX9_put_135 (by decide) ?_
              refine lv_iadd X.1.1 X.1.2.1 dX9_put_136 ?_
              refine lv_iconst (v := (0 : Int32)) X.1.1 X.1.2.1 dX9_put_137 (by decide) ?_
              obtain ⟨i_17, hf⟩ := ogd hf
              refine r_iast X hw g_q10 i_17 dX9_put_138 (fun H locs hw => ?_)
              obtain ⟨M18, eM18, hf⟩ := olt hf
              rw [← eM18] at hw
              refine lv_iconst (v := (1 : Int32)) X.1.1 X.1.2.1 dX9_put_139 (by decide) ?_
              cases hf
              exact r_retI (v := (1 : Int32)) X hw hr hlk rfl dX9_put_140
            · skip
              rw [if_neg (fun z => z c_8)] at hf
              refine lv_iload_n X.1.1 X.1.2.1 dX9_put_67 rfl (lv_at hl 3 rfl) ?_
              obtain ⟨z19, ez19, hf⟩ := obd hf
              refine r_callSI (As := [.int p3]) (rest := []) X hw (c_X9_no ez19) (va_cwS 1 X.1.2.2.2.2 (guS um_X9_71 ut_X9_no un_X9 uo_X9_no) rfl rfl rfl (by decide +kernel) ⟨Nat.le_of_ble_eq_true rfl, Nat.le_of_ble_eq_true rfl⟩) rfl hl.1 rfl (Nat.le_of_ble_eq_true rfl) dX9_put_68 ⟨Nat.zero_le _, Nat.zero_le _⟩ (fun H locs hw => ?_)
              refine lv_if_ne (tgt := 82) X.1.1 X.1.2.1 dX9_put_71 (by decide) (fun c_20 => ?_) (fun c_20 => ?_)
              · skip
                rw [if_pos c_20] at hf
                refine lv_iconst (v := (0 : Int32)) X.1.1 X.1.2.1 dX9_put_82 (by decide) ?_
                cases hf
                exact r_retI (v := (0 : Int32)) X hw hr hlk rfl dX9_put_83
              · skip
                rw [if_neg (fun z => z c_20)] at hf
                refine lv_iload X.1.1 X.1.2.1 dX9_put_74 (lv_at hl 4 rfl) ?_
                obtain ⟨z21, ez21, hf⟩ := obd hf
                refine r_callSI (As := [.int p4]) (rest := []) X hw (c_X9_no ez21) (va_cwS 1 X.1.2.2.2.2 (guS um_X9_71 ut_X9_no un_X9 uo_X9_no) rfl rfl rfl (by decide +kernel) ⟨Nat.le_of_ble_eq_true rfl, Nat.le_of_ble_eq_true rfl⟩) rfl hl.1 rfl (Nat.le_of_ble_eq_true rfl) dX9_put_76 ⟨Nat.zero_le _, Nat.zero_le _⟩ (fun H locs hw => ?_)
                refine lv_if_eq (tgt := 84) X.1.1 X.1.2.1 dX9_put_79 (by decide) (fun c_22 => ?_) (fun c_22 => ?_)
                · skip
                  rw [if_pos c_22] at hf
                  refine lv_aload_n X.1.1 X.1.2.1 dX9_put_84 rfl (lv_at hl 0 rfl) ?_
                  obtain ⟨z23, ez23, hf⟩ := obd hf
                  refine r_callVV (As := []) (rest := []) X hw (c_X9_act ez23) (cwV 0 X.1.2.2.2.2 (guV um_X9_76 ui_X9_act us_X9_act un_X9 uo_X9_act) rfl rfl rfl (by decide +kernel) ⟨Nat.le_of_ble_eq_true rfl, Nat.le_of_ble_eq_true rfl⟩) g_a0 (by decide) rfl rfl hl.1 rfl (Nat.le_of_ble_eq_true rfl) dX9_put_85 ⟨Nat.zero_le _, Nat.zero_le _⟩ (fun H locs hw => ?_)
                  refine lv_aload_n X.1.1 X.1.2.1 dX9_put_88 rfl (lv_at hl 0 rfl) ?_
                  obtain ⟨q24, eq24, hf⟩ := odq hf
                  refine r_getq (k := 9) (j := 1) X hw rfl inX9 g_a0 rfl (by decide) (by decide) uf_X9_13 rfl dX9_put_89 eq24 ?_
                  refine lv_sipush (v := (404 : Int32)) X.1.1 X.1.2.1 dX9_put_92 (by decide) ?_
                  refine lv_iload_n X.1.1 X.1.2.1 dX9_put_95 rfl (lv_at hl 1 rfl) ?_
                  refine lv_imul X.1.1 X.1.2.1 dX9_put_96 ?_
                  refine lv_iload_n X.1.1 X.1.2.1 dX9_put_97 rfl (lv_at hl 2 rfl) ?_
                  obtain ⟨g_q24, hf⟩ := ogd hf
                  obtain ⟨i_25, hf⟩ := ogd hf
                  refine r_iast X hw g_q24 i_25 dX9_put_98 (fun H locs hw => ?_)
                  obtain ⟨M26, eM26, hf⟩ := olt hf
                  rw [← eM26] at hw
                  refine lv_aload_n X.1.1 X.1.2.1 dX9_put_99 rfl (lv_at hl 0 rfl) ?_
                  refine r_getq (k := 9) (j := 1) X hw rfl inX9 g_a0 rfl (by decide) (by decide) uf_X9_13 rfl dX9_put_100 eq24 ?_
                  refine lv_sipush (v := (404 : Int32)) X.1.1 X.1.2.1 dX9_put_103 (by decide) ?_
                  refine lv_iload_n X.1.1 X.1.2.1 dX9_put_106 rfl (lv_at hl 1 rfl) ?_
                  refine lv_imul X.1.1 X.1.2.1 dX9_put_107 ?_
                  refine lv_iconst (v := (1 : Int32)) X.1.1 X.1.2.1 dX9_put_108 (by decide) ?_
                  refine lv_iadd X.1.1 X.1.2.1 dX9_put_109 ?_
                  refine lv_iload_n X.1.1 X.1.2.1 dX9_put_110 rfl (lv_at hl 3 rfl) ?_
                  obtain ⟨i_27, hf⟩ := ogd hf
                  refine r_iast X hw g_q24 i_27 dX9_put_111 (fun H locs hw => ?_)
                  obtain ⟨M28, eM28, hf⟩ := olt hf
                  rw [← eM28] at hw
                  refine lv_aload_n X.1.1 X.1.2.1 dX9_put_112 rfl (lv_at hl 0 rfl) ?_
                  refine r_getq (k := 9) (j := 1) X hw rfl inX9 g_a0 rfl (by decide) (by decide) uf_X9_13 rfl dX9_put_113 eq24 ?_
                  refine lv_sipush (v := (404 : Int32)) X.1.1 X.1.2.1 dX9_put_116 (by decide) ?_
                  refine lv_iload_n X.1.1 X.1.2.1 dX9_put_119 rfl (lv_at hl 1 rfl) ?_
                  refine lv_imul X.1.1 X.1.2.1 dX9_put_120 ?_
                  refine lv_iconst (v := (2 : Int32)) X.1.1 X.1.2.1 dX9_put_121 (by decide) ?_
                  refine lv_iadd X.1.1 X.1.2.1 dX9_put_122 ?_
                  refine lv_iload X.1.1 X.1.2.1 dX9_put_123 (lv_at hl 4 rfl) ?_
                  obtain ⟨i_29, hf⟩ := ogd hf
                  refine r_iast X hw g_q24 i_29 dX9_put_125 (fun H locs hw => ?_)
                  obtain ⟨M30, eM30, hf⟩ := olt hf
                  rw [← eM30] at hw
                  refine lv_aload_n X.1.1 X.1.2.1 dX9_put_126 rfl (lv_at hl 0 rfl) ?_
                  refine r_getq (k := 9) (j := 1) X hw rfl inX9 g_a0 rfl (by decide) (by decide) uf_X9_13 rfl dX9_put_127 eq24 ?_
                  refine lv_sipush (v := (404 : Int32)) X.1.1 X.1.2.1 dX9_put_130 (by decide) ?_
                  refine lv_iload_n X.1.1 X.1.2.1 dX9_put_133 rfl (lv_at hl 1 rfl) ?_
                  refine lv_imul X.1.1 X.1.2.1 dX9_put_134 ?_
                  refine lv_iconst (v := (3 : Int32)) X.1.1 X.1.2.1 dX9_put_135 (by decide) ?_
                  refine lv_iadd X.1.1 X.1.2.1 dX9_put_136 ?_
                  refine lv_iconst (v := (0 : Int32)) X.1.1 X.1.2.1 dX9_put_137 (by decide) ?_
                  obtain ⟨i_31, hf⟩ := ogd hf
                  refine r_iast X hw g_q24 i_31 dX9_put_138 (fun H locs hw => ?_)
                  obtain ⟨M32, eM32, hf⟩ := olt hf
                  rw [← eM32] at hw
                  refine lv_iconst (v := (1 : Int32)) X.1.1 X.1.2.1 dX9_put_139 (by decide) ?_
                  cases hf
                  exact r_retI (v := (1 : Int32)) X hw hr hlk rfl dX9_put_140
                · skip
                  rw [if_neg c_22] at hf
                  refine lv_iconst (v := (0 : Int32)) X.1.1 X.1.2.1 dX9_put_82 (by decide) ?_
                  cases hf
                  exact r_retI (v := (0 : Int32)) X hw hr hlk rfl dX9_put_83
          · skip
            rw [if_neg (fun z => z c_7)] at hf
            refine lv_iload_n X.1.1 X.1.2.1 dX9_put_44 rfl (lv_at hl 3 rfl) ?_
            refine lv_if_lt (tgt := 82) X.1.1 X.1.2.1 dX9_put_45 (by decide) (fun c_33 => ?_) (fun c_33 => ?_)
            · skip
              rw [if_pos c_33] at hf
              refine lv_iconst (v := (0 : Int32)) X.1.1 X.1.2.1 dX9_put_82 (by decide) ?_
              cases hf
              exact r_retI (v := (0 : Int32)) X hw hr hlk rfl dX9_put_83
            · skip
              rw [if_neg c_33] at hf
              refine lv_iload X.1.1 X.1.2.1 dX9_put_48 (lv_at hl 4 rfl) ?_
              refine lv_iload_n X.1.1 X.1.2.1 dX9_put_50 rfl (lv_at hl 3 rfl) ?_
              refine lv_icmp_lt (tgt := 82) X.1.1 X.1.2.1 dX9_put_51 (by decide) (fun c_34 => ?_) (fun c_34 => ?_)
              · skip
                rw [if_pos c_34] at hf
                refine lv_iconst (v := (0 : Int32)) X.1.1 X.1.2.1 dX9_put_82 (by decide) ?_
                cases hf
                exact r_retI (v := (0 : Int32)) X hw hr hlk rfl dX9_put_83
              · skip
                rw [if_neg c_34] at hf
                refine lv_iload X.1.1 X.1.2.1 dX9_put_54 (lv_at hl 4 rfl) ?_
                refine lv_sipush (v := (399 : Int32)) X.1.1 X.1.2.1 dX9_put_56 (by decide) ?_
                refine lv_icmp_gt (tgt := 82) X.1.1 X.1.2.1 dX9_put_59 (by decide) (fun c_35 => ?_) (fun c_35 => ?_)
                · skip
                  rw [if_pos c_35] at hf
                  refine lv_iconst (v := (0 : Int32)) X.1.1 X.1.2.1 dX9_put_82 (by decide) ?_
                  cases hf
                  exact r_retI (v := (0 : Int32)) X hw hr hlk rfl dX9_put_83
                · skip
                  rw [if_neg c_35] at hf
                  refine lv_iload_n X.1.1 X.1.2.1 dX9_put_62 rfl (lv_at hl 2 rfl) ?_
                  refine lv_iconst (v := (4 : Int32)) X.1.1 X.1.2.1 dX9_put_63 (by decide) ?_
                  refine lv_icmp_ne (tgt := 84) X.1.1 X.1.2.1 dX9_put_64 (by decide) (fun c_36 => ?_) (fun c_36 => ?_)
                  · skip
                    rw [if_pos c_36] at hf
                    refine lv_aload_n X.1.1 X.1.2.1 dX9_put_84 rfl (lv_at hl 0 rfl) ?_
                    obtain ⟨z37, ez37, hf⟩ := obd hf
                    refine r_callVV (As := []) (rest := []) X hw (c_X9_act ez37) (cwV 0 X.1.2.2.2.2 (guV um_X9_76 ui_X9_act us_X9_act un_X9 uo_X9_act) rfl rfl rfl (by decide +kernel) ⟨Nat.le_of_ble_eq_true rfl, Nat.le_of_ble_eq_true rfl⟩) g_a0 (by decide) rfl rfl hl.1 rfl (Nat.le_of_ble_eq_true rfl) dX9_put_85 ⟨Nat.zero_le _, Nat.zero_le _⟩ (fun H locs hw => ?_)
                    refine lv_aload_n X.1.1 X.1.2.1 dX9_put_88 rfl (lv_at hl 0 rfl) ?_
                    obtain ⟨q38, eq38, hf⟩ := odq hf
                    refine r_getq (k := 9) (j := 1) X hw rfl inX9 g_a0 rfl (by decide) (by decide) uf_X9_13 rfl dX9_put_89 eq38 ?_
                    refine lv_sipush (v := (404 : Int32)) X.1.1 X.1.2.1 dX9_put_92 (by decide) ?_
                    refine lv_iload_n X.1.1 X.1.2.1 dX9_put_95 rfl (lv_at hl 1 rfl) ?_
                    refine lv_imul X.1.1 X.1.2.1 dX9_put_96 ?_
                    refine lv_iload_n X.1.1 X.1.2.1 dX9_put_97 rfl (lv_at hl 2 rfl) ?_
                    obtain ⟨g_q38, hf⟩ := ogd hf
                    obtain ⟨i_39, hf⟩ := ogd hf
                    refine r_iast X hw g_q38 i_39 dX9_put_98 (fun H locs hw => ?_)
                    obtain ⟨M40, eM40, hf⟩ := olt hf
                    rw [← eM40] at hw
                    refine lv_aload_n X.1.1 X.1.2.1 dX9_put_99 rfl (lv_at hl 0 rfl) ?_
                    refine r_getq (k := 9) (j := 1) X hw rfl inX9 g_a0 rfl (by decide) (by decide) uf_X9_13 rfl dX9_put_100 eq38 ?_
                    refine lv_sipush (v := (404 : Int32)) X.1.1 X.1.2.1 dX9_put_103 (by decide) ?_
                    refine lv_iload_n X.1.1 X.1.2.1 dX9_put_106 rfl (lv_at hl 1 rfl) ?_
                    refine lv_imul X.1.1 X.1.2.1 dX9_put_107 ?_
                    refine lv_iconst (v := (1 : Int32)) X.1.1 X.1.2.1 dX9_put_108 (by decide) ?_
                    refine lv_iadd X.1.1 X.1.2.1 dX9_put_109 ?_
                    refine lv_iload_n X.1.1 X.1.2.1 dX9_put_110 rfl (lv_at hl 3 rfl) ?_
                    obtain ⟨i_41, hf⟩ := ogd hf
                    refine r_iast X hw g_q38 i_41 dX9_put_111 (fun H locs hw => ?_)
                    obtain ⟨M42, eM42, hf⟩ := olt hf
                    rw [← eM42] at hw
                    refine lv_aload_n X.1.1 X.1.2.1 dX9_put_112 rfl (lv_at hl 0 rfl) ?_
                    refine r_getq (k := 9) (j := 1) X hw rfl inX9 g_a0 rfl (by decide) (by decide) uf_X9_13 rfl dX9_put_113 eq38 ?_
                    refine lv_sipush (v := (404 : Int32)) X.1.1 X.1.2.1 dX9_put_116 (by decide) ?_
                    refine lv_iload_n X.1.1 X.1.2.1 dX9_put_119 rfl (lv_at hl 1 rfl) ?_
                    refine lv_imul X.1.1 X.1.2.1 dX9_put_120 ?_
                    refine lv_iconst (v := (2 : Int32)) X.1.1 X.1.2.1 dX9_put_121 (by decide) ?_
                    refine lv_iadd X.1.1 X.1.2.1 dX9_put_122 ?_
                    refine lv_iload X.1.1 X.1.2.1 dX9_put_123 (lv_at hl 4 rfl) ?_
                    obtain ⟨i_43, hf⟩ := ogd hf
                    refine r_iast X hw g_q38 i_43 dX9_put_125 (fun H locs hw => ?_)
                    obtain ⟨M44, eM44, hf⟩ := olt hf
                    rw [← eM44] at hw
                    refine lv_aload_n X.1.1 X.1.2.1 dX9_put_126 rfl (lv_at hl 0 rfl) ?_
                    refine r_getq (k := 9) (j := 1) X hw rfl inX9 g_a0 rfl (by decide) (by decide) uf_X9_13 rfl dX9_put_127 eq38 ?_
                    refine lv_sipush (v := (404 : Int32)) X.1.1 X.1.2.1 dX9_put_130 (by decide) ?_
                    refine lv_iload_n X.1.1 X.1.2.1 dX9_put_133 rfl (lv_at hl 1 rfl) ?_
                    refine lv_imul X.1.1 X.1.2.1 dX9_put_134 ?_
                    refine lv_iconst (v := (3 : Int32)) X.1.1 X.1.2.1 dX9_put_135 (by decide) ?_
                    refine lv_iadd X.1.1 X.1.2.1 dX9_put_136 ?_
                    refine lv_iconst (v := (0 : Int32)) X.1.1 X.1.2.1 dX9_put_137 (by decide) ?_
                    obtain ⟨i_45, hf⟩ := ogd hf
                    refine r_iast X hw g_q38 i_45 dX9_put_138 (fun H locs hw => ?_)
                    obtain ⟨M46, eM46, hf⟩ := olt hf
                    rw [← eM46] at hw
                    refine lv_iconst (v := (1 : Int32)) X.1.1 X.1.2.1 dX9_put_139 (by decide) ?_
                    cases hf
                    exact r_retI (v := (1 : Int32)) X hw hr hlk rfl dX9_put_140
                  · skip
                    rw [if_neg (fun z => z c_36)] at hf
                    refine lv_iload_n X.1.1 X.1.2.1 dX9_put_67 rfl (lv_at hl 3 rfl) ?_
                    obtain ⟨z47, ez47, hf⟩ := obd hf
                    refine r_callSI (As := [.int p3]) (rest := []) X hw (c_X9_no ez47) (va_cwS 1 X.1.2.2.2.2 (guS um_X9_71 ut_X9_no un_X9 uo_X9_no) rfl rfl rfl (by decide +kernel) ⟨Nat.le_of_ble_eq_true rfl, Nat.le_of_ble_eq_true rfl⟩) rfl hl.1 rfl (Nat.le_of_ble_eq_true rfl) dX9_put_68 ⟨Nat.zero_le _, Nat.zero_le _⟩ (fun H locs hw => ?_)
                    refine lv_if_ne (tgt := 82) X.1.1 X.1.2.1 dX9_put_71 (by decide) (fun c_48 => ?_) (fun c_48 => ?_)
                    · skip
                      rw [if_pos c_48] at hf
                      refine lv_iconst (v := (0 : Int32)) X.1.1 X.1.2.1 dX9_put_82 (by decide) ?_
                      cases hf
                      exact r_retI (v := (0 : Int32)) X hw hr hlk rfl dX9_put_83
                    · skip
                      rw [if_neg (fun z => z c_48)] at hf
                      refine lv_iload X.1.1 X.1.2.1 dX9_put_74 (lv_at hl 4 rfl) ?_
                      obtain ⟨z49, ez49, hf⟩ := obd hf
                      refine r_callSI (As := [.int p4]) (rest := []) X hw (c_X9_no ez49) (va_cwS 1 X.1.2.2.2.2 (guS um_X9_71 ut_X9_no un_X9 uo_X9_no) rfl rfl rfl (by decide +kernel) ⟨Nat.le_of_ble_eq_true rfl, Nat.le_of_ble_eq_true rfl⟩) rfl hl.1 rfl (Nat.le_of_ble_eq_true rfl) dX9_put_76 ⟨Nat.zero_le _, Nat.zero_le _⟩ (fun H locs hw => ?_)
                      refine lv_if_eq (tgt := 84) X.1.1 X.1.2.1 dX9_put_79 (by decide) (fun c_50 => ?_) (fun c_50 => ?_)
                      · skip
                        rw [if_pos c_50] at hf
                        refine lv_aload_n X.1.1 X.1.2.1 dX9_put_84 rfl (lv_at hl 0 rfl) ?_
                        obtain ⟨z51, ez51, hf⟩ := obd hf
                        refine r_callVV (As := []) (rest := []) X hw (c_X9_act ez51) (cwV 0 X.1.2.2.2.2 (guV um_X9_76 ui_X9_act us_X9_act un_X9 uo_X9_act) rfl rfl rfl (by decide +kernel) ⟨Nat.le_of_ble_eq_true rfl, Nat.le_of_ble_eq_true rfl⟩) g_a0 (by decide) rfl rfl hl.1 rfl (Nat.le_of_ble_eq_true rfl) dX9_put_85 ⟨Nat.zero_le _, Nat.zero_le _⟩ (fun H locs hw => ?_)
                        refine lv_aload_n X.1.1 X.1.2.1 dX9_put_88 rfl (lv_at hl 0 rfl) ?_
                        obtain ⟨q52, eq52, hf⟩ := odq hf
                        refine r_getq (k := 9) (j := 1) X hw rfl inX9 g_a0 rfl (by decide) (by decide) uf_X9_13 rfl dX9_put_89 eq52 ?_
                        refine lv_sipush (v := (404 : Int32)) X.1.1 X.1.2.1 dX9_put_92 (by decide) ?_
                        refine lv_iload_n X.1.1 X.1.2.1 dX9_put_95 rfl (lv_at hl 1 rfl) ?_
                        refine lv_imul X.1.1 X.1.2.1 dX9_put_96 ?_
                        refine lv_iload_n X.1.1 X.1.2.1 dX9_put_97 rfl (lv_at hl 2 rfl) ?_
                        obtain ⟨g_q52, hf⟩ := ogd hf
                        obtain ⟨i_53, hf⟩ := ogd hf
                        refine r_iast X hw g_q52 i_53 dX9_put_98 (fun H locs hw => ?_)
                        obtain ⟨M54, eM54, hf⟩ := olt hf
                        rw [← eM54] at hw
                        refine lv_aload_n X.1.1 X.1.2.1 dX9_put_99 rfl (lv_at hl 0 rfl) ?_
                        refine r_getq (k := 9) (j := 1) X hw rfl inX9 g_a0 rfl (by decide) (by decide) uf_X9_13 rfl dX9_put_100 eq52 ?_
                        refine lv_sipush (v := (404 : Int32)) X.1.1 X.1.2.1 dX9_put_103 (by decide) ?_
                        refine lv_iload_n X.1.1 X.1.2.1 dX9_put_106 rfl (lv_at hl 1 rfl) ?_
                        refine lv_imul X.1.1 X.1.2.1 dX9_put_107 ?_
                        refine lv_iconst (v := (1 : Int32)) X.1.1 X.1.2.1 dX9_put_108 (by decide) ?_
                        refine lv_iadd X.1.1 X.1.2.1 dX9_put_109 ?_
                        refine lv_iload_n X.1.1 X.1.2.1 dX9_put_110 rfl (lv_at hl 3 rfl) ?_
                        obtain ⟨i_55, hf⟩ := ogd hf
                        refine r_iast X hw g_q52 i_55 dX9_put_111 (fun H locs hw => ?_)
                        obtain ⟨M56, eM56, hf⟩ := olt hf
                        rw [← eM56] at hw
                        refine lv_aload_n X.1.1 X.1.2.1 dX9_put_112 rfl (lv_at hl 0 rfl) ?_
                        refine r_getq (k := 9) (j := 1) X hw rfl inX9 g_a0 rfl (by decide) (by decide) uf_X9_13 rfl dX9_put_113 eq52 ?_
                        refine lv_sipush (v := (404 : Int32)) X.1.1 X.1.2.1 dX9_put_116 (by decide) ?_
                        refine lv_iload_n X.1.1 X.1.2.1 dX9_put_119 rfl (lv_at hl 1 rfl) ?_
                        refine lv_imul X.1.1 X.1.2.1 dX9_put_120 ?_
                        refine lv_iconst (v := (2 : Int32)) X.1.1 X.1.2.1 dX9_put_121 (by decide) ?_
                        refine lv_iadd X.1.1 X.1.2.1 dX9_put_122 ?_
                        refine lv_iload X.1.1 X.1.2.1 dX9_put_123 (lv_at hl 4 rfl) ?_
                        obtain ⟨i_57, hf⟩ := ogd hf
                        refine r_iast X hw g_q52 i_57 dX9_put_125 (fun H locs hw => ?_)
                        obtain ⟨M58, eM58, hf⟩ := olt hf
                        rw [← eM58] at hw
                        refine lv_aload_n X.1.1 X.1.2.1 dX9_put_126 rfl (lv_at hl 0 rfl) ?_
                        refine r_getq (k := 9) (j := 1) X hw rfl inX9 g_a0 rfl (by decide) (by decide) uf_X9_13 rfl dX9_put_127 eq52 ?_
                        refine lv_sipush (v := (404 : Int32)) X.1.1 X.1.2.1 dX9_put_130 (by decide) ?_
                        refine lv_iload_n X.1.1 X.1.2.1 dX9_put_133 rfl (lv_at hl 1 rfl) ?_
                        refine lv_imul X.1.1 X.1.2.1 dX9_put_134 ?_
                        refine lv_iconst (v := (3 : Int32)) X.1.1 X.1.2.1 dX9_put_135 (by decide) ?_
                        refine lv_iadd X.1.1 X.1.2.1 dX9_put_136 ?_
                        refine lv_iconst (v := (0 : Int32)) X.1.1 X.1.2.1 dX9_put_137 (by decide) ?_
                        obtain ⟨i_59, hf⟩ := ogd hf
                        refine r_iast X hw g_q52 i_59 dX9_put_138 (fun H locs hw => ?_)
                        obtain ⟨M60, eM60, hf⟩ := olt hf
                        rw [← eM60] at hw
                        refine lv_iconst (v := (1 : Int32)) X.1.1 X.1.2.1 dX9_put_139 (by decide) ?_
                        cases hf
                        exact r_retI (v := (1 : Int32)) X hw hr hlk rfl dX9_put_140
                      · skip
                        rw [if_neg c_50] at hf
                        refine lv_iconst (v := (0 : Int32)) X.1.1 X.1.2.1 dX9_put_82 (by decide) ?_
                        cases hf
                        exact r_retI (v := (0 : Int32)) X hw hr hlk rfl dX9_put_83
        · skip
          rw [if_neg (fun z => z c_6)] at hf
          refine lv_iload_n X.1.1 X.1.2.1 dX9_put_28 rfl (lv_at hl 3 rfl) ?_
          refine lv_iconst (v := (1 : Int32)) X.1.1 X.1.2.1 dX9_put_29 (by decide) ?_
          refine lv_icmp_lt (tgt := 82) X.1.1 X.1.2.1 dX9_put_30 (by decide) (fun c_61 => ?_) (fun c_61 => ?_)
          · skip
            rw [if_pos c_61] at hf
            refine lv_iconst (v := (0 : Int32)) X.1.1 X.1.2.1 dX9_put_82 (by decide) ?_
            cases hf
            exact r_retI (v := (0 : Int32)) X hw hr hlk rfl dX9_put_83
          · skip
            rw [if_neg c_61] at hf
            refine lv_iload_n X.1.1 X.1.2.1 dX9_put_33 rfl (lv_at hl 3 rfl) ?_
            refine lv_ldc (v := (100000 : Int32)) X.1.1 X.1.2.1 X.1.2.2.2.1 (X.1.2.2.2.2 _ uc_X9_75) dX9_put_34 ?_
            refine lv_icmp_gt (tgt := 82) X.1.1 X.1.2.1 dX9_put_36 (by decide) (fun c_62 => ?_) (fun c_62 => ?_)
            · skip
              rw [if_pos c_62] at hf
              refine lv_iconst (v := (0 : Int32)) X.1.1 X.1.2.1 dX9_put_82 (by decide) ?_
              cases hf
              exact r_retI (v := (0 : Int32)) X hw hr hlk rfl dX9_put_83
            · skip
              rw [if_neg c_62] at hf
              refine lv_iload_n X.1.1 X.1.2.1 dX9_put_39 rfl (lv_at hl 2 rfl) ?_
              refine lv_iconst (v := (3 : Int32)) X.1.1 X.1.2.1 dX9_put_40 (by decide) ?_
              refine lv_icmp_ne (tgt := 62) X.1.1 X.1.2.1 dX9_put_41 (by decide) (fun c_63 => ?_) (fun c_63 => ?_)
              · skip
                rw [if_pos c_63] at hf
                refine lv_iload_n X.1.1 X.1.2.1 dX9_put_62 rfl (lv_at hl 2 rfl) ?_
                refine lv_iconst (v := (4 : Int32)) X.1.1 X.1.2.1 dX9_put_63 (by decide) ?_
                refine lv_icmp_ne (tgt := 84) X.1.1 X.1.2.1 dX9_put_64 (by decide) (fun c_64 => ?_) (fun c_64 => ?_)
                · skip
                  rw [if_pos c_64] at hf
                  refine lv_aload_n X.1.1 X.1.2.1 dX9_put_84 rfl (lv_at hl 0 rfl) ?_
                  obtain ⟨z65, ez65, hf⟩ := obd hf
                  refine r_callVV (As := []) (rest := []) X hw (c_X9_act ez65) (cwV 0 X.1.2.2.2.2 (guV um_X9_76 ui_X9_act us_X9_act un_X9 uo_X9_act) rfl rfl rfl (by decide +kernel) ⟨Nat.le_of_ble_eq_true rfl, Nat.le_of_ble_eq_true rfl⟩) g_a0 (by decide) rfl rfl hl.1 rfl (Nat.le_of_ble_eq_true rfl) dX9_put_85 ⟨Nat.zero_le _, Nat.zero_le _⟩ (fun H locs hw => ?_)
                  refine lv_aload_n X.1.1 X.1.2.1 dX9_put_88 rfl (lv_at hl 0 rfl) ?_
                  obtain ⟨q66, eq66, hf⟩ := odq hf
                  refine r_getq (k := 9) (j := 1) X hw rfl inX9 g_a0 rfl (by decide) (by decide) uf_X9_13 rfl dX9_put_89 eq66 ?_
                  refine lv_sipush (v := (404 : Int32)) X.1.1 X.1.2.1 dX9_put_92 (by decide) ?_
                  refine lv_iload_n X.1.1 X.1.2.1 dX9_put_95 rfl (lv_at hl 1 rfl) ?_
                  refine lv_imul X.1.1 X.1.2.1 dX9_put_96 ?_
                  refine lv_iload_n X.1.1 X.1.2.1 dX9_put_97 rfl (lv_at hl 2 rfl) ?_
                  obtain ⟨g_q66, hf⟩ := ogd hf
                  obtain ⟨i_67, hf⟩ := ogd hf
                  refine r_iast X hw g_q66 i_67 dX9_put_98 (fun H locs hw => ?_)
                  obtain ⟨M68, eM68, hf⟩ := olt hf
                  rw [← eM68] at hw
                  refine lv_aload_n X.1.1 X.1.2.1 dX9_put_99 rfl (lv_at hl 0 rfl) ?_
                  refine r_getq (k := 9) (j := 1) X hw rfl inX9 g_a0 rfl (by decide) (by decide) uf_X9_13 rfl dX9_put_100 eq66 ?_
                  refine lv_sipush (v := (404 : Int32)) X.1.1 X.1.2.1 dX9_put_103 (by decide) ?_
                  refine lv_iload_n X.1.1 X.1.2.1 dX9_put_106 rfl (lv_at hl 1 rfl) ?_
                  refine lv_imul X.1.1 X.1.2.1 dX9_put_107 ?_
                  refine lv_iconst (v := (1 : Int32)) X.1.1 X.1.2.1 dX9_put_108 (by decide) ?_
                  refine lv_iadd X.1.1 X.1.2.1 dX9_put_109 ?_
                  refine lv_iload_n X.1.1 X.1.2.1 dX9_put_110 rfl (lv_at hl 3 rfl) ?_
                  obtain ⟨i_69, hf⟩ := ogd hf
                  refine r_iast X hw g_q66 i_69 dX9_put_111 (fun H locs hw => ?_)
                  obtain ⟨M70, eM70, hf⟩ := olt hf
                  rw [← eM70] at hw
                  refine lv_aload_n X.1.1 X.1.2.1 dX9_put_112 rfl (lv_at hl 0 rfl) ?_
                  refine r_getq (k := 9) (j := 1) X hw rfl inX9 g_a0 rfl (by decide) (by decide) uf_X9_13 rfl dX9_put_113 eq66 ?_
                  refine lv_sipush (v := (404 : Int32)) X.1.1 X.1.2.1 dX9_put_116 (by decide) ?_
                  refine lv_iload_n X.1.1 X.1.2.1 dX9_put_119 rfl (lv_at hl 1 rfl) ?_
                  refine lv_imul X.1.1 X.1.2.1 dX9_put_120 ?_
                  refine lv_iconst (v := (2 : Int32)) X.1.1 X.1.2.1 dX9_put_121 (by decide) ?_
                  refine lv_iadd X.1.1 X.1.2.1 dX9_put_122 ?_
                  refine lv_iload X.1.1 X.1.2.1 dX9_put_123 (lv_at hl 4 rfl) ?_
                  obtain ⟨i_71, hf⟩ := ogd hf
                  refine r_iast X hw g_q66 i_71 dX9_put_125 (fun H locs hw => ?_)
                  obtain ⟨M72, eM72, hf⟩ := olt hf
                  rw [← eM72] at hw
                  refine lv_aload_n X.1.1 X.1.2.1 dX9_put_126 rfl (lv_at hl 0 rfl) ?_
                  refine r_getq (k := 9) (j := 1) X hw rfl inX9 g_a0 rfl (by decide) (by decide) uf_X9_13 rfl dX9_put_127 eq66 ?_
                  refine lv_sipush (v := (404 : Int32)) X.1.1 X.1.2.1 dX9_put_130 (by decide) ?_
                  refine lv_iload_n X.1.1 X.1.2.1 dX9_put_133 rfl (lv_at hl 1 rfl) ?_
                  refine lv_imul X.1.1 X.1.2.1 dX9_put_134 ?_
                  refine lv_iconst (v := (3 : Int32)) X.1.1 X.1.2.1 dX9_put_135 (by decide) ?_
                  refine lv_iadd X.1.1 X.1.2.1 dX9_put_136 ?_
                  refine lv_iconst (v := (0 : Int32)) X.1.1 X.1.2.1 dX9_put_137 (by decide) ?_
                  obtain ⟨i_73, hf⟩ := ogd hf
                  refine r_iast X hw g_q66 i_73 dX9_put_138 (fun H locs hw => ?_)
                  obtain ⟨M74, eM74, hf⟩ := olt hf
                  rw [← eM74] at hw
                  refine lv_iconst (v := (1 : Int32)) X.1.1 X.1.2.1 dX9_put_139 (by decide) ?_
                  cases hf
                  exact r_retI (v := (1 : Int32)) X hw hr hlk rfl dX9_put_140
                · skip
                  rw [if_neg (fun z => z c_64)] at hf
                  refine lv_iload_n X.1.1 X.1.2.1 dX9_put_67 rfl (lv_at hl 3 rfl) ?_
                  obtain ⟨z75, ez75, hf⟩ := obd hf
                  refine r_callSI (As := [.int p3]) (rest := []) X hw (c_X9_no ez75) (va_cwS 1 X.1.2.2.2.2 (guS um_X9_71 ut_X9_no un_X9 uo_X9_no) rfl rfl rfl (by decide +kernel) ⟨Nat.le_of_ble_eq_true rfl, Nat.le_of_ble_eq_true rfl⟩) rfl hl.1 rfl (Nat.le_of_ble_eq_true rfl) dX9_put_68 ⟨Nat.zero_le _, Nat.zero_le _⟩ (fun H locs hw => ?_)
                  refine lv_if_ne (tgt := 82) X.1.1 X.1.2.1 dX9_put_71 (by decide) (fun c_76 => ?_) (fun c_76 => ?_)
                  · skip
                    rw [if_pos c_76] at hf
                    refine lv_iconst (v := (0 : Int32)) X.1.1 X.1.2.1 dX9_put_82 (by decide) ?_
                    cases hf
                    exact r_retI (v := (0 : Int32)) X hw hr hlk rfl dX9_put_83
                  · skip
                    rw [if_neg (fun z => z c_76)] at hf
                    refine lv_iload X.1.1 X.1.2.1 dX9_put_74 (lv_at hl 4 rfl) ?_
                    obtain ⟨z77, ez77, hf⟩ := obd hf
                    refine r_callSI (As := [.int p4]) (rest := []) X hw (c_X9_no ez77) (va_cwS 1 X.1.2.2.2.2 (guS um_X9_71 ut_X9_no un_X9 uo_X9_no) rfl rfl rfl (by decide +kernel) ⟨Nat.le_of_ble_eq_true rfl, Nat.le_of_ble_eq_true rfl⟩) rfl hl.1 rfl (Nat.le_of_ble_eq_true rfl) dX9_put_76 ⟨Nat.zero_le _, Nat.zero_le _⟩ (fun H locs hw => ?_)
                    refine lv_if_eq (tgt := 84) X.1.1 X.1.2.1 dX9_put_79 (by decide) (fun c_78 => ?_) (fun c_78 => ?_)
                    · skip
                      rw [if_pos c_78] at hf
                      refine lv_aload_n X.1.1 X.1.2.1 dX9_put_84 rfl (lv_at hl 0 rfl) ?_
                      obtain ⟨z79, ez79, hf⟩ := obd hf
                      refine r_callVV (As := []) (rest := []) X hw (c_X9_act ez79) (cwV 0 X.1.2.2.2.2 (guV um_X9_76 ui_X9_act us_X9_act un_X9 uo_X9_act) rfl rfl rfl (by decide +kernel) ⟨Nat.le_of_ble_eq_true rfl, Nat.le_of_ble_eq_true rfl⟩) g_a0 (by decide) rfl rfl hl.1 rfl (Nat.le_of_ble_eq_true rfl) dX9_put_85 ⟨Nat.zero_le _, Nat.zero_le _⟩ (fun H locs hw => ?_)
                      refine lv_aload_n X.1.1 X.1.2.1 dX9_put_88 rfl (lv_at hl 0 rfl) ?_
                      obtain ⟨q80, eq80, hf⟩ := odq hf
                      refine r_getq (k := 9) (j := 1) X hw rfl inX9 g_a0 rfl (by decide) (by decide) uf_X9_13 rfl dX9_put_89 eq80 ?_
                      refine lv_sipush (v := (404 : Int32)) X.1.1 X.1.2.1 dX9_put_92 (by decide) ?_
                      refine lv_iload_n X.1.1 X.1.2.1 dX9_put_95 rfl (lv_at hl 1 rfl) ?_
                      refine lv_imul X.1.1 X.1.2.1 dX9_put_96 ?_
                      refine lv_iload_n X.1.1 X.1.2.1 dX9_put_97 rfl (lv_at hl 2 rfl) ?_
                      obtain ⟨g_q80, hf⟩ := ogd hf
                      obtain ⟨i_81, hf⟩ := ogd hf
                      refine r_iast X hw g_q80 i_81 dX9_put_98 (fun H locs hw => ?_)
                      obtain ⟨M82, eM82, hf⟩ := olt hf
                      rw [← eM82] at hw
                      refine lv_aload_n X.1.1 X.1.2.1 dX9_put_99 rfl (lv_at hl 0 rfl) ?_
                      refine r_getq (k := 9) (j := 1) X hw rfl inX9 g_a0 rfl (by decide) (by decide) uf_X9_13 rfl dX9_put_100 eq80 ?_
                      refine lv_sipush (v := (404 : Int32)) X.1.1 X.1.2.1 dX9_put_103 (by decide) ?_
                      refine lv_iload_n X.1.1 X.1.2.1 dX9_put_106 rfl (lv_at hl 1 rfl) ?_
                      refine lv_imul X.1.1 X.1.2.1 dX9_put_107 ?_
                      refine lv_iconst (v := (1 : Int32)) X.1.1 X.1.2.1 dX9_put_108 (by decide) ?_
                      refine lv_iadd X.1.1 X.1.2.1 dX9_put_109 ?_
                      refine lv_iload_n X.1.1 X.1.2.1 dX9_put_110 rfl (lv_at hl 3 rfl) ?_
                      obtain ⟨i_83, hf⟩ := ogd hf
                      refine r_iast X hw g_q80 i_83 dX9_put_111 (fun H locs hw => ?_)
                      obtain ⟨M84, eM84, hf⟩ := olt hf
                      rw [← eM84] at hw
                      refine lv_aload_n X.1.1 X.1.2.1 dX9_put_112 rfl (lv_at hl 0 rfl) ?_
                      refine r_getq (k := 9) (j := 1) X hw rfl inX9 g_a0 rfl (by decide) (by decide) uf_X9_13 rfl dX9_put_113 eq80 ?_
                      refine lv_sipush (v := (404 : Int32)) X.1.1 X.1.2.1 dX9_put_116 (by decide) ?_
                      refine lv_iload_n X.1.1 X.1.2.1 dX9_put_119 rfl (lv_at hl 1 rfl) ?_
                      refine lv_imul X.1.1 X.1.2.1 dX9_put_120 ?_
                      refine lv_iconst (v := (2 : Int32)) X.1.1 X.1.2.1 dX9_put_121 (by decide) ?_
                      refine lv_iadd X.1.1 X.1.2.1 dX9_put_122 ?_
                      refine lv_iload X.1.1 X.1.2.1 dX9_put_123 (lv_at hl 4 rfl) ?_
                      obtain ⟨i_85, hf⟩ := ogd hf
                      refine r_iast X hw g_q80 i_85 dX9_put_125 (fun H locs hw => ?_)
                      obtain ⟨M86, eM86, hf⟩ := olt hf
                      rw [← eM86] at hw
                      refine lv_aload_n X.1.1 X.1.2.1 dX9_put_126 rfl (lv_at hl 0 rfl) ?_
                      refine r_getq (k := 9) (j := 1) X hw rfl inX9 g_a0 rfl (by decide) (by decide) uf_X9_13 rfl dX9_put_127 eq80 ?_
                      refine lv_sipush (v := (404 : Int32)) X.1.1 X.1.2.1 dX9_put_130 (by decide) ?_
                      refine lv_iload_n X.1.1 X.1.2.1 dX9_put_133 rfl (lv_at hl 1 rfl) ?_
                      refine lv_imul X.1.1 X.1.2.1 dX9_put_134 ?_
                      refine lv_iconst (v := (3 : Int32)) X.1.1 X.1.2.1 dX9_put_135 (by decide) ?_
                      refine lv_iadd X.1.1 X.1.2.1 dX9_put_136 ?_
                      refine lv_iconst (v := (0 : Int32)) X.1.1 X.1.2.1 dX9_put_137 (by decide) ?_
                      obtain ⟨i_87, hf⟩ := ogd hf
                      refine r_iast X hw g_q80 i_87 dX9_put_138 (fun H locs hw => ?_)
                      obtain ⟨M88, eM88, hf⟩ := olt hf
                      rw [← eM88] at hw
                      refine lv_iconst (v := (1 : Int32)) X.1.1 X.1.2.1 dX9_put_139 (by decide) ?_
                      cases hf
                      exact r_retI (v := (1 : Int32)) X hw hr hlk rfl dX9_put_140
                    · skip
                      rw [if_neg c_78] at hf
                      refine lv_iconst (v := (0 : Int32)) X.1.1 X.1.2.1 dX9_put_82 (by decide) ?_
                      cases hf
                      exact r_retI (v := (0 : Int32)) X hw hr hlk rfl dX9_put_83
              · skip
                rw [if_neg (fun z => z c_63)] at hf
                refine lv_iload_n X.1.1 X.1.2.1 dX9_put_44 rfl (lv_at hl 3 rfl) ?_
                refine lv_if_lt (tgt := 82) X.1.1 X.1.2.1 dX9_put_45 (by decide) (fun c_89 => ?_) (fun c_89 => ?_)
                · skip
                  rw [if_pos c_89] at hf
                  refine lv_iconst (v := (0 : Int32)) X.1.1 X.1.2.1 dX9_put_82 (by decide) ?_
                  cases hf
                  exact r_retI (v := (0 : Int32)) X hw hr hlk rfl dX9_put_83
                · skip
                  rw [if_neg c_89] at hf
                  refine lv_iload X.1.1 X.1.2.1 dX9_put_48 (lv_at hl 4 rfl) ?_
                  refine lv_iload_n X.1.1 X.1.2.1 dX9_put_50 rfl (lv_at hl 3 rfl) ?_
                  refine lv_icmp_lt (tgt := 82) X.1.1 X.1.2.1 dX9_put_51 (by decide) (fun c_90 => ?_) (fun c_90 => ?_)
                  · skip
                    rw [if_pos c_90] at hf
                    refine lv_iconst (v := (0 : Int32)) X.1.1 X.1.2.1 dX9_put_82 (by decide) ?_
                    cases hf
                    exact r_retI (v := (0 : Int32)) X hw hr hlk rfl dX9_put_83
                  · skip
                    rw [if_neg c_90] at hf
                    refine lv_iload X.1.1 X.1.2.1 dX9_put_54 (lv_at hl 4 rfl) ?_
                    refine lv_sipush (v := (399 : Int32)) X.1.1 X.1.2.1 dX9_put_56 (by decide) ?_
                    refine lv_icmp_gt (tgt := 82) X.1.1 X.1.2.1 dX9_put_59 (by decide) (fun c_91 => ?_) (fun c_91 => ?_)
                    · skip
                      rw [if_pos c_91] at hf
                      refine lv_iconst (v := (0 : Int32)) X.1.1 X.1.2.1 dX9_put_82 (by decide) ?_
                      cases hf
                      exact r_retI (v := (0 : Int32)) X hw hr hlk rfl dX9_put_83
                    · skip
                      rw [if_neg c_91] at hf
                      refine lv_iload_n X.1.1 X.1.2.1 dX9_put_62 rfl (lv_at hl 2 rfl) ?_
                      refine lv_iconst (v := (4 : Int32)) X.1.1 X.1.2.1 dX9_put_63 (by decide) ?_
                      refine lv_icmp_ne (tgt := 84) X.1.1 X.1.2.1 dX9_put_64 (by decide) (fun c_92 => ?_) (fun c_92 => ?_)
                      · skip
                        rw [if_pos c_92] at hf
                        refine lv_aload_n X.1.1 X.1.2.1 dX9_put_84 rfl (lv_at hl 0 rfl) ?_
                        obtain ⟨z93, ez93, hf⟩ := obd hf
                        refine r_callVV (As := []) (rest := []) X hw (c_X9_act ez93) (cwV 0 X.1.2.2.2.2 (guV um_X9_76 ui_X9_act us_X9_act un_X9 uo_X9_act) rfl rfl rfl (by decide +kernel) ⟨Nat.le_of_ble_eq_true rfl, Nat.le_of_ble_eq_true rfl⟩) g_a0 (by decide) rfl rfl hl.1 rfl (Nat.le_of_ble_eq_true rfl) dX9_put_85 ⟨Nat.zero_le _, Nat.zero_le _⟩ (fun H locs hw => ?_)
                        refine lv_aload_n X.1.1 X.1.2.1 dX9_put_88 rfl (lv_at hl 0 rfl) ?_
                        obtain ⟨q94, eq94, hf⟩ := odq hf
                        refine r_getq (k := 9) (j := 1) X hw rfl inX9 g_a0 rfl (by decide) (by decide) uf_X9_13 rfl dX9_put_89 eq94 ?_
                        refine lv_sipush (v := (404 : Int32)) X.1.1 X.1.2.1 dX9_put_92 (by decide) ?_
                        refine lv_iload_n X.1.1 X.1.2.1 dX9_put_95 rfl (lv_at hl 1 rfl) ?_
                        refine lv_imul X.1.1 X.1.2.1 dX9_put_96 ?_
                        refine lv_iload_n X.1.1 X.1.2.1 dX9_put_97 rfl (lv_at hl 2 rfl) ?_
                        obtain ⟨g_q94, hf⟩ := ogd hf
                        obtain ⟨i_95, hf⟩ := ogd hf
                        refine r_iast X hw g_q94 i_95 dX9_put_98 (fun H locs hw => ?_)
                        obtain ⟨M96, eM96, hf⟩ := olt hf
                        rw [← eM96] at hw
                        refine lv_aload_n X.1.1 X.1.2.1 dX9_put_99 rfl (lv_at hl 0 rfl) ?_
                        refine r_getq (k := 9) (j := 1) X hw rfl inX9 g_a0 rfl (by decide) (by decide) uf_X9_13 rfl dX9_put_100 eq94 ?_
                        refine lv_sipush (v := (404 : Int32)) X.1.1 X.1.2.1 dX9_put_103 (by decide) ?_
                        refine lv_iload_n X.1.1 X.1.2.1 dX9_put_106 rfl (lv_at hl 1 rfl) ?_
                        refine lv_imul X.1.1 X.1.2.1 dX9_put_107 ?_
                        refine lv_iconst (v := (1 : Int32)) X.1.1 X.1.2.1 dX9_put_108 (by decide) ?_
                        refine lv_iadd X.1.1 X.1.2.1 dX9_put_109 ?_
                        refine lv_iload_n X.1.1 X.1.2.1 dX9_put_110 rfl (lv_at hl 3 rfl) ?_
                        obtain ⟨i_97, hf⟩ := ogd hf
                        refine r_iast X hw g_q94 i_97 dX9_put_111 (fun H locs hw => ?_)
                        obtain ⟨M98, eM98, hf⟩ := olt hf
                        rw [← eM98] at hw
                        refine lv_aload_n X.1.1 X.1.2.1 dX9_put_112 rfl (lv_at hl 0 rfl) ?_
                        refine r_getq (k := 9) (j := 1) X hw rfl inX9 g_a0 rfl (by decide) (by decide) uf_X9_13 rfl dX9_put_113 eq94 ?_
                        refine lv_sipush (v := (404 : Int32)) X.1.1 X.1.2.1 dX9_put_116 (by decide) ?_
                        refine lv_iload_n X.1.1 X.1.2.1 dX9_put_119 rfl (lv_at hl 1 rfl) ?_
                        refine lv_imul X.1.1 X.1.2.1 dX9_put_120 ?_
                        refine lv_iconst (v := (2 : Int32)) X.1.1 X.1.2.1 dX9_put_121 (by decide) ?_
                        refine lv_iadd X.1.1 X.1.2.1 dX9_put_122 ?_
                        refine lv_iload X.1.1 X.1.2.1 dX9_put_123 (lv_at hl 4 rfl) ?_
                        obtain ⟨i_99, hf⟩ := ogd hf
                        refine r_iast X hw g_q94 i_99 dX9_put_125 (fun H locs hw => ?_)
                        obtain ⟨M100, eM100, hf⟩ := olt hf
                        rw [← eM100] at hw
                        refine lv_aload_n X.1.1 X.1.2.1 dX9_put_126 rfl (lv_at hl 0 rfl) ?_
                        refine r_getq (k := 9) (j := 1) X hw rfl inX9 g_a0 rfl (by decide) (by decide) uf_X9_13 rfl dX9_put_127 eq94 ?_
                        refine lv_sipush (v := (404 : Int32)) X.1.1 X.1.2.1 dX9_put_130 (by decide) ?_
                        refine lv_iload_n X.1.1 X.1.2.1 dX9_put_133 rfl (lv_at hl 1 rfl) ?_
                        refine lv_imul X.1.1 X.1.2.1 dX9_put_134 ?_
                        refine lv_iconst (v := (3 : Int32)) X.1.1 X.1.2.1 dX9_put_135 (by decide) ?_
                        refine lv_iadd X.1.1 X.1.2.1 dX9_put_136 ?_
                        refine lv_iconst (v := (0 : Int32)) X.1.1 X.1.2.1 dX9_put_137 (by decide) ?_
                        obtain ⟨i_101, hf⟩ := ogd hf
                        refine r_iast X hw g_q94 i_101 dX9_put_138 (fun H locs hw => ?_)
                        obtain ⟨M102, eM102, hf⟩ := olt hf
                        rw [← eM102] at hw
                        refine lv_iconst (v := (1 : Int32)) X.1.1 X.1.2.1 dX9_put_139 (by decide) ?_
                        cases hf
                        exact r_retI (v := (1 : Int32)) X hw hr hlk rfl dX9_put_140
                      · skip
                        rw [if_neg (fun z => z c_92)] at hf
                        refine lv_iload_n X.1.1 X.1.2.1 dX9_put_67 rfl (lv_at hl 3 rfl) ?_
                        obtain ⟨z103, ez103, hf⟩ := obd hf
                        refine r_callSI (As := [.int p3]) (rest := []) X hw (c_X9_no ez103) (va_cwS 1 X.1.2.2.2.2 (guS um_X9_71 ut_X9_no un_X9 uo_X9_no) rfl rfl rfl (by decide +kernel) ⟨Nat.le_of_ble_eq_true rfl, Nat.le_of_ble_eq_true rfl⟩) rfl hl.1 rfl (Nat.le_of_ble_eq_true rfl) dX9_put_68 ⟨Nat.zero_le _, Nat.zero_le _⟩ (fun H locs hw => ?_)
                        refine lv_if_ne (tgt := 82) X.1.1 X.1.2.1 dX9_put_71 (by decide) (fun c_104 => ?_) (fun c_104 => ?_)
                        · skip
                          rw [if_pos c_104] at hf
                          refine lv_iconst (v := (0 : Int32)) X.1.1 X.1.2.1 dX9_put_82 (by decide) ?_
                          cases hf
                          exact r_retI (v := (0 : Int32)) X hw hr hlk rfl dX9_put_83
                        · skip
                          rw [if_neg (fun z => z c_104)] at hf
                          refine lv_iload X.1.1 X.1.2.1 dX9_put_74 (lv_at hl 4 rfl) ?_
                          obtain ⟨z105, ez105, hf⟩ := obd hf
                          refine r_callSI (As := [.int p4]) (rest := []) X hw (c_X9_no ez105) (va_cwS 1 X.1.2.2.2.2 (guS um_X9_71 ut_X9_no un_X9 uo_X9_no) rfl rfl rfl (by decide +kernel) ⟨Nat.le_of_ble_eq_true rfl, Nat.le_of_ble_eq_true rfl⟩) rfl hl.1 rfl (Nat.le_of_ble_eq_true rfl) dX9_put_76 ⟨Nat.zero_le _, Nat.zero_le _⟩ (fun H locs hw => ?_)
                          refine lv_if_eq (tgt := 84) X.1.1 X.1.2.1 dX9_put_79 (by decide) (fun c_106 => ?_) (fun c_106 => ?_)
                          · skip
                            rw [if_pos c_106] at hf
                            refine lv_aload_n X.1.1 X.1.2.1 dX9_put_84 rfl (lv_at hl 0 rfl) ?_
                            obtain ⟨z107, ez107, hf⟩ := obd hf
                            refine r_callVV (As := []) (rest := []) X hw (c_X9_act ez107) (cwV 0 X.1.2.2.2.2 (guV um_X9_76 ui_X9_act us_X9_act un_X9 uo_X9_act) rfl rfl rfl (by decide +kernel) ⟨Nat.le_of_ble_eq_true rfl, Nat.le_of_ble_eq_true rfl⟩) g_a0 (by decide) rfl rfl hl.1 rfl (Nat.le_of_ble_eq_true rfl) dX9_put_85 ⟨Nat.zero_le _, Nat.zero_le _⟩ (fun H locs hw => ?_)
                            refine lv_aload_n X.1.1 X.1.2.1 dX9_put_88 rfl (lv_at hl 0 rfl) ?_
                            obtain ⟨q108, eq108, hf⟩ := odq hf
                            refine r_getq (k := 9) (j := 1) X hw rfl inX9 g_a0 rfl (by decide) (by decide) uf_X9_13 rfl dX9_put_89 eq108 ?_
                            refine lv_sipush (v := (404 : Int32)) X.1.1 X.1.2.1 dX9_put_92 (by decide) ?_
                            refine lv_iload_n X.1.1 X.1.2.1 dX9_put_95 rfl (lv_at hl 1 rfl) ?_
                            refine lv_imul X.1.1 X.1.2.1 dX9_put_96 ?_
                            refine lv_iload_n X.1.1 X.1.2.1 dX9_put_97 rfl (lv_at hl 2 rfl) ?_
                            obtain ⟨g_q108, hf⟩ := ogd hf
                            obtain ⟨i_109, hf⟩ := ogd hf
                            refine r_iast X hw g_q108 i_109 dX9_put_98 (fun H locs hw => ?_)
                            obtain ⟨M110, eM110, hf⟩ := olt hf
                            rw [← eM110] at hw
                            refine lv_aload_n X.1.1 X.1.2.1 dX9_put_99 rfl (lv_at hl 0 rfl) ?_
                            refine r_getq (k := 9) (j := 1) X hw rfl inX9 g_a0 rfl (by decide) (by decide) uf_X9_13 rfl dX9_put_100 eq108 ?_
                            refine lv_sipush (v := (404 : Int32)) X.1.1 X.1.2.1 dX9_put_103 (by decide) ?_
                            refine lv_iload_n X.1.1 X.1.2.1 dX9_put_106 rfl (lv_at hl 1 rfl) ?_
                            refine lv_imul X.1.1 X.1.2.1 dX9_put_107 ?_
                            refine lv_iconst (v := (1 : Int32)) X.1.1 X.1.2.1 dX9_put_108 (by decide) ?_
                            refine lv_iadd X.1.1 X.1.2.1 dX9_put_109 ?_
                            refine lv_iload_n X.1.1 X.1.2.1 dX9_put_110 rfl (lv_at hl 3 rfl) ?_
                            obtain ⟨i_111, hf⟩ := ogd hf
                            refine r_iast X hw g_q108 i_111 dX9_put_111 (fun H locs hw => ?_)
                            obtain ⟨M112, eM112, hf⟩ := olt hf
                            rw [← eM112] at hw
                            refine lv_aload_n X.1.1 X.1.2.1 dX9_put_112 rfl (lv_at hl 0 rfl) ?_
                            refine r_getq (k := 9) (j := 1) X hw rfl inX9 g_a0 rfl (by decide) (by decide) uf_X9_13 rfl dX9_put_113 eq108 ?_
                            refine lv_sipush (v := (404 : Int32)) X.1.1 X.1.2.1 dX9_put_116 (by decide) ?_
                            refine lv_iload_n X.1.1 X.1.2.1 dX9_put_119 rfl (lv_at hl 1 rfl) ?_
                            refine lv_imul X.1.1 X.1.2.1 dX9_put_120 ?_
                            refine lv_iconst (v := (2 : Int32)) X.1.1 X.1.2.1 dX9_put_121 (by decide) ?_
                            refine lv_iadd X.1.1 X.1.2.1 dX9_put_122 ?_
                            refine lv_iload X.1.1 X.1.2.1 dX9_put_123 (lv_at hl 4 rfl) ?_
                            obtain ⟨i_113, hf⟩ := ogd hf
                            refine r_iast X hw g_q108 i_113 dX9_put_125 (fun H locs hw => ?_)
                            obtain ⟨M114, eM114, hf⟩ := olt hf
                            rw [← eM114] at hw
                            refine lv_aload_n X.1.1 X.1.2.1 dX9_put_126 rfl (lv_at hl 0 rfl) ?_
                            refine r_getq (k := 9) (j := 1) X hw rfl inX9 g_a0 rfl (by decide) (by decide) uf_X9_13 rfl dX9_put_127 eq108 ?_
                            refine lv_sipush (v := (404 : Int32)) X.1.1 X.1.2.1 dX9_put_130 (by decide) ?_
                            refine lv_iload_n X.1.1 X.1.2.1 dX9_put_133 rfl (lv_at hl 1 rfl) ?_
                            refine lv_imul X.1.1 X.1.2.1 dX9_put_134 ?_
                            refine lv_iconst (v := (3 : Int32)) X.1.1 X.1.2.1 dX9_put_135 (by decide) ?_
                            refine lv_iadd X.1.1 X.1.2.1 dX9_put_136 ?_
                            refine lv_iconst (v := (0 : Int32)) X.1.1 X.1.2.1 dX9_put_137 (by decide) ?_
                            obtain ⟨i_115, hf⟩ := ogd hf
                            refine r_iast X hw g_q108 i_115 dX9_put_138 (fun H locs hw => ?_)
                            obtain ⟨M116, eM116, hf⟩ := olt hf
                            rw [← eM116] at hw
                            refine lv_iconst (v := (1 : Int32)) X.1.1 X.1.2.1 dX9_put_139 (by decide) ?_
                            cases hf
                            exact r_retI (v := (1 : Int32)) X hw hr hlk rfl dX9_put_140
                          · skip
                            rw [if_neg c_106] at hf
                            refine lv_iconst (v := (0 : Int32)) X.1.1 X.1.2.1 dX9_put_82 (by decide) ?_
                            cases hf
                            exact r_retI (v := (0 : Int32)) X hw hr hlk rfl dX9_put_83
      · skip
        rw [if_neg c_5] at hf
        refine lv_iconst (v := (0 : Int32)) X.1.1 X.1.2.1 dX9_put_21 (by decide) ?_
        cases hf
        exact r_retI (v := (0 : Int32)) X hw hr hlk rfl dX9_put_22
/-! X9_plug -/
def f_X9_plug (h : Hs) (a0 : Nat) (p1 : Int32) (M : Mm) : Option (Int32 × Mm) :=
  gd (ok h a0 9) <|
  lt_ (sI M a0 0 (0 : Int32)) fun M1 =>
  (f_X9_no h p1 M1).bind fun z2 =>
  if z2 = 0 then
    (f_X9_act h a0 M1).bind fun z4 =>
    dq (zR h a0 1) fun q5 =>
    gd (ok h q5 11) <|
    gd (inb ((404 : Int32) * p1) (zN h q5)) <|
    lt_ (sI z4 q5 ((404 : Int32) * p1).toNatClampNeg (5 : Int32)) fun M7 =>
    gd (inb (((404 : Int32) * p1) + (3 : Int32)) (zN h q5)) <|
    lt_ (sI M7 q5 (((404 : Int32) * p1) + (3 : Int32)).toNatClampNeg (0 : Int32)) fun M9 =>
    some ((1 : Int32), M9)
  else
    some ((0 : Int32), M1)
set_option maxHeartbeats 4000000 in
set_option maxRecDepth 100000 in
theorem c_X9_plug {l : Launch} {D : va_G} {cy : Nat → ClassId} {h : Hs} {a0 : Nat} {p1 : Int32} {M : Mm} {z : (Int32 × Mm)} (hf : f_X9_plug h a0 p1 M = some z) : CtI l D cy yX9_plug (wu yX9_plug cX9_plug 2 (some .boolean)) ({ frames := 2, cells := 0, slots := 0, locals := 43 }) [.ref a0, .int p1] h M z.1 z.2 := by
  refine enterI (cc := cX9_plug) (maxL := 2) (ret := (some .boolean)) (by decide) (Nat.le_of_ble_eq_true rfl) ?_
  intro p e s m args below meth c A ls X hw hr hlk hl
  have hl : lv_has ls 2 [(0, .ref a0), (1, .int p1)] := hl
  unfold f_X9_plug at hf
  refine lv_aload_n X.1.1 X.1.2.1 dX9_plug_0 rfl (lv_at hl 0 rfl) ?_
  refine lv_iconst (v := (0 : Int32)) X.1.1 X.1.2.1 dX9_plug_1 (by decide) ?_
  obtain ⟨g_a0, hf⟩ := ogd hf
  refine r_puti (k := 9) (j := 0) X hw rfl inX9 tyX9_ok nmX9 g_a0 rfl (by decide) (by decide) uf_X9_1 rfl rfl rfl rfl dX9_plug_2 (fun H locs hw => ?_)
  obtain ⟨M1, eM1, hf⟩ := olt hf
  rw [← eM1] at hw
  refine lv_iload_n X.1.1 X.1.2.1 dX9_plug_5 rfl (lv_at hl 1 rfl) ?_
  obtain ⟨z2, ez2, hf⟩ := obd hf
  refine r_callSI (As := [.int p1]) (rest := []) X hw (c_X9_no ez2) (va_cwS 1 X.1.2.2.2.2 (guS um_X9_71 ut_X9_no un_X9 uo_X9_no) rfl rfl rfl (by decide +kernel) ⟨Nat.le_of_ble_eq_true rfl, Nat.le_of_ble_eq_true rfl⟩) rfl hl.1 rfl (Nat.le_of_ble_eq_true rfl) dX9_plug_6 ⟨Nat.zero_le _, Nat.zero_le _⟩ (fun H locs hw => ?_)
  refine lv_if_eq (tgt := 14) X.1.1 X.1.2.1 dX9_plug_9 (by decide) (fun c_3 => ?_) (fun c_3 => ?_)
  · skip
    rw [if_pos c_3] at hf
    refine lv_aload_n X.1.1 X.1.2.1 dX9_plug_14 rfl (lv_at hl 0 rfl) ?_
    obtain ⟨z4, ez4, hf⟩ := obd hf
    refine r_callVV (As := []) (rest := []) X hw (c_X9_act ez4) (cwV 0 X.1.2.2.2.2 (guV um_X9_76 ui_X9_act us_X9_act un_X9 uo_X9_act) rfl rfl rfl (by decide +kernel) ⟨Nat.le_of_ble_eq_true rfl, Nat.le_of_ble_eq_true rfl⟩) g_a0 (by decide) rfl rfl hl.1 rfl (Nat.le_of_ble_eq_true rfl) dX9_plug_15 ⟨Nat.zero_le _, Nat.zero_le _⟩ (fun H locs hw => ?_)
    refine lv_aload_n X.1.1 X.1.2.1 dX9_plug_18 rfl (lv_at hl 0 rfl) ?_
    obtain ⟨q5, eq5, hf⟩ := odq hf
    refine r_getq (k := 9) (j := 1) X hw rfl inX9 g_a0 rfl (by decide) (by decide) uf_X9_13 rfl dX9_plug_19 eq5 ?_
    refine lv_sipush (v := (404 : Int32)) X.1.1 X.1.2.1 dX9_plug_22 (by decide) ?_
    refine lv_iload_n X.1.1 X.1.2.1 dX9_plug_25 rfl (lv_at hl 1 rfl) ?_
    refine lv_imul X.1.1 X.1.2.1 dX9_plug_26 ?_
    refine lv_iconst (v := (5 : Int32)) X.1.1 X.1.2.1 dX9_plug_27 (by decide) ?_
    obtain ⟨g_q5, hf⟩ := ogd hf
    obtain ⟨i_6, hf⟩ := ogd hf
    refine r_iast X hw g_q5 i_6 dX9_plug_28 (fun H locs hw => ?_)
    obtain ⟨M7, eM7, hf⟩ := olt hf
    rw [← eM7] at hw
    refine lv_aload_n X.1.1 X.1.2.1 dX9_plug_29 rfl (lv_at hl 0 rfl) ?_
    refine r_getq (k := 9) (j := 1) X hw rfl inX9 g_a0 rfl (by decide) (by decide) uf_X9_13 rfl dX9_plug_30 eq5 ?_
    refine lv_sipush (v := (404 : Int32)) X.1.1 X.1.2.1 dX9_plug_33 (by decide) ?_
    refine lv_iload_n X.1.1 X.1.2.1 dX9_plug_36 rfl (lv_at hl 1 rfl) ?_
    refine lv_imul X.1.1 X.1.2.1 dX9_plug_37 ?_
    refine lv_iconst (v := (3 : Int32)) X.1.1 X.1.2.1 dX9_plug_38 (by decide) ?_
    refine lv_iadd X.1.1 X.1.2.1 dX9_plug_39 ?_
    refine lv_iconst (v := (0 : Int32)) X.1.1 X.1.2.1 dX9_plug_40 (by decide) ?_
    obtain ⟨i_8, hf⟩ := ogd hf
    refine r_iast X hw g_q5 i_8 dX9_plug_41 (fun H locs hw => ?_)
    obtain ⟨M9, eM9, hf⟩ := olt hf
    rw [← eM9] at hw
    refine lv_iconst (v := (1 : Int32)) X.1.1 X.1.2.1 dX9_plug_42 (by decide) ?_
    cases hf
    exact r_retI (v := (1 : Int32)) X hw hr hlk rfl dX9_plug_43
  · skip
    rw [if_neg c_3] at hf
    refine lv_iconst (v := (0 : Int32)) X.1.1 X.1.2.1 dX9_plug_12 (by decide) ?_
    cases hf
    exact r_retI (v := (0 : Int32)) X hw hr hlk rfl dX9_plug_13
/-! X9_take -/
def f_X9_take (h : Hs) (a0 : Nat) (p1 : Int32) (M : Mm) : Option (Int32 × Mm) :=
  gd (ok h a0 9) <|
  lt_ (sI M a0 0 (0 : Int32)) fun M1 =>
  (f_X9_no h p1 M1).bind fun z2 =>
  if ¬ z2 = 0 then
    some ((0 : Int32), M1)
  else
    dq (zR h a0 1) fun q4 =>
    gd (ok h q4 11) <|
    gd (inb ((404 : Int32) * p1) (zN h q4)) <|
    if ¬ (zI M1 q4 ((404 : Int32) * p1).toNatClampNeg) = (-1 : Int32) then
      (f_X9_act h a0 M1).bind fun z7 =>
      gd (inb ((404 : Int32) * p1) (zN h q4)) <|
      lt_ (sI z7 q4 ((404 : Int32) * p1).toNatClampNeg (-1 : Int32)) fun M9 =>
      gd (inb (((404 : Int32) * p1) + (3 : Int32)) (zN h q4)) <|
      lt_ (sI M9 q4 (((404 : Int32) * p1) + (3 : Int32)).toNatClampNeg (0 : Int32)) fun M11 =>
      some ((1 : Int32), M11)
    else
      some ((0 : Int32), M1)
set_option maxHeartbeats 4000000 in
set_option maxRecDepth 100000 in
theorem c_X9_take {l : Launch} {D : va_G} {cy : Nat → ClassId} {h : Hs} {a0 : Nat} {p1 : Int32} {M : Mm} {z : (Int32 × Mm)} (hf : f_X9_take h a0 p1 M = some z) : CtI l D cy yX9_take (wu yX9_take cX9_take 2 (some .boolean)) ({ frames := 2, cells := 0, slots := 0, locals := 43 }) [.ref a0, .int p1] h M z.1 z.2 := by
  refine enterI (cc := cX9_take) (maxL := 2) (ret := (some .boolean)) (by decide) (Nat.le_of_ble_eq_true rfl) ?_
  intro p e s m args below meth c A ls X hw hr hlk hl
  have hl : lv_has ls 2 [(0, .ref a0), (1, .int p1)] := hl
  unfold f_X9_take at hf
  refine lv_aload_n X.1.1 X.1.2.1 dX9_take_0 rfl (lv_at hl 0 rfl) ?_
  refine lv_iconst (v := (0 : Int32)) X.1.1 X.1.2.1 dX9_take_1 (by decide) ?_
  obtain ⟨g_a0, hf⟩ := ogd hf
  refine r_puti (k := 9) (j := 0) X hw rfl inX9 tyX9_ok nmX9 g_a0 rfl (by decide) (by decide) uf_X9_1 rfl rfl rfl rfl dX9_take_2 (fun H locs hw => ?_)
  obtain ⟨M1, eM1, hf⟩ := olt hf
  rw [← eM1] at hw
  refine lv_iload_n X.1.1 X.1.2.1 dX9_take_5 rfl (lv_at hl 1 rfl) ?_
  obtain ⟨z2, ez2, hf⟩ := obd hf
  refine r_callSI (As := [.int p1]) (rest := []) X hw (c_X9_no ez2) (va_cwS 1 X.1.2.2.2.2 (guS um_X9_71 ut_X9_no un_X9 uo_X9_no) rfl rfl rfl (by decide +kernel) ⟨Nat.le_of_ble_eq_true rfl, Nat.le_of_ble_eq_true rfl⟩) rfl hl.1 rfl (Nat.le_of_ble_eq_true rfl) dX9_take_6 ⟨Nat.zero_le _, Nat.zero_le _⟩ (fun H locs hw => ?_)
  refine lv_if_ne (tgt := 26) X.1.1 X.1.2.1 dX9_take_9 (by decide) (fun c_3 => ?_) (fun c_3 => ?_)
  · skip
    rw [if_pos c_3] at hf
    refine lv_iconst (v := (0 : Int32)) X.1.1 X.1.2.1 dX9_take_26 (by decide) ?_
    cases hf
    exact r_retI (v := (0 : Int32)) X hw hr hlk rfl dX9_take_27
  · skip
    rw [if_neg (fun z => z c_3)] at hf
    refine lv_aload_n X.1.1 X.1.2.1 dX9_take_12 rfl (lv_at hl 0 rfl) ?_
    obtain ⟨q4, eq4, hf⟩ := odq hf
    refine r_getq (k := 9) (j := 1) X hw rfl inX9 g_a0 rfl (by decide) (by decide) uf_X9_13 rfl dX9_take_13 eq4 ?_
    refine lv_sipush (v := (404 : Int32)) X.1.1 X.1.2.1 dX9_take_16 (by decide) ?_
    refine lv_iload_n X.1.1 X.1.2.1 dX9_take_19 rfl (lv_at hl 1 rfl) ?_
    refine lv_imul X.1.1 X.1.2.1 dX9_take_20 ?_
    obtain ⟨g_q4, hf⟩ := ogd hf
    obtain ⟨i_5, hf⟩ := ogd hf
    refine r_iald X hw g_q4 i_5 dX9_take_21 ?_
    refine lv_iconst (v := (-1 : Int32)) X.1.1 X.1.2.1 dX9_take_22 (by decide) ?_
    refine lv_icmp_ne (tgt := 28) X.1.1 X.1.2.1 dX9_take_23 (by decide) (fun c_6 => ?_) (fun c_6 => ?_)
    · skip
      rw [if_pos c_6] at hf
      refine lv_aload_n X.1.1 X.1.2.1 dX9_take_28 rfl (lv_at hl 0 rfl) ?_
      obtain ⟨z7, ez7, hf⟩ := obd hf
      refine r_callVV (As := []) (rest := []) X hw (c_X9_act ez7) (cwV 0 X.1.2.2.2.2 (guV um_X9_76 ui_X9_act us_X9_act un_X9 uo_X9_act) rfl rfl rfl (by decide +kernel) ⟨Nat.le_of_ble_eq_true rfl, Nat.le_of_ble_eq_true rfl⟩) g_a0 (by decide) rfl rfl hl.1 rfl (Nat.le_of_ble_eq_true rfl) dX9_take_29 ⟨Nat.zero_le _, Nat.zero_le _⟩ (fun H locs hw => ?_)
      refine lv_aload_n X.1.1 X.1.2.1 dX9_take_32 rfl (lv_at hl 0 rfl) ?_
      refine r_getq (k := 9) (j := 1) X hw rfl inX9 g_a0 rfl (by decide) (by decide) uf_X9_13 rfl dX9_take_33 eq4 ?_
      refine lv_sipush (v := (404 : Int32)) X.1.1 X.1.2.1 dX9_take_36 (by decide) ?_
      refine lv_iload_n X.1.1 X.1.2.1 dX9_take_39 rfl (lv_at hl 1 rfl) ?_
      refine lv_imul X.1.1 X.1.2.1 dX9_take_40 ?_
      refine lv_iconst (v := (-1 : Int32)) X.1.1 X.1.2.1 dX9_take_41 (by decide) ?_
      obtain ⟨i_8, hf⟩ := ogd hf
      refine r_iast X hw g_q4 i_8 dX9_take_42 (fun H locs hw => ?_)
      obtain ⟨M9, eM9, hf⟩ := olt hf
      rw [← eM9] at hw
      refine lv_aload_n X.1.1 X.1.2.1 dX9_take_43 rfl (lv_at hl 0 rfl) ?_
      refine r_getq (k := 9) (j := 1) X hw rfl inX9 g_a0 rfl (by decide) (by decide) uf_X9_13 rfl dX9_take_44 eq4 ?_
      refine lv_sipush (v := (404 : Int32)) X.1.1 X.1.2.1 dX9_take_47 (by decide) ?_
      refine lv_iload_n X.1.1 X.1.2.1 dX9_take_50 rfl (lv_at hl 1 rfl) ?_
      refine lv_imul X.1.1 X.1.2.1 dX9_take_51 ?_
      refine lv_iconst (v := (3 : Int32)) X.1.1 X.1.2.1 dX9_take_52 (by decide) ?_
      refine lv_iadd X.1.1 X.1.2.1 dX9_take_53 ?_
      refine lv_iconst (v := (0 : Int32)) X.1.1 X.1.2.1 dX9_take_54 (by decide) ?_
      obtain ⟨i_10, hf⟩ := ogd hf
      refine r_iast X hw g_q4 i_10 dX9_take_55 (fun H locs hw => ?_)
      obtain ⟨M11, eM11, hf⟩ := olt hf
      rw [← eM11] at hw
      refine lv_iconst (v := (1 : Int32)) X.1.1 X.1.2.1 dX9_take_56 (by decide) ?_
      cases hf
      exact r_retI (v := (1 : Int32)) X hw hr hlk rfl dX9_take_57
    · skip
      rw [if_neg (fun z => z c_6)] at hf
      refine lv_iconst (v := (0 : Int32)) X.1.1 X.1.2.1 dX9_take_26 (by decide) ?_
      cases hf
      exact r_retI (v := (0 : Int32)) X hw hr hlk rfl dX9_take_27
/-! X9_kindOf -/
def f_X9_kindOf (h : Hs) (a0 : Nat) (p1 : Int32) (M : Mm) : Option Int32 :=
  (f_X9_no h p1 M).bind fun z1 =>
  if z1 = 0 then
    gd (ok h a0 9) <|
    dq (zR h a0 1) fun q3 =>
    gd (ok h q3 11) <|
    gd (inb ((404 : Int32) * p1) (zN h q3)) <|
    some (zI M q3 ((404 : Int32) * p1).toNatClampNeg)
  else
    some (-2 : Int32)
set_option maxHeartbeats 4000000 in
set_option maxRecDepth 100000 in
theorem c_X9_kindOf {l : Launch} {D : va_G} {cy : Nat → ClassId} {h : Hs} {a0 : Nat} {p1 : Int32} {M : Mm} {z : Int32} (hf : f_X9_kindOf h a0 p1 M = some z) : CtI l D cy yX9_kindOf (wu yX9_kindOf cX9_kindOf 2 (some .int)) ({ frames := 1, cells := 0, slots := 0, locals := 20 }) [.ref a0, .int p1] h M z M := by
  refine enterI (cc := cX9_kindOf) (maxL := 2) (ret := (some .int)) (by decide) (Nat.le_of_ble_eq_true rfl) ?_
  intro p e s m args below meth c A ls X hw hr hlk hl
  have hl : lv_has ls 2 [(0, .ref a0), (1, .int p1)] := hl
  unfold f_X9_kindOf at hf
  refine lv_iload_n X.1.1 X.1.2.1 dX9_kindOf_0 rfl (lv_at hl 1 rfl) ?_
  obtain ⟨z1, ez1, hf⟩ := obd hf
  refine r_callSI (As := [.int p1]) (rest := []) X hw (c_X9_no ez1) (va_cwS 1 X.1.2.2.2.2 (guS um_X9_71 ut_X9_no un_X9 uo_X9_no) rfl rfl rfl (by decide +kernel) ⟨Nat.le_of_ble_eq_true rfl, Nat.le_of_ble_eq_true rfl⟩) rfl hl.1 rfl (Nat.le_of_ble_eq_true rfl) dX9_kindOf_1 ⟨Nat.zero_le _, Nat.zero_le _⟩ (fun H locs hw => ?_)
  refine lv_if_eq (tgt := 12) X.1.1 X.1.2.1 dX9_kindOf_4 (by decide) (fun c_2 => ?_) (fun c_2 => ?_)
  · skip
    rw [if_pos c_2] at hf
    refine lv_aload_n X.1.1 X.1.2.1 dX9_kindOf_12 rfl (lv_at hl 0 rfl) ?_
    obtain ⟨g_a0, hf⟩ := ogd hf
    obtain ⟨q3, eq3, hf⟩ := odq hf
    refine r_getq (k := 9) (j := 1) X hw rfl inX9 g_a0 rfl (by decide) (by decide) uf_X9_13 rfl dX9_kindOf_13 eq3 ?_
    refine lv_sipush (v := (404 : Int32)) X.1.1 X.1.2.1 dX9_kindOf_16 (by decide) ?_
    refine lv_iload_n X.1.1 X.1.2.1 dX9_kindOf_19 rfl (lv_at hl 1 rfl) ?_
    refine lv_imul X.1.1 X.1.2.1 dX9_kindOf_20 ?_
    obtain ⟨g_q3, hf⟩ := ogd hf
    obtain ⟨i_4, hf⟩ := ogd hf
    refine r_iald X hw g_q3 i_4 dX9_kindOf_21 ?_
    cases hf
    exact r_retI X hw hr hlk rfl dX9_kindOf_22
  · skip
    rw [if_neg c_2] at hf
    refine lv_bipush (v := (-2 : Int32)) X.1.1 X.1.2.1 dX9_kindOf_7 (by decide) ?_
    refine lv_goto (tgt := 22) X.1.1 X.1.2.1 dX9_kindOf_9 (by decide) ?_
    cases hf
    exact r_retI X hw hr hlk rfl dX9_kindOf_22
/-! X9_kind -/
def f_X9_kind (h : Hs) (a0 : Nat) (p1 : Int32) (M : Mm) : Option (Int32 × Mm) :=
  gd (ok h a0 9) <|
  lt_ (sI M a0 0 (0 : Int32)) fun M1 =>
  (f_X9_kindOf h a0 p1 M1).bind fun z2 =>
  some (z2, M1)
set_option maxHeartbeats 4000000 in
set_option maxRecDepth 100000 in
theorem c_X9_kind {l : Launch} {D : va_G} {cy : Nat → ClassId} {h : Hs} {a0 : Nat} {p1 : Int32} {M : Mm} {z : (Int32 × Mm)} (hf : f_X9_kind h a0 p1 M = some z) : CtI l D cy yX9_kind (wu yX9_kind cX9_kind 2 (some .int)) ({ frames := 2, cells := 0, slots := 0, locals := 41 }) [.ref a0, .int p1] h M z.1 z.2 := by
  refine enterI (cc := cX9_kind) (maxL := 2) (ret := (some .int)) (by decide) (Nat.le_of_ble_eq_true rfl) ?_
  intro p e s m args below meth c A ls X hw hr hlk hl
  have hl : lv_has ls 2 [(0, .ref a0), (1, .int p1)] := hl
  unfold f_X9_kind at hf
  refine lv_aload_n X.1.1 X.1.2.1 dX9_kind_0 rfl (lv_at hl 0 rfl) ?_
  refine lv_iconst (v := (0 : Int32)) X.1.1 X.1.2.1 dX9_kind_1 (by decide) ?_
  obtain ⟨g_a0, hf⟩ := ogd hf
  refine r_puti (k := 9) (j := 0) X hw rfl inX9 tyX9_ok nmX9 g_a0 rfl (by decide) (by decide) uf_X9_1 rfl rfl rfl rfl dX9_kind_2 (fun H locs hw => ?_)
  obtain ⟨M1, eM1, hf⟩ := olt hf
  rw [← eM1] at hw
  refine lv_aload_n X.1.1 X.1.2.1 dX9_kind_5 rfl (lv_at hl 0 rfl) ?_
  refine lv_iload_n X.1.1 X.1.2.1 dX9_kind_6 rfl (lv_at hl 1 rfl) ?_
  obtain ⟨z2, ez2, hf⟩ := obd hf
  refine r_callVI (As := [.int p1]) (rest := []) X hw (c_X9_kindOf ez2) (cwV 1 X.1.2.2.2.2 (guV um_X9_79 ui_X9_kindOf us_X9_kindOf un_X9 uo_X9_kindOf) rfl rfl rfl (by decide +kernel) ⟨Nat.le_of_ble_eq_true rfl, Nat.le_of_ble_eq_true rfl⟩) g_a0 (by decide) rfl rfl hl.1 rfl (Nat.le_of_ble_eq_true rfl) dX9_kind_7 ⟨Nat.zero_le _, Nat.zero_le _⟩ (fun H locs hw => ?_)
  cases hf
  exact r_retI (v := z2) X hw hr hlk rfl dX9_kind_10
/-! X9_isGauge -/
def f_X9_isGauge (h : Hs) (a0 : Nat) (p1 : Int32) (M : Mm) : Option Int32 :=
  gd (ok h a0 9) <|
  (f_X9_kindOf h a0 p1 M).bind fun z1 =>
  if z1 < 0 then
    some (0 : Int32)
  else
    (f_X9_kindOf h a0 p1 M).bind fun z3 =>
    if (4 : Int32) < z3 then
      some (0 : Int32)
    else
      some (1 : Int32)
set_option maxHeartbeats 4000000 in
set_option maxRecDepth 100000 in
theorem c_X9_isGauge {l : Launch} {D : va_G} {cy : Nat → ClassId} {h : Hs} {a0 : Nat} {p1 : Int32} {M : Mm} {z : Int32} (hf : f_X9_isGauge h a0 p1 M = some z) : CtI l D cy yX9_isGauge (wu yX9_isGauge cX9_isGauge 2 (some .boolean)) ({ frames := 2, cells := 0, slots := 0, locals := 41 }) [.ref a0, .int p1] h M z M := by
  refine enterI (cc := cX9_isGauge) (maxL := 2) (ret := (some .boolean)) (by decide) (Nat.le_of_ble_eq_true rfl) ?_
  intro p e s m args below meth c A ls X hw hr hlk hl
  have hl : lv_has ls 2 [(0, .ref a0), (1, .int p1)] := hl
  unfold f_X9_isGauge at hf
  refine lv_aload_n X.1.1 X.1.2.1 dX9_isGauge_0 rfl (lv_at hl 0 rfl) ?_
  refine lv_iload_n X.1.1 X.1.2.1 dX9_isGauge_1 rfl (lv_at hl 1 rfl) ?_
  obtain ⟨g_a0, hf⟩ := ogd hf
  obtain ⟨z1, ez1, hf⟩ := obd hf
  refine r_callVI (As := [.int p1]) (rest := []) X hw (c_X9_kindOf ez1) (cwV 1 X.1.2.2.2.2 (guV um_X9_79 ui_X9_kindOf us_X9_kindOf un_X9 uo_X9_kindOf) rfl rfl rfl (by decide +kernel) ⟨Nat.le_of_ble_eq_true rfl, Nat.le_of_ble_eq_true rfl⟩) g_a0 (by decide) rfl rfl hl.1 rfl (Nat.le_of_ble_eq_true rfl) dX9_isGauge_2 ⟨Nat.zero_le _, Nat.zero_le _⟩ (fun H locs hw => ?_)
  refine lv_if_lt (tgt := 21) X.1.1 X.1.2.1 dX9_isGauge_5 (by decide) (fun c_2 => ?_) (fun c_2 => ?_)
  · skip
    rw [if_pos c_2] at hf
    refine lv_iconst (v := (0 : Int32)) X.1.1 X.1.2.1 dX9_isGauge_21 (by decide) ?_
    cases hf
    exact r_retI X hw hr hlk rfl dX9_isGauge_22
  · skip
    rw [if_neg c_2] at hf
    refine lv_aload_n X.1.1 X.1.2.1 dX9_isGauge_8 rfl (lv_at hl 0 rfl) ?_
    refine lv_iload_n X.1.1 X.1.2.1 dX9_isGauge_9 rfl (lv_at hl 1 rfl) ?_
    obtain ⟨z3, ez3, hf⟩ := obd hf
    refine r_callVI (As := [.int p1]) (rest := []) X hw (c_X9_kindOf ez3) (cwV 1 X.1.2.2.2.2 (guV um_X9_79 ui_X9_kindOf us_X9_kindOf un_X9 uo_X9_kindOf) rfl rfl rfl (by decide +kernel) ⟨Nat.le_of_ble_eq_true rfl, Nat.le_of_ble_eq_true rfl⟩) g_a0 (by decide) rfl rfl hl.1 rfl (Nat.le_of_ble_eq_true rfl) dX9_isGauge_10 ⟨Nat.zero_le _, Nat.zero_le _⟩ (fun H locs hw => ?_)
    refine lv_iconst (v := (4 : Int32)) X.1.1 X.1.2.1 dX9_isGauge_13 (by decide) ?_
    refine lv_icmp_gt (tgt := 21) X.1.1 X.1.2.1 dX9_isGauge_14 (by decide) (fun c_4 => ?_) (fun c_4 => ?_)
    · skip
      rw [if_pos c_4] at hf
      refine lv_iconst (v := (0 : Int32)) X.1.1 X.1.2.1 dX9_isGauge_21 (by decide) ?_
      cases hf
      exact r_retI X hw hr hlk rfl dX9_isGauge_22
    · skip
      rw [if_neg c_4] at hf
      refine lv_iconst (v := (1 : Int32)) X.1.1 X.1.2.1 dX9_isGauge_17 (by decide) ?_
      refine lv_goto (tgt := 22) X.1.1 X.1.2.1 dX9_isGauge_18 (by decide) ?_
      cases hf
      exact r_retI X hw hr hlk rfl dX9_isGauge_22
/-! X9_isOwn -/
def f_X9_isOwn (h : Hs) (a0 : Nat) (p1 : Int32) (M : Mm) : Option Int32 :=
  gd (ok h a0 9) <|
  (f_X9_kindOf h a0 p1 M).bind fun z1 =>
  if z1 < 0 then
    some (0 : Int32)
  else
    (f_X9_kindOf h a0 p1 M).bind fun z3 =>
    if (4 : Int32) ≤ z3 then
      some (0 : Int32)
    else
      some (1 : Int32)
set_option maxHeartbeats 4000000 in
set_option maxRecDepth 100000 in
theorem c_X9_isOwn {l : Launch} {D : va_G} {cy : Nat → ClassId} {h : Hs} {a0 : Nat} {p1 : Int32} {M : Mm} {z : Int32} (hf : f_X9_isOwn h a0 p1 M = some z) : CtI l D cy yX9_isOwn (wu yX9_isOwn cX9_isOwn 2 (some .boolean)) ({ frames := 2, cells := 0, slots := 0, locals := 41 }) [.ref a0, .int p1] h M z M := by
  refine enterI (cc := cX9_isOwn) (maxL := 2) (ret := (some .boolean)) (by decide) (Nat.le_of_ble_eq_true rfl) ?_
  intro p e s m args below meth c A ls X hw hr hlk hl
  have hl : lv_has ls 2 [(0, .ref a0), (1, .int p1)] := hl
  unfold f_X9_isOwn at hf
  refine lv_aload_n X.1.1 X.1.2.1 dX9_isOwn_0 rfl (lv_at hl 0 rfl) ?_
  refine lv_iload_n X.1.1 X.1.2.1 dX9_isOwn_1 rfl (lv_at hl 1 rfl) ?_
  obtain ⟨g_a0, hf⟩ := ogd hf
  obtain ⟨z1, ez1, hf⟩ := obd hf
  refine r_callVI (As := [.int p1]) (rest := []) X hw (c_X9_kindOf ez1) (cwV 1 X.1.2.2.2.2 (guV um_X9_79 ui_X9_kindOf us_X9_kindOf un_X9 uo_X9_kindOf) rfl rfl rfl (by decide +kernel) ⟨Nat.le_of_ble_eq_true rfl, Nat.le_of_ble_eq_true rfl⟩) g_a0 (by decide) rfl rfl hl.1 rfl (Nat.le_of_ble_eq_true rfl) dX9_isOwn_2 ⟨Nat.zero_le _, Nat.zero_le _⟩ (fun H locs hw => ?_)
  refine lv_if_lt (tgt := 21) X.1.1 X.1.2.1 dX9_isOwn_5 (by decide) (fun c_2 => ?_) (fun c_2 => ?_)
  · skip
    rw [if_pos c_2] at hf
    refine lv_iconst (v := (0 : Int32)) X.1.1 X.1.2.1 dX9_isOwn_21 (by decide) ?_
    cases hf
    exact r_retI X hw hr hlk rfl dX9_isOwn_22
  · skip
    rw [if_neg c_2] at hf
    refine lv_aload_n X.1.1 X.1.2.1 dX9_isOwn_8 rfl (lv_at hl 0 rfl) ?_
    refine lv_iload_n X.1.1 X.1.2.1 dX9_isOwn_9 rfl (lv_at hl 1 rfl) ?_
    obtain ⟨z3, ez3, hf⟩ := obd hf
    refine r_callVI (As := [.int p1]) (rest := []) X hw (c_X9_kindOf ez3) (cwV 1 X.1.2.2.2.2 (guV um_X9_79 ui_X9_kindOf us_X9_kindOf un_X9 uo_X9_kindOf) rfl rfl rfl (by decide +kernel) ⟨Nat.le_of_ble_eq_true rfl, Nat.le_of_ble_eq_true rfl⟩) g_a0 (by decide) rfl rfl hl.1 rfl (Nat.le_of_ble_eq_true rfl) dX9_isOwn_10 ⟨Nat.zero_le _, Nat.zero_le _⟩ (fun H locs hw => ?_)
    refine lv_iconst (v := (4 : Int32)) X.1.1 X.1.2.1 dX9_isOwn_13 (by decide) ?_
    refine lv_icmp_ge (tgt := 21) X.1.1 X.1.2.1 dX9_isOwn_14 (by decide) (fun c_4 => ?_) (fun c_4 => ?_)
    · skip
      rw [if_pos c_4] at hf
      refine lv_iconst (v := (0 : Int32)) X.1.1 X.1.2.1 dX9_isOwn_21 (by decide) ?_
      cases hf
      exact r_retI X hw hr hlk rfl dX9_isOwn_22
    · skip
      rw [if_neg c_4] at hf
      refine lv_iconst (v := (1 : Int32)) X.1.1 X.1.2.1 dX9_isOwn_17 (by decide) ?_
      refine lv_goto (tgt := 22) X.1.1 X.1.2.1 dX9_isOwn_18 (by decide) ?_
      cases hf
      exact r_retI X hw hr hlk rfl dX9_isOwn_22
/-! X9_spans -/
def f_X9_spans (h : Hs) (a0 : Nat) (p1 : Int32) (M : Mm) : Option Int32 :=
  gd (ok h a0 9) <|
  (f_X9_kindOf h a0 p1 M).bind fun z1 =>
  if z1 = (4 : Int32) then
    dq (zR h a0 1) fun q3 =>
    gd (ok h q3 11) <|
    gd (inb (((404 : Int32) * p1) + (1 : Int32)) (zN h q3)) <|
    lt_ (zI M q3 (((404 : Int32) * p1) + (1 : Int32)).toNatClampNeg) fun x5 =>
    gd (inb (((404 : Int32) * p1) + (2 : Int32)) (zN h q3)) <|
    lt_ (zI M q3 (((404 : Int32) * p1) + (2 : Int32)).toNatClampNeg) fun x7 =>
    (f_X9_isOwn h a0 x5 M).bind fun z8 =>
    if z8 = 0 then
      some (0 : Int32)
    else
      (f_X9_isOwn h a0 x7 M).bind fun z10 =>
      if ¬ z10 = 0 then
        gd (inb (((404 : Int32) * x5) + (3 : Int32)) (zN h q3)) <|
        lt_ (zI M q3 (((404 : Int32) * x5) + (3 : Int32)).toNatClampNeg) fun x13 =>
        gd (inb (((404 : Int32) * x7) + (3 : Int32)) (zN h q3)) <|
        lt_ (zI M q3 (((404 : Int32) * x7) + (3 : Int32)).toNatClampNeg) fun x15 =>
        if x15 ≤ x13 then
          some x15
        else
          some x13
      else
        some (0 : Int32)
  else
    dq (zR h a0 1) fun q17 =>
    gd (ok h q17 11) <|
    gd (inb (((404 : Int32) * p1) + (3 : Int32)) (zN h q17)) <|
    some (zI M q17 (((404 : Int32) * p1) + (3 : Int32)).toNatClampNeg)
set_option maxHeartbeats 4000000 in
set_option maxRecDepth 100000 in
theorem c_X9_spans {l : Launch} {D : va_G} {cy : Nat → ClassId} {h : Hs} {a0 : Nat} {p1 : Int32} {M : Mm} {z : Int32} (hf : f_X9_spans h a0 p1 M = some z) : CtI l D cy yX9_spans (wu yX9_spans cX9_spans 6 (some .int)) ({ frames := 3, cells := 0, slots := 0, locals := 62 }) [.ref a0, .int p1] h M z M := by
  refine enterI (cc := cX9_spans) (maxL := 6) (ret := (some .int)) (by decide) (Nat.le_of_ble_eq_true rfl) ?_
  intro p e s m args below meth c A ls X hw hr hlk hl
  have hl : lv_has ls 6 [(0, .ref a0), (1, .int p1)] := hl
  unfold f_X9_spans at hf
  refine lv_aload_n X.1.1 X.1.2.1 dX9_spans_0 rfl (lv_at hl 0 rfl) ?_
  refine lv_iload_n X.1.1 X.1.2.1 dX9_spans_1 rfl (lv_at hl 1 rfl) ?_
  obtain ⟨g_a0, hf⟩ := ogd hf
  obtain ⟨z1, ez1, hf⟩ := obd hf
  refine r_callVI (As := [.int p1]) (rest := []) X hw (c_X9_kindOf ez1) (cwV 1 X.1.2.2.2.2 (guV um_X9_79 ui_X9_kindOf us_X9_kindOf un_X9 uo_X9_kindOf) rfl rfl rfl (by decide +kernel) ⟨Nat.le_of_ble_eq_true rfl, Nat.le_of_ble_eq_true rfl⟩) g_a0 (by decide) rfl rfl hl.1 rfl (Nat.le_of_ble_eq_true rfl) dX9_spans_2 ⟨Nat.zero_le _, Nat.zero_le _⟩ (fun H locs hw => ?_)
  refine lv_iconst (v := (4 : Int32)) X.1.1 X.1.2.1 dX9_spans_5 (by decide) ?_
  refine lv_icmp_eq (tgt := 22) X.1.1 X.1.2.1 dX9_spans_6 (by decide) (fun c_2 => ?_) (fun c_2 => ?_)
  · skip
    rw [if_pos c_2] at hf
    refine lv_aload_n X.1.1 X.1.2.1 dX9_spans_22 rfl (lv_at hl 0 rfl) ?_
    obtain ⟨q3, eq3, hf⟩ := odq hf
    refine r_getq (k := 9) (j := 1) X hw rfl inX9 g_a0 rfl (by decide) (by decide) uf_X9_13 rfl dX9_spans_23 eq3 ?_
    refine lv_sipush (v := (404 : Int32)) X.1.1 X.1.2.1 dX9_spans_26 (by decide) ?_
    refine lv_iload_n X.1.1 X.1.2.1 dX9_spans_29 rfl (lv_at hl 1 rfl) ?_
    refine lv_imul X.1.1 X.1.2.1 dX9_spans_30 ?_
    refine lv_iconst (v := (1 : Int32)) X.1.1 X.1.2.1 dX9_spans_31 (by decide) ?_
    refine lv_iadd X.1.1 X.1.2.1 dX9_spans_32 ?_
    obtain ⟨g_q3, hf⟩ := ogd hf
    obtain ⟨i_4, hf⟩ := ogd hf
    refine r_iald X hw g_q3 i_4 dX9_spans_33 ?_
    refine lv_topi (fun x5 ex5 => ?_)
    have hf := oltE ex5 hf
    refine lv_istore_n (lv' := [(2, .int x5), (0, .ref a0), (1, .int p1)]) X.1.1 X.1.2.1 dX9_spans_34 rfl hl (by decide) rfl (fun ls hl => ?_)
    refine lv_aload_n X.1.1 X.1.2.1 dX9_spans_35 rfl (lv_at hl 1 rfl) ?_
    refine r_getq (k := 9) (j := 1) X hw rfl inX9 g_a0 rfl (by decide) (by decide) uf_X9_13 rfl dX9_spans_36 eq3 ?_
    refine lv_sipush (v := (404 : Int32)) X.1.1 X.1.2.1 dX9_spans_39 (by decide) ?_
    refine lv_iload_n X.1.1 X.1.2.1 dX9_spans_42 rfl (lv_at hl 2 rfl) ?_
    refine lv_imul X.1.1 X.1.2.1 dX9_spans_43 ?_
    refine lv_iconst (v := (2 : Int32)) X.1.1 X.1.2.1 dX9_spans_44 (by decide) ?_
    refine lv_iadd X.1.1 X.1.2.1 dX9_spans_45 ?_
    obtain ⟨i_6, hf⟩ := ogd hf
    refine r_iald X hw g_q3 i_6 dX9_spans_46 ?_
    refine lv_topi (fun x7 ex7 => ?_)
    have hf := oltE ex7 hf
    refine lv_istore_n (lv' := [(3, .int x7), (2, .int x5), (0, .ref a0), (1, .int p1)]) X.1.1 X.1.2.1 dX9_spans_47 rfl hl (by decide) rfl (fun ls hl => ?_)
    refine lv_aload_n X.1.1 X.1.2.1 dX9_spans_48 rfl (lv_at hl 2 rfl) ?_
    refine lv_iload_n X.1.1 X.1.2.1 dX9_spans_49 rfl (lv_at hl 1 rfl) ?_
    obtain ⟨z8, ez8, hf⟩ := obd hf
    refine r_callVI (As := [.int x5]) (rest := []) X hw (c_X9_isOwn ez8) (cwV 1 X.1.2.2.2.2 (guV um_X9_83 ui_X9_isOwn us_X9_isOwn un_X9 uo_X9_isOwn) rfl rfl rfl (by decide +kernel) ⟨Nat.le_of_ble_eq_true rfl, Nat.le_of_ble_eq_true rfl⟩) g_a0 (by decide) rfl rfl hl.1 rfl (Nat.le_of_ble_eq_true rfl) dX9_spans_50 ⟨Nat.zero_le _, Nat.zero_le _⟩ (fun H locs hw => ?_)
    refine lv_if_eq (tgt := 64) X.1.1 X.1.2.1 dX9_spans_53 (by decide) (fun c_9 => ?_) (fun c_9 => ?_)
    · skip
      rw [if_pos c_9] at hf
      refine lv_iconst (v := (0 : Int32)) X.1.1 X.1.2.1 dX9_spans_64 (by decide) ?_
      cases hf
      exact r_retI X hw hr hlk rfl dX9_spans_65
    · skip
      rw [if_neg c_9] at hf
      refine lv_aload_n X.1.1 X.1.2.1 dX9_spans_56 rfl (lv_at hl 2 rfl) ?_
      refine lv_iload_n X.1.1 X.1.2.1 dX9_spans_57 rfl (lv_at hl 0 rfl) ?_
      obtain ⟨z10, ez10, hf⟩ := obd hf
      refine r_callVI (As := [.int x7]) (rest := []) X hw (c_X9_isOwn ez10) (cwV 1 X.1.2.2.2.2 (guV um_X9_83 ui_X9_isOwn us_X9_isOwn un_X9 uo_X9_isOwn) rfl rfl rfl (by decide +kernel) ⟨Nat.le_of_ble_eq_true rfl, Nat.le_of_ble_eq_true rfl⟩) g_a0 (by decide) rfl rfl hl.1 rfl (Nat.le_of_ble_eq_true rfl) dX9_spans_58 ⟨Nat.zero_le _, Nat.zero_le _⟩ (fun H locs hw => ?_)
      refine lv_if_ne (tgt := 66) X.1.1 X.1.2.1 dX9_spans_61 (by decide) (fun c_11 => ?_) (fun c_11 => ?_)
      · skip
        rw [if_pos c_11] at hf
        refine lv_aload_n X.1.1 X.1.2.1 dX9_spans_66 rfl (lv_at hl 2 rfl) ?_
        refine r_getq (k := 9) (j := 1) X hw rfl inX9 g_a0 rfl (by decide) (by decide) uf_X9_13 rfl dX9_spans_67 eq3 ?_
        refine lv_sipush (v := (404 : Int32)) X.1.1 X.1.2.1 dX9_spans_70 (by decide) ?_
        refine lv_iload_n X.1.1 X.1.2.1 dX9_spans_73 rfl (lv_at hl 1 rfl) ?_
        refine lv_imul X.1.1 X.1.2.1 dX9_spans_74 ?_
        refine lv_iconst (v := (3 : Int32)) X.1.1 X.1.2.1 dX9_spans_75 (by decide) ?_
        refine lv_iadd X.1.1 X.1.2.1 dX9_spans_76 ?_
        obtain ⟨i_12, hf⟩ := ogd hf
        refine r_iald X hw g_q3 i_12 dX9_spans_77 ?_
        refine lv_topi (fun x13 ex13 => ?_)
        have hf := oltE ex13 hf
        refine lv_istore (lv' := [(4, .int x13), (3, .int x7), (2, .int x5), (0, .ref a0), (1, .int p1)]) X.1.1 X.1.2.1 dX9_spans_78 hl (by decide) rfl (fun ls hl => ?_)
        refine lv_aload_n X.1.1 X.1.2.1 dX9_spans_80 rfl (lv_at hl 3 rfl) ?_
        refine r_getq (k := 9) (j := 1) X hw rfl inX9 g_a0 rfl (by decide) (by decide) uf_X9_13 rfl dX9_spans_81 eq3 ?_
        refine lv_sipush (v := (404 : Int32)) X.1.1 X.1.2.1 dX9_spans_84 (by decide) ?_
        refine lv_iload_n X.1.1 X.1.2.1 dX9_spans_87 rfl (lv_at hl 1 rfl) ?_
        refine lv_imul X.1.1 X.1.2.1 dX9_spans_88 ?_
        refine lv_iconst (v := (3 : Int32)) X.1.1 X.1.2.1 dX9_spans_89 (by decide) ?_
        refine lv_iadd X.1.1 X.1.2.1 dX9_spans_90 ?_
        obtain ⟨i_14, hf⟩ := ogd hf
        refine r_iald X hw g_q3 i_14 dX9_spans_91 ?_
        refine lv_topi (fun x15 ex15 => ?_)
        have hf := oltE ex15 hf
        refine lv_istore (lv' := [(5, .int x15), (4, .int x13), (3, .int x7), (2, .int x5), (0, .ref a0), (1, .int p1)]) X.1.1 X.1.2.1 dX9_spans_92 hl (by decide) rfl (fun ls hl => ?_)
        refine lv_iload X.1.1 X.1.2.1 dX9_spans_94 (lv_at hl 1 rfl) ?_
        refine lv_iload X.1.1 X.1.2.1 dX9_spans_96 (lv_at hl 0 rfl) ?_
        refine lv_icmp_ge (tgt := 106) X.1.1 X.1.2.1 dX9_spans_98 (by decide) (fun c_16 => ?_) (fun c_16 => ?_)
        · skip
          rw [if_pos c_16] at hf
          refine lv_iload X.1.1 X.1.2.1 dX9_spans_106 (lv_at hl 0 rfl) ?_
          cases hf
          exact r_retI X hw hr hlk rfl dX9_spans_108
        · skip
          rw [if_neg c_16] at hf
          refine lv_iload X.1.1 X.1.2.1 dX9_spans_101 (lv_at hl 1 rfl) ?_
          refine lv_goto (tgt := 108) X.1.1 X.1.2.1 dX9_spans_103 (by decide) ?_
          cases hf
          exact r_retI X hw hr hlk rfl dX9_spans_108
      · skip
        rw [if_neg (fun z => z c_11)] at hf
        refine lv_iconst (v := (0 : Int32)) X.1.1 X.1.2.1 dX9_spans_64 (by decide) ?_
        cases hf
        exact r_retI X hw hr hlk rfl dX9_spans_65
  · skip
    rw [if_neg c_2] at hf
    refine lv_aload_n X.1.1 X.1.2.1 dX9_spans_9 rfl (lv_at hl 0 rfl) ?_
    obtain ⟨q17, eq17, hf⟩ := odq hf
    refine r_getq (k := 9) (j := 1) X hw rfl inX9 g_a0 rfl (by decide) (by decide) uf_X9_13 rfl dX9_spans_10 eq17 ?_
    refine lv_sipush (v := (404 : Int32)) X.1.1 X.1.2.1 dX9_spans_13 (by decide) ?_
    refine lv_iload_n X.1.1 X.1.2.1 dX9_spans_16 rfl (lv_at hl 1 rfl) ?_
    refine lv_imul X.1.1 X.1.2.1 dX9_spans_17 ?_
    refine lv_iconst (v := (3 : Int32)) X.1.1 X.1.2.1 dX9_spans_18 (by decide) ?_
    refine lv_iadd X.1.1 X.1.2.1 dX9_spans_19 ?_
    obtain ⟨g_q17, hf⟩ := ogd hf
    obtain ⟨i_18, hf⟩ := ogd hf
    refine r_iald X hw g_q17 i_18 dX9_spans_20 ?_
    cases hf
    exact r_retI X hw hr hlk rfl dX9_spans_21
