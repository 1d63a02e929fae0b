/-! the law's helpers: a call that may throw, its answer in out[0], 0; or 1 -/
def wuW (y : MethodName) (cc : ByteArray) (n : Nat) (ret : Option FieldType) (hh : List (Nat × Nat × Nat × Nat)) : List Cond := Cond.codeWith y cc n ret hh :: gtbl
def hI (ao : Nat) (z : Option Int32 × Mm) : Int32 × Mm := match z.1 with
  | some v => (0, sJ z.2 ao 0 v.toInt64)
  | none => (1, z.2)
def hJ (ao : Nat) (z : Option Int64 × Mm) : Int32 × Mm := match z.1 with
  | some v => (0, sJ z.2 ao 0 v)
  | none => (1, z.2)
def CtS (l : Launch) (D : va_G) (cy : Nat → ClassId) (y : MethodName) (ws : List Cond) (rm : Room) (As : List Value) (h : Hs) (M : Mm) (r : Int32) (M' : Mm) : Prop := ∀ sz : Nat, Met l y ws rm (va_Pc As (PCs D cy h M sz)) (va_Qi (fun (r2 : Int32) (_ : Unit) => r2 = r) (fun _ => PEs D cy (va_A (pool cy h M) sz) h M') (va_A (pool cy h M) sz)) 1 6 (va_A (pool cy h M) sz)
theorem uo_L_span : Cond.codeWith yL_span cL_span 5 (some .int) [(0, 10, 13, 13)] ∈ gtbl := tb3 217 (by decide +kernel) (by decide +kernel)
set_option maxHeartbeats 4000000 in
set_option maxRecDepth 100000 in
theorem c_L_span {l : Launch} (hst : l.stackTraces = false) {D : va_G} {cy : Nat → ClassId} {h : Hs} {a0 ao : Nat} {p1 : Int32} {p2 : Int32} {M : Mm} {z : Option Int32 × Mm} (g_a0 : ok h a0 8) (g_ao : ok h ao 12) (hlen : zN h ao = 1) (hf : f_X8_span h a0 p1 p2 M = some z) : CtS l D cy yL_span (wuW yL_span cL_span 5 (some .int) [(0, 10, 13, 13)]) ({ frames := 7, cells := 1, slots := 6, locals := 113 }) [.ref a0, .int p1, .int p2, .ref ao] h M (hI ao z).1 (hI ao z).2 := fun sz => by
  refine va_MetW (cc := cL_span) (maxL := 5) (ret := some .int) (hh := [(0, 10, 13, 13)]) (by decide) rfl ?_
  intro p e s m args below meth c s₁ B hml hv
  obtain ⟨rfl, hsz, hP, hK, hN, hD0, hF⟩ := hv
  have hts0 := atoms_spec (ws := wuW yL_span cL_span 5 (some .int) [(0, 10, 13, 13)]) B.pre
  have hts : ∀ w ∈ gtbl, w.before ([.ref a0, .int p1, .int p2, .ref ao] : List Value).toArray s = true := fun w hw => hts0 w (List.mem_cons_of_mem _ hw)
  have htab := vx_table (x := yL_span) B (hts0 _ List.mem_cons_self)
  have hown : s.vm.findClass RL = some m.cls := findClass_of_methodNamed B.named
  have hr := B.returns
  have hlk := B.notSynchronized
  subst hsz
  have hD := hD0.self (sz := s.heap.size)
  have hA : ∀ q : Nat, s.heap.size ≤ q → va_A (pool cy h M) s.heap.size q := fun q hq => Or.inr hq
  have hl := lv_entry [.ref a0, .int p1, .int p2, .ref ao] (n := 5) (Nat.le_of_ble_eq_true rfl)
  rw [lg_entry_eq]
  generalize (lg_sl [.ref a0, .int p1, .int p2, .ref ao] ++ List.replicate (5 - (lg_sl [.ref a0, .int p1, .int p2, .ref ao]).length) Slot.unset).toArray = ls at hl ⊢
  generalize va_A (pool cy h M) s.heap.size = A at hD hA hF ⊢
  have X : Cx p s m ([.ref a0, .int p1, .int p2, .ref ao] : List Value).toArray c cL_span 5 gtbl RL D cy A := ⟨⟨B.exec, B.bytes, hml, hown, hts⟩, hK, hN, hF⟩
  have hw : Wd D cy A s.heap h M s.heap [] := ⟨hP, hD, va_S.rf, hA⟩
  have hl : lv_has ls 5 [(0, .ref a0), (1, .int p1), (2, .int p2), (3, .ref ao)] := hl
  obtain ⟨H, hH⟩ : ∃ H, H = s.heap := ⟨_, rfl⟩
  have hw : Wd D cy A s.heap h M H [] := by rw [hH]; exact hw
  rw [← hH]
  refine lv_aload_n X.1.1 X.1.2.1 dL_span_0 rfl (lv_at hl 3 rfl) ?_
  refine lv_iconst (v := (0 : Int32)) X.1.1 X.1.2.1 dL_span_1 (by decide) ?_
  refine lv_aload_n X.1.1 X.1.2.1 dL_span_2 rfl (lv_at hl 0 rfl) ?_
  refine lv_iload_n X.1.1 X.1.2.1 dL_span_3 rfl (lv_at hl 1 rfl) ?_
  refine lv_iload_n X.1.1 X.1.2.1 dL_span_4 rfl (lv_at hl 2 rfl) ?_
  refine vx_calli (vx_runV (As := [.int p1, .int p2]) (rest := [.int (0 : Int32), .ref ao]) X.1 (c_X8_span hst hf H.size) (cwV 2 X.1.2.2.2.2 (guV um_L_7 ui_X8_span us_X8_span un_X8 uo_X8_span) rfl rfl rfl (by decide +kernel) ⟨Nat.le_of_ble_eq_true rfl, Nat.le_of_ble_eq_true rfl⟩) ⟨PCs.blind, hw.recv X g_a0 (by decide) rfl, fun U hU hW => PCs.of X hw hU hW⟩ rfl rfl hl.1 rfl (lv_room (Nat.le_of_ble_eq_true rfl)) dL_span_5 ⟨Nat.le_of_ble_eq_true rfl, Nat.le_of_ble_eq_true rfl⟩) hw.2.2.1 (fun q _ z => hw.free q z) hw.free (fun q _ z => hw.free q z) (fun E ce q9 u t H1 locs1 ht hvm hr0 hB _ _ hS hce hcv hcl => ?_) (fun r2 u t H1 locs1 ht hvm hr0 hB _ _ hS => ?_)
  · obtain ⟨rfl, hE⟩ := hB
    have hw1 : Wd D cy A s.heap h z.2 H1 locs1 := hw.next ht hE hS
    refine vx_catch X.1.2.2.2.1 [] _ [] htab (fun z q => nomatch q) (by decide) (by decide) (X.1.2.2.2.2 _ ul_L_13) (va_Nw.use rfl (X.2.2.1.1 _ (List.mem_of_getElem? (i := 13) rfl))) hce hcv hcl ?_
    refine lv_astore (lv' := [(4, .ref q9), (0, .ref a0), (1, .int p1), (2, .int p2), (3, .ref ao)]) X.1.1 X.1.2.1 dL_span_13 hl (by decide) rfl (fun ls hl => ?_)
    refine lv_iconst (v := (1 : Int32)) X.1.1 X.1.2.1 dL_span_15 (by decide) ?_
    have e1 : (hI ao z) = (1, z.2) := by unfold hI; rw [hr0]
    rw [e1]
    exact W.zret (v := (1 : Int32)) X.1.1 X.1.2.1 hr rfl (fun t ht hW => ⟨⟨(1 : Int32), (), rfl, rfl, by rw [ht]; exact hw1.1, va_K.moved hW.alike X.2.1, hw1.2.1⟩, hw1.2.2.1.F ht⟩) hw1.2.2.1.2.2 dL_span_16 hlk
  · have hw1 : Wd D cy A s.heap h z.2 H1 locs1 := hw.next ht hB hS
    refine lv_i2l X.1.1 X.1.2.1 dL_span_8 rfl ?_
    refine r_last X hw1 g_ao (by rw [hlen]; decide) dL_span_9 (fun H locs hw => ?_)
    have hw : Wd D cy A s.heap h (sJ z.2 ao 0 r2.toInt64) H locs := hw
    refine lv_goto (tgt := 17) X.1.1 X.1.2.1 dL_span_10 (by decide) ?_
    refine lv_iconst (v := (0 : Int32)) X.1.1 X.1.2.1 dL_span_17 (by decide) ?_
    have e1 : (hI ao z) = (0, sJ z.2 ao 0 r2.toInt64) := by unfold hI; rw [hr0]
    rw [e1]
    exact W.zret (v := (0 : Int32)) X.1.1 X.1.2.1 hr rfl (fun t ht hW => ⟨⟨(0 : Int32), (), rfl, rfl, by rw [ht]; exact hw.1, va_K.moved hW.alike X.2.1, hw.2.1⟩, hw.2.2.1.F ht⟩) hw.2.2.1.2.2 dL_span_18 hlk
theorem uo_L_turn : Cond.codeWith yL_turn cL_turn 6 (some .int) [(0, 12, 15, 13)] ∈ gtbl := tb4 51 (by decide +kernel) (by decide +kernel)
set_option maxHeartbeats 4000000 in
set_option maxRecDepth 100000 in
theorem c_L_turn {l : Launch} (hst : l.stackTraces = false) {D : va_G} {cy : Nat → ClassId} {h : Hs} {a0 ao : Nat} {p1 : Int32} {p2 : Int32} {p3 : Int32} {M : Mm} {z : Option Int32 × Mm} (g_a0 : ok h a0 8) (g_ao : ok h ao 12) (hlen : zN h ao = 1) (hf : f_X8_turn h a0 p1 p2 p3 M = some z) : CtS l D cy yL_turn (wuW yL_turn cL_turn 6 (some .int) [(0, 12, 15, 13)]) ({ frames := 7, cells := 1, slots := 6, locals := 140 }) [.ref a0, .int p1, .int p2, .int p3, .ref ao] h M (hI ao z).1 (hI ao z).2 := fun sz => by
  refine va_MetW (cc := cL_turn) (maxL := 6) (ret := some .int) (hh := [(0, 12, 15, 13)]) (by decide) rfl ?_
  intro p e s m args below meth c s₁ B hml hv
  obtain ⟨rfl, hsz, hP, hK, hN, hD0, hF⟩ := hv
  have hts0 := atoms_spec (ws := wuW yL_turn cL_turn 6 (some .int) [(0, 12, 15, 13)]) B.pre
  have hts : ∀ w ∈ gtbl, w.before ([.ref a0, .int p1, .int p2, .int p3, .ref ao] : List Value).toArray s = true := fun w hw => hts0 w (List.mem_cons_of_mem _ hw)
  have htab := vx_table (x := yL_span) B (hts0 _ List.mem_cons_self)
  have hown : s.vm.findClass RL = some m.cls := findClass_of_methodNamed B.named
  have hr := B.returns
  have hlk := B.notSynchronized
  subst hsz
  have hD := hD0.self (sz := s.heap.size)
  have hA : ∀ q : Nat, s.heap.size ≤ q → va_A (pool cy h M) s.heap.size q := fun q hq => Or.inr hq
  have hl := lv_entry [.ref a0, .int p1, .int p2, .int p3, .ref ao] (n := 6) (Nat.le_of_ble_eq_true rfl)
  rw [lg_entry_eq]
  generalize (lg_sl [.ref a0, .int p1, .int p2, .int p3, .ref ao] ++ List.replicate (6 - (lg_sl [.ref a0, .int p1, .int p2, .int p3, .ref ao]).length) Slot.unset).toArray = ls at hl ⊢
  generalize va_A (pool cy h M) s.heap.size = A at hD hA hF ⊢
  have X : Cx p s m ([.ref a0, .int p1, .int p2, .int p3, .ref ao] : List Value).toArray c cL_turn 6 gtbl RL D cy A := ⟨⟨B.exec, B.bytes, hml, hown, hts⟩, hK, hN, hF⟩
  have hw : Wd D cy A s.heap h M s.heap [] := ⟨hP, hD, va_S.rf, hA⟩
  have hl : lv_has ls 6 [(0, .ref a0), (1, .int p1), (2, .int p2), (3, .int p3), (4, .ref ao)] := hl
  obtain ⟨H, hH⟩ : ∃ H, H = s.heap := ⟨_, rfl⟩
  have hw : Wd D cy A s.heap h M H [] := by rw [hH]; exact hw
  rw [← hH]
  refine lv_aload X.1.1 X.1.2.1 dL_turn_0 (lv_at hl 4 rfl) ?_
  refine lv_iconst (v := (0 : Int32)) X.1.1 X.1.2.1 dL_turn_2 (by decide) ?_
  refine lv_aload_n X.1.1 X.1.2.1 dL_turn_3 rfl (lv_at hl 0 rfl) ?_
  refine lv_iload_n X.1.1 X.1.2.1 dL_turn_4 rfl (lv_at hl 1 rfl) ?_
  refine lv_iload_n X.1.1 X.1.2.1 dL_turn_5 rfl (lv_at hl 2 rfl) ?_
  refine lv_iload_n X.1.1 X.1.2.1 dL_turn_6 rfl (lv_at hl 3 rfl) ?_
  refine vx_calli (vx_runV (As := [.int p1, .int p2, .int p3]) (rest := [.int (0 : Int32), .ref ao]) X.1 (c_X8_turn hst hf H.size) (cwV 3 X.1.2.2.2.2 (guV um_L_15 ui_X8_turn us_X8_turn un_X8 uo_X8_turn) rfl rfl rfl (by decide +kernel) ⟨Nat.le_of_ble_eq_true rfl, Nat.le_of_ble_eq_true rfl⟩) ⟨PCs.blind, hw.recv X g_a0 (by decide) rfl, fun U hU hW => PCs.of X hw hU hW⟩ rfl rfl hl.1 rfl (lv_room (Nat.le_of_ble_eq_true rfl)) dL_turn_7 ⟨Nat.le_of_ble_eq_true rfl, Nat.le_of_ble_eq_true rfl⟩) hw.2.2.1 (fun q _ z => hw.free q z) hw.free (fun q _ z => hw.free q z) (fun E ce q9 u t H1 locs1 ht hvm hr0 hB _ _ hS hce hcv hcl => ?_) (fun r2 u t H1 locs1 ht hvm hr0 hB _ _ hS => ?_)
  · obtain ⟨rfl, hE⟩ := hB
    have hw1 : Wd D cy A s.heap h z.2 H1 locs1 := hw.next ht hE hS
    refine vx_catch X.1.2.2.2.1 [] _ [] htab (fun z q => nomatch q) (by decide) (by decide) (X.1.2.2.2.2 _ ul_L_13) (va_Nw.use rfl (X.2.2.1.1 _ (List.mem_of_getElem? (i := 13) rfl))) hce hcv hcl ?_
    refine lv_astore (lv' := [(5, .ref q9), (0, .ref a0), (1, .int p1), (2, .int p2), (3, .int p3), (4, .ref ao)]) X.1.1 X.1.2.1 dL_turn_15 hl (by decide) rfl (fun ls hl => ?_)
    refine lv_iconst (v := (1 : Int32)) X.1.1 X.1.2.1 dL_turn_17 (by decide) ?_
    have e1 : (hI ao z) = (1, z.2) := by unfold hI; rw [hr0]
    rw [e1]
    exact W.zret (v := (1 : Int32)) X.1.1 X.1.2.1 hr rfl (fun t ht hW => ⟨⟨(1 : Int32), (), rfl, rfl, by rw [ht]; exact hw1.1, va_K.moved hW.alike X.2.1, hw1.2.1⟩, hw1.2.2.1.F ht⟩) hw1.2.2.1.2.2 dL_turn_18 hlk
  · have hw1 : Wd D cy A s.heap h z.2 H1 locs1 := hw.next ht hB hS
    refine lv_i2l X.1.1 X.1.2.1 dL_turn_10 rfl ?_
    refine r_last X hw1 g_ao (by rw [hlen]; decide) dL_turn_11 (fun H locs hw => ?_)
    have hw : Wd D cy A s.heap h (sJ z.2 ao 0 r2.toInt64) H locs := hw
    refine lv_goto (tgt := 19) X.1.1 X.1.2.1 dL_turn_12 (by decide) ?_
    refine lv_iconst (v := (0 : Int32)) X.1.1 X.1.2.1 dL_turn_19 (by decide) ?_
    have e1 : (hI ao z) = (0, sJ z.2 ao 0 r2.toInt64) := by unfold hI; rw [hr0]
    rw [e1]
    exact W.zret (v := (0 : Int32)) X.1.1 X.1.2.1 hr rfl (fun t ht hW => ⟨⟨(0 : Int32), (), rfl, rfl, by rw [ht]; exact hw.1, va_K.moved hW.alike X.2.1, hw.2.1⟩, hw.2.2.1.F ht⟩) hw.2.2.1.2.2 dL_turn_20 hlk
theorem uo_L_cycle : Cond.codeWith yL_cycle cL_cycle 6 (some .int) [(0, 12, 15, 13)] ∈ gtbl := tb4 61 (by decide +kernel) (by decide +kernel)
set_option maxHeartbeats 4000000 in
set_option maxRecDepth 100000 in
theorem c_L_cycle {l : Launch} (hst : l.stackTraces = false) {D : va_G} {cy : Nat → ClassId} {h : Hs} {a0 ao : Nat} {p1 : Int32} {p2 : Int32} {p3 : Int32} {M : Mm} {z : Option Int32 × Mm} (g_a0 : ok h a0 8) (g_ao : ok h ao 12) (hlen : zN h ao = 1) (hf : f_X8_cycle h a0 p1 p2 p3 M = some z) : CtS l D cy yL_cycle (wuW yL_cycle cL_cycle 6 (some .int) [(0, 12, 15, 13)]) ({ frames := 7, cells := 1, slots := 6, locals := 139 }) [.ref a0, .int p1, .int p2, .int p3, .ref ao] h M (hI ao z).1 (hI ao z).2 := fun sz => by
  refine va_MetW (cc := cL_cycle) (maxL := 6) (ret := some .int) (hh := [(0, 12, 15, 13)]) (by decide) rfl ?_
  intro p e s m args below meth c s₁ B hml hv
  obtain ⟨rfl, hsz, hP, hK, hN, hD0, hF⟩ := hv
  have hts0 := atoms_spec (ws := wuW yL_cycle cL_cycle 6 (some .int) [(0, 12, 15, 13)]) B.pre
  have hts : ∀ w ∈ gtbl, w.before ([.ref a0, .int p1, .int p2, .int p3, .ref ao] : List Value).toArray s = true := fun w hw => hts0 w (List.mem_cons_of_mem _ hw)
  have htab := vx_table (x := yL_span) B (hts0 _ List.mem_cons_self)
  have hown : s.vm.findClass RL = some m.cls := findClass_of_methodNamed B.named
  have hr := B.returns
  have hlk := B.notSynchronized
  subst hsz
  have hD := hD0.self (sz := s.heap.size)
  have hA : ∀ q : Nat, s.heap.size ≤ q → va_A (pool cy h M) s.heap.size q := fun q hq => Or.inr hq
  have hl := lv_entry [.ref a0, .int p1, .int p2, .int p3, .ref ao] (n := 6) (Nat.le_of_ble_eq_true rfl)
  rw [lg_entry_eq]
  generalize (lg_sl [.ref a0, .int p1, .int p2, .int p3, .ref ao] ++ List.replicate (6 - (lg_sl [.ref a0, .int p1, .int p2, .int p3, .ref ao]).length) Slot.unset).toArray = ls at hl ⊢
  generalize va_A (pool cy h M) s.heap.size = A at hD hA hF ⊢
  have X : Cx p s m ([.ref a0, .int p1, .int p2, .int p3, .ref ao] : List Value).toArray c cL_cycle 6 gtbl RL D cy A := ⟨⟨B.exec, B.bytes, hml, hown, hts⟩, hK, hN, hF⟩
  have hw : Wd D cy A s.heap h M s.heap [] := ⟨hP, hD, va_S.rf, hA⟩
  have hl : lv_has ls 6 [(0, .ref a0), (1, .int p1), (2, .int p2), (3, .int p3), (4, .ref ao)] := hl
  obtain ⟨H, hH⟩ : ∃ H, H = s.heap := ⟨_, rfl⟩
  have hw : Wd D cy A s.heap h M H [] := by rw [hH]; exact hw
  rw [← hH]
  refine lv_aload X.1.1 X.1.2.1 dL_cycle_0 (lv_at hl 4 rfl) ?_
  refine lv_iconst (v := (0 : Int32)) X.1.1 X.1.2.1 dL_cycle_2 (by decide) ?_
  refine lv_aload_n X.1.1 X.1.2.1 dL_cycle_3 rfl (lv_at hl 0 rfl) ?_
  refine lv_iload_n X.1.1 X.1.2.1 dL_cycle_4 rfl (lv_at hl 1 rfl) ?_
  refine lv_iload_n X.1.1 X.1.2.1 dL_cycle_5 rfl (lv_at hl 2 rfl) ?_
  refine lv_iload_n X.1.1 X.1.2.1 dL_cycle_6 rfl (lv_at hl 3 rfl) ?_
  refine vx_calli (vx_runV (As := [.int p1, .int p2, .int p3]) (rest := [.int (0 : Int32), .ref ao]) X.1 (c_X8_cycle hst hf H.size) (cwV 3 X.1.2.2.2.2 (guV um_L_19 ui_X8_cycle us_X8_cycle un_X8 uo_X8_cycle) rfl rfl rfl (by decide +kernel) ⟨Nat.le_of_ble_eq_true rfl, Nat.le_of_ble_eq_true rfl⟩) ⟨PCs.blind, hw.recv X g_a0 (by decide) rfl, fun U hU hW => PCs.of X hw hU hW⟩ rfl rfl hl.1 rfl (lv_room (Nat.le_of_ble_eq_true rfl)) dL_cycle_7 ⟨Nat.le_of_ble_eq_true rfl, Nat.le_of_ble_eq_true rfl⟩) hw.2.2.1 (fun q _ z => hw.free q z) hw.free (fun q _ z => hw.free q z) (fun E ce q9 u t H1 locs1 ht hvm hr0 hB _ _ hS hce hcv hcl => ?_) (fun r2 u t H1 locs1 ht hvm hr0 hB _ _ hS => ?_)
  · obtain ⟨rfl, hE⟩ := hB
    have hw1 : Wd D cy A s.heap h z.2 H1 locs1 := hw.next ht hE hS
    refine vx_catch X.1.2.2.2.1 [] _ [] htab (fun z q => nomatch q) (by decide) (by decide) (X.1.2.2.2.2 _ ul_L_13) (va_Nw.use rfl (X.2.2.1.1 _ (List.mem_of_getElem? (i := 13) rfl))) hce hcv hcl ?_
    refine lv_astore (lv' := [(5, .ref q9), (0, .ref a0), (1, .int p1), (2, .int p2), (3, .int p3), (4, .ref ao)]) X.1.1 X.1.2.1 dL_cycle_15 hl (by decide) rfl (fun ls hl => ?_)
    refine lv_iconst (v := (1 : Int32)) X.1.1 X.1.2.1 dL_cycle_17 (by decide) ?_
    have e1 : (hI ao z) = (1, z.2) := by unfold hI; rw [hr0]
    rw [e1]
    exact W.zret (v := (1 : Int32)) X.1.1 X.1.2.1 hr rfl (fun t ht hW => ⟨⟨(1 : Int32), (), rfl, rfl, by rw [ht]; exact hw1.1, va_K.moved hW.alike X.2.1, hw1.2.1⟩, hw1.2.2.1.F ht⟩) hw1.2.2.1.2.2 dL_cycle_18 hlk
  · have hw1 : Wd D cy A s.heap h z.2 H1 locs1 := hw.next ht hB hS
    refine lv_i2l X.1.1 X.1.2.1 dL_cycle_10 rfl ?_
    refine r_last X hw1 g_ao (by rw [hlen]; decide) dL_cycle_11 (fun H locs hw => ?_)
    have hw : Wd D cy A s.heap h (sJ z.2 ao 0 r2.toInt64) H locs := hw
    refine lv_goto (tgt := 19) X.1.1 X.1.2.1 dL_cycle_12 (by decide) ?_
    refine lv_iconst (v := (0 : Int32)) X.1.1 X.1.2.1 dL_cycle_19 (by decide) ?_
    have e1 : (hI ao z) = (0, sJ z.2 ao 0 r2.toInt64) := by unfold hI; rw [hr0]
    rw [e1]
    exact W.zret (v := (0 : Int32)) X.1.1 X.1.2.1 hr rfl (fun t ht hW => ⟨⟨(0 : Int32), (), rfl, rfl, by rw [ht]; exact hw.1, va_K.moved hW.alike X.2.1, hw.2.1⟩, hw.2.2.1.F ht⟩) hw.2.2.1.2.2 dL_cycle_20 hlk
theorem uo_L_damage : Cond.codeWith yL_damage cL_damage 6 (some .int) [(0, 11, 14, 13)] ∈ gtbl := tb4 79 (by decide +kernel) (by decide +kernel)
set_option maxHeartbeats 4000000 in
set_option maxRecDepth 100000 in
theorem c_L_damage {l : Launch} (hst : l.stackTraces = false) {D : va_G} {cy : Nat → ClassId} {h : Hs} {a0 ao : Nat} {p1 : Int32} {p2 : Int32} {p3 : Int32} {M : Mm} {z : Option Int64 × Mm} (g_a0 : ok h a0 8) (g_ao : ok h ao 12) (hlen : zN h ao = 1) (hf : f_X8_damage h a0 p1 p2 p3 M = some z) : CtS l D cy yL_damage (wuW yL_damage cL_damage 6 (some .int) [(0, 11, 14, 13)]) ({ frames := 7, cells := 1, slots := 6, locals := 165 }) [.ref a0, .int p1, .int p2, .int p3, .ref ao] h M (hJ ao z).1 (hJ ao z).2 := fun sz => by
  refine va_MetW (cc := cL_damage) (maxL := 6) (ret := some .int) (hh := [(0, 11, 14, 13)]) (by decide) rfl ?_
  intro p e s m args below meth c s₁ B hml hv
  obtain ⟨rfl, hsz, hP, hK, hN, hD0, hF⟩ := hv
  have hts0 := atoms_spec (ws := wuW yL_damage cL_damage 6 (some .int) [(0, 11, 14, 13)]) B.pre
  have hts : ∀ w ∈ gtbl, w.before ([.ref a0, .int p1, .int p2, .int p3, .ref ao] : List Value).toArray s = true := fun w hw => hts0 w (List.mem_cons_of_mem _ hw)
  have htab := vx_table (x := yL_span) B (hts0 _ List.mem_cons_self)
  have hown : s.vm.findClass RL = some m.cls := findClass_of_methodNamed B.named
  have hr := B.returns
  have hlk := B.notSynchronized
  subst hsz
  have hD := hD0.self (sz := s.heap.size)
  have hA : ∀ q : Nat, s.heap.size ≤ q → va_A (pool cy h M) s.heap.size q := fun q hq => Or.inr hq
  have hl := lv_entry [.ref a0, .int p1, .int p2, .int p3, .ref ao] (n := 6) (Nat.le_of_ble_eq_true rfl)
  rw [lg_entry_eq]
  generalize (lg_sl [.ref a0, .int p1, .int p2, .int p3, .ref ao] ++ List.replicate (6 - (lg_sl [.ref a0, .int p1, .int p2, .int p3, .ref ao]).length) Slot.unset).toArray = ls at hl ⊢
  generalize va_A (pool cy h M) s.heap.size = A at hD hA hF ⊢
  have X : Cx p s m ([.ref a0, .int p1, .int p2, .int p3, .ref ao] : List Value).toArray c cL_damage 6 gtbl RL D cy A := ⟨⟨B.exec, B.bytes, hml, hown, hts⟩, hK, hN, hF⟩
  have hw : Wd D cy A s.heap h M s.heap [] := ⟨hP, hD, va_S.rf, hA⟩
  have hl : lv_has ls 6 [(0, .ref a0), (1, .int p1), (2, .int p2), (3, .int p3), (4, .ref ao)] := hl
  obtain ⟨H, hH⟩ : ∃ H, H = s.heap := ⟨_, rfl⟩
  have hw : Wd D cy A s.heap h M H [] := by rw [hH]; exact hw
  rw [← hH]
  refine lv_aload X.1.1 X.1.2.1 dL_damage_0 (lv_at hl 4 rfl) ?_
  refine lv_iconst (v := (0 : Int32)) X.1.1 X.1.2.1 dL_damage_2 (by decide) ?_
  refine lv_aload_n X.1.1 X.1.2.1 dL_damage_3 rfl (lv_at hl 0 rfl) ?_
  refine lv_iload_n X.1.1 X.1.2.1 dL_damage_4 rfl (lv_at hl 1 rfl) ?_
  refine lv_iload_n X.1.1 X.1.2.1 dL_damage_5 rfl (lv_at hl 2 rfl) ?_
  refine lv_iload_n X.1.1 X.1.2.1 dL_damage_6 rfl (lv_at hl 3 rfl) ?_
  refine vx_calll (vx_runV (As := [.int p1, .int p2, .int p3]) (rest := [.int (0 : Int32), .ref ao]) X.1 (c_X8_damage hst hf H.size) (cwV 3 X.1.2.2.2.2 (guV um_L_22 ui_X8_damage us_X8_damage un_X8 uo_X8_damage) rfl rfl rfl (by decide +kernel) ⟨Nat.le_of_ble_eq_true rfl, Nat.le_of_ble_eq_true rfl⟩) ⟨PCs.blind, hw.recv X g_a0 (by decide) rfl, fun U hU hW => PCs.of X hw hU hW⟩ rfl rfl hl.1 rfl (lv_room (Nat.le_of_ble_eq_true rfl)) dL_damage_7 ⟨Nat.le_of_ble_eq_true rfl, Nat.le_of_ble_eq_true rfl⟩) hw.2.2.1 (fun q _ z => hw.free q z) hw.free (fun q _ z => hw.free q z) (fun E ce q9 u t H1 locs1 ht hvm hr0 hB _ _ hS hce hcv hcl => ?_) (fun r2 u t H1 locs1 ht hvm hr0 hB _ _ hS => ?_)
  · obtain ⟨rfl, hE⟩ := hB
    have hw1 : Wd D cy A s.heap h z.2 H1 locs1 := hw.next ht hE hS
    refine vx_catch X.1.2.2.2.1 [] _ [] htab (fun z q => nomatch q) (by decide) (by decide) (X.1.2.2.2.2 _ ul_L_13) (va_Nw.use rfl (X.2.2.1.1 _ (List.mem_of_getElem? (i := 13) rfl))) hce hcv hcl ?_
    refine lv_astore (lv' := [(5, .ref q9), (0, .ref a0), (1, .int p1), (2, .int p2), (3, .int p3), (4, .ref ao)]) X.1.1 X.1.2.1 dL_damage_14 hl (by decide) rfl (fun ls hl => ?_)
    refine lv_iconst (v := (1 : Int32)) X.1.1 X.1.2.1 dL_damage_16 (by decide) ?_
    have e1 : (hJ ao z) = (1, z.2) := by unfold hJ; rw [hr0]
    rw [e1]
    exact W.zret (v := (1 : Int32)) X.1.1 X.1.2.1 hr rfl (fun t ht hW => ⟨⟨(1 : Int32), (), rfl, rfl, by rw [ht]; exact hw1.1, va_K.moved hW.alike X.2.1, hw1.2.1⟩, hw1.2.2.1.F ht⟩) hw1.2.2.1.2.2 dL_damage_17 hlk
  · have hw1 : Wd D cy A s.heap h z.2 H1 locs1 := hw.next ht hB hS
    refine r_last X hw1 g_ao (by rw [hlen]; decide) dL_damage_10 (fun H locs hw => ?_)
    have hw : Wd D cy A s.heap h (sJ z.2 ao 0 r2) H locs := hw
    refine lv_goto (tgt := 18) X.1.1 X.1.2.1 dL_damage_11 (by decide) ?_
    refine lv_iconst (v := (0 : Int32)) X.1.1 X.1.2.1 dL_damage_18 (by decide) ?_
    have e1 : (hJ ao z) = (0, sJ z.2 ao 0 r2) := by unfold hJ; rw [hr0]
    rw [e1]
    exact W.zret (v := (0 : Int32)) X.1.1 X.1.2.1 hr rfl (fun t ht hW => ⟨⟨(0 : Int32), (), rfl, rfl, by rw [ht]; exact hw.1, va_K.moved hW.alike X.2.1, hw.2.1⟩, hw.2.2.1.F ht⟩) hw.2.2.1.2.2 dL_damage_19 hlk
theorem uo_L_part : Cond.codeWith yL_part cL_part 5 (some .int) [(0, 9, 12, 13)] ∈ gtbl := tb4 90 (by decide +kernel) (by decide +kernel)
set_option maxHeartbeats 4000000 in
set_option maxRecDepth 100000 in
theorem c_L_part {l : Launch} (hst : l.stackTraces = false) {D : va_G} {cy : Nat → ClassId} {h : Hs} {a0 ao : Nat} {p1 : Int32} {p2 : Int32} {M : Mm} {z : Option Int64 × Mm} (g_a0 : ok h a0 8) (g_ao : ok h ao 12) (hlen : zN h ao = 1) (hf : f_X8_part h a0 p1 p2 M = some z) : CtS l D cy yL_part (wuW yL_part cL_part 5 (some .int) [(0, 9, 12, 13)]) ({ frames := 7, cells := 1, slots := 6, locals := 160 }) [.ref a0, .int p1, .int p2, .ref ao] h M (hJ ao z).1 (hJ ao z).2 := fun sz => by
  refine va_MetW (cc := cL_part) (maxL := 5) (ret := some .int) (hh := [(0, 9, 12, 13)]) (by decide) rfl ?_
  intro p e s m args below meth c s₁ B hml hv
  obtain ⟨rfl, hsz, hP, hK, hN, hD0, hF⟩ := hv
  have hts0 := atoms_spec (ws := wuW yL_part cL_part 5 (some .int) [(0, 9, 12, 13)]) B.pre
  have hts : ∀ w ∈ gtbl, w.before ([.ref a0, .int p1, .int p2, .ref ao] : List Value).toArray s = true := fun w hw => hts0 w (List.mem_cons_of_mem _ hw)
  have htab := vx_table (x := yL_span) B (hts0 _ List.mem_cons_self)
  have hown : s.vm.findClass RL = some m.cls := findClass_of_methodNamed B.named
  have hr := B.returns
  have hlk := B.notSynchronized
  subst hsz
  have hD := hD0.self (sz := s.heap.size)
  have hA : ∀ q : Nat, s.heap.size ≤ q → va_A (pool cy h M) s.heap.size q := fun q hq => Or.inr hq
  have hl := lv_entry [.ref a0, .int p1, .int p2, .ref ao] (n := 5) (Nat.le_of_ble_eq_true rfl)
  rw [lg_entry_eq]
  generalize (lg_sl [.ref a0, .int p1, .int p2, .ref ao] ++ List.replicate (5 - (lg_sl [.ref a0, .int p1, .int p2, .ref ao]).length) Slot.unset).toArray = ls at hl ⊢
  generalize va_A (pool cy h M) s.heap.size = A at hD hA hF ⊢
  have X : Cx p s m ([.ref a0, .int p1, .int p2, .ref ao] : List Value).toArray c cL_part 5 gtbl RL D cy A := ⟨⟨B.exec, B.bytes, hml, hown, hts⟩, hK, hN, hF⟩
  have hw : Wd D cy A s.heap h M s.heap [] := ⟨hP, hD, va_S.rf, hA⟩
  have hl : lv_has ls 5 [(0, .ref a0), (1, .int p1), (2, .int p2), (3, .ref ao)] := hl
  obtain ⟨H, hH⟩ : ∃ H, H = s.heap := ⟨_, rfl⟩
  have hw : Wd D cy A s.heap h M H [] := by rw [hH]; exact hw
  rw [← hH]
  refine lv_aload_n X.1.1 X.1.2.1 dL_part_0 rfl (lv_at hl 3 rfl) ?_
  refine lv_iconst (v := (0 : Int32)) X.1.1 X.1.2.1 dL_part_1 (by decide) ?_
  refine lv_aload_n X.1.1 X.1.2.1 dL_part_2 rfl (lv_at hl 0 rfl) ?_
  refine lv_iload_n X.1.1 X.1.2.1 dL_part_3 rfl (lv_at hl 1 rfl) ?_
  refine lv_iload_n X.1.1 X.1.2.1 dL_part_4 rfl (lv_at hl 2 rfl) ?_
  refine vx_calll (vx_runV (As := [.int p1, .int p2]) (rest := [.int (0 : Int32), .ref ao]) X.1 (c_X8_part hst hf H.size) (cwV 2 X.1.2.2.2.2 (guV um_L_26 ui_X8_part us_X8_part un_X8 uo_X8_part) rfl rfl rfl (by decide +kernel) ⟨Nat.le_of_ble_eq_true rfl, Nat.le_of_ble_eq_true rfl⟩) ⟨PCs.blind, hw.recv X g_a0 (by decide) rfl, fun U hU hW => PCs.of X hw hU hW⟩ rfl rfl hl.1 rfl (lv_room (Nat.le_of_ble_eq_true rfl)) dL_part_5 ⟨Nat.le_of_ble_eq_true rfl, Nat.le_of_ble_eq_true rfl⟩) hw.2.2.1 (fun q _ z => hw.free q z) hw.free (fun q _ z => hw.free q z) (fun E ce q9 u t H1 locs1 ht hvm hr0 hB _ _ hS hce hcv hcl => ?_) (fun r2 u t H1 locs1 ht hvm hr0 hB _ _ hS => ?_)
  · obtain ⟨rfl, hE⟩ := hB
    have hw1 : Wd D cy A s.heap h z.2 H1 locs1 := hw.next ht hE hS
    refine vx_catch X.1.2.2.2.1 [] _ [] htab (fun z q => nomatch q) (by decide) (by decide) (X.1.2.2.2.2 _ ul_L_13) (va_Nw.use rfl (X.2.2.1.1 _ (List.mem_of_getElem? (i := 13) rfl))) hce hcv hcl ?_
    refine lv_astore (lv' := [(4, .ref q9), (0, .ref a0), (1, .int p1), (2, .int p2), (3, .ref ao)]) X.1.1 X.1.2.1 dL_part_12 hl (by decide) rfl (fun ls hl => ?_)
    refine lv_iconst (v := (1 : Int32)) X.1.1 X.1.2.1 dL_part_14 (by decide) ?_
    have e1 : (hJ ao z) = (1, z.2) := by unfold hJ; rw [hr0]
    rw [e1]
    exact W.zret (v := (1 : Int32)) X.1.1 X.1.2.1 hr rfl (fun t ht hW => ⟨⟨(1 : Int32), (), rfl, rfl, by rw [ht]; exact hw1.1, va_K.moved hW.alike X.2.1, hw1.2.1⟩, hw1.2.2.1.F ht⟩) hw1.2.2.1.2.2 dL_part_15 hlk
  · have hw1 : Wd D cy A s.heap h z.2 H1 locs1 := hw.next ht hB hS
    refine r_last X hw1 g_ao (by rw [hlen]; decide) dL_part_8 (fun H locs hw => ?_)
    have hw : Wd D cy A s.heap h (sJ z.2 ao 0 r2) H locs := hw
    refine lv_goto (tgt := 16) X.1.1 X.1.2.1 dL_part_9 (by decide) ?_
    refine lv_iconst (v := (0 : Int32)) X.1.1 X.1.2.1 dL_part_16 (by decide) ?_
    have e1 : (hJ ao z) = (0, sJ z.2 ao 0 r2) := by unfold hJ; rw [hr0]
    rw [e1]
    exact W.zret (v := (0 : Int32)) X.1.1 X.1.2.1 hr rfl (fun t ht hW => ⟨⟨(0 : Int32), (), rfl, rfl, by rw [ht]; exact hw.1, va_K.moved hW.alike X.2.1, hw.2.1⟩, hw.2.2.1.F ht⟩) hw.2.2.1.2.2 dL_part_17 hlk
theorem uo_L_parts : Cond.codeWith yL_parts cL_parts 5 (some .int) [(0, 10, 13, 13)] ∈ gtbl := tb4 102 (by decide +kernel) (by decide +kernel)
set_option maxHeartbeats 4000000 in
set_option maxRecDepth 100000 in
theorem c_L_parts {l : Launch} (hst : l.stackTraces = false) {D : va_G} {cy : Nat → ClassId} {h : Hs} {a0 ao : Nat} {p1 : Int32} {p2 : Int32} {M : Mm} {z : Option Int32 × Mm} (g_a0 : ok h a0 8) (g_ao : ok h ao 12) (hlen : zN h ao = 1) (hf : f_X8_parts h a0 p1 p2 M = some z) : CtS l D cy yL_parts (wuW yL_parts cL_parts 5 (some .int) [(0, 10, 13, 13)]) ({ frames := 7, cells := 1, slots := 6, locals := 161 }) [.ref a0, .int p1, .int p2, .ref ao] h M (hI ao z).1 (hI ao z).2 := fun sz => by
  refine va_MetW (cc := cL_parts) (maxL := 5) (ret := some .int) (hh := [(0, 10, 13, 13)]) (by decide) rfl ?_
  intro p e s m args below meth c s₁ B hml hv
  obtain ⟨rfl, hsz, hP, hK, hN, hD0, hF⟩ := hv
  have hts0 := atoms_spec (ws := wuW yL_parts cL_parts 5 (some .int) [(0, 10, 13, 13)]) B.pre
  have hts : ∀ w ∈ gtbl, w.before ([.ref a0, .int p1, .int p2, .ref ao] : List Value).toArray s = true := fun w hw => hts0 w (List.mem_cons_of_mem _ hw)
  have htab := vx_table (x := yL_span) B (hts0 _ List.mem_cons_self)
  have hown : s.vm.findClass RL = some m.cls := findClass_of_methodNamed B.named
  have hr := B.returns
  have hlk := B.notSynchronized
  subst hsz
  have hD := hD0.self (sz := s.heap.size)
  have hA : ∀ q : Nat, s.heap.size ≤ q → va_A (pool cy h M) s.heap.size q := fun q hq => Or.inr hq
  have hl := lv_entry [.ref a0, .int p1, .int p2, .ref ao] (n := 5) (Nat.le_of_ble_eq_true rfl)
  rw [lg_entry_eq]
  generalize (lg_sl [.ref a0, .int p1, .int p2, .ref ao] ++ List.replicate (5 - (lg_sl [.ref a0, .int p1, .int p2, .ref ao]).length) Slot.unset).toArray = ls at hl ⊢
  generalize va_A (pool cy h M) s.heap.size = A at hD hA hF ⊢
  have X : Cx p s m ([.ref a0, .int p1, .int p2, .ref ao] : List Value).toArray c cL_parts 5 gtbl RL D cy A := ⟨⟨B.exec, B.bytes, hml, hown, hts⟩, hK, hN, hF⟩
  have hw : Wd D cy A s.heap h M s.heap [] := ⟨hP, hD, va_S.rf, hA⟩
  have hl : lv_has ls 5 [(0, .ref a0), (1, .int p1), (2, .int p2), (3, .ref ao)] := hl
  obtain ⟨H, hH⟩ : ∃ H, H = s.heap := ⟨_, rfl⟩
  have hw : Wd D cy A s.heap h M H [] := by rw [hH]; exact hw
  rw [← hH]
  refine lv_aload_n X.1.1 X.1.2.1 dL_parts_0 rfl (lv_at hl 3 rfl) ?_
  refine lv_iconst (v := (0 : Int32)) X.1.1 X.1.2.1 dL_parts_1 (by decide) ?_
  refine lv_aload_n X.1.1 X.1.2.1 dL_parts_2 rfl (lv_at hl 0 rfl) ?_
  refine lv_iload_n X.1.1 X.1.2.1 dL_parts_3 rfl (lv_at hl 1 rfl) ?_
  refine lv_iload_n X.1.1 X.1.2.1 dL_parts_4 rfl (lv_at hl 2 rfl) ?_
  refine vx_calli (vx_runV (As := [.int p1, .int p2]) (rest := [.int (0 : Int32), .ref ao]) X.1 (c_X8_parts hst hf H.size) (cwV 2 X.1.2.2.2.2 (guV um_L_30 ui_X8_parts us_X8_parts un_X8 uo_X8_parts) rfl rfl rfl (by decide +kernel) ⟨Nat.le_of_ble_eq_true rfl, Nat.le_of_ble_eq_true rfl⟩) ⟨PCs.blind, hw.recv X g_a0 (by decide) rfl, fun U hU hW => PCs.of X hw hU hW⟩ rfl rfl hl.1 rfl (lv_room (Nat.le_of_ble_eq_true rfl)) dL_parts_5 ⟨Nat.le_of_ble_eq_true rfl, Nat.le_of_ble_eq_true rfl⟩) hw.2.2.1 (fun q _ z => hw.free q z) hw.free (fun q _ z => hw.free q z) (fun E ce q9 u t H1 locs1 ht hvm hr0 hB _ _ hS hce hcv hcl => ?_) (fun r2 u t H1 locs1 ht hvm hr0 hB _ _ hS => ?_)
  · obtain ⟨rfl, hE⟩ := hB
    have hw1 : Wd D cy A s.heap h z.2 H1 locs1 := hw.next ht hE hS
    refine vx_catch X.1.2.2.2.1 [] _ [] htab (fun z q => nomatch q) (by decide) (by decide) (X.1.2.2.2.2 _ ul_L_13) (va_Nw.use rfl (X.2.2.1.1 _ (List.mem_of_getElem? (i := 13) rfl))) hce hcv hcl ?_
    refine lv_astore (lv' := [(4, .ref q9), (0, .ref a0), (1, .int p1), (2, .int p2), (3, .ref ao)]) X.1.1 X.1.2.1 dL_parts_13 hl (by decide) rfl (fun ls hl => ?_)
    refine lv_iconst (v := (1 : Int32)) X.1.1 X.1.2.1 dL_parts_15 (by decide) ?_
    have e1 : (hI ao z) = (1, z.2) := by unfold hI; rw [hr0]
    rw [e1]
    exact W.zret (v := (1 : Int32)) X.1.1 X.1.2.1 hr rfl (fun t ht hW => ⟨⟨(1 : Int32), (), rfl, rfl, by rw [ht]; exact hw1.1, va_K.moved hW.alike X.2.1, hw1.2.1⟩, hw1.2.2.1.F ht⟩) hw1.2.2.1.2.2 dL_parts_16 hlk
  · have hw1 : Wd D cy A s.heap h z.2 H1 locs1 := hw.next ht hB hS
    refine lv_i2l X.1.1 X.1.2.1 dL_parts_8 rfl ?_
    refine r_last X hw1 g_ao (by rw [hlen]; decide) dL_parts_9 (fun H locs hw => ?_)
    have hw : Wd D cy A s.heap h (sJ z.2 ao 0 r2.toInt64) H locs := hw
    refine lv_goto (tgt := 17) X.1.1 X.1.2.1 dL_parts_10 (by decide) ?_
    refine lv_iconst (v := (0 : Int32)) X.1.1 X.1.2.1 dL_parts_17 (by decide) ?_
    have e1 : (hI ao z) = (0, sJ z.2 ao 0 r2.toInt64) := by unfold hI; rw [hr0]
    rw [e1]
    exact W.zret (v := (0 : Int32)) X.1.1 X.1.2.1 hr rfl (fun t ht hW => ⟨⟨(0 : Int32), (), rfl, rfl, by rw [ht]; exact hw.1, va_K.moved hW.alike X.2.1, hw.2.1⟩, hw.2.2.1.F ht⟩) hw.2.2.1.2.2 dL_parts_18 hlk
