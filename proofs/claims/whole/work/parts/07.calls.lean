/-- a method's words: its own code, and all good words of the tables -/
def wu (y : MethodName) (cc : ByteArray) (n : Nat) (ret : Option FieldType) : List Cond := Cond.code y cc n ret :: gtbl
theorem gu {w : Cond} (h : w ∈ gtbl) : w ∈ gtbl ∧ ((w.onTables && w.keeps) = true ∨ ∃ ty, w = .arrayClass ty) := ⟨h, gtbl_good h⟩
theorem guN {y : MethodName} {cc : ByteArray} {n : Nat} {ret : Option FieldType} (ho : Cond.code y cc n ret ∈ gtbl) : GoodIn gtbl (wu y cc n ret) := fun w hw => by
  rcases List.mem_cons.mp hw with rfl | h
  · exact gu ho
  · exact gu h
theorem guV {own C : String} {idx : Nat} {y : MethodName} {cc : ByteArray} {n : Nat} {ret : Option FieldType} (hl : Cond.methodLink own idx y ∈ gtbl) (hi : Cond.instanceMethod y ∈ gtbl) (hs : Cond.selects C y y ∈ gtbl) (hn : Cond.initialized C ∈ gtbl) (ho : Cond.code y cc n ret ∈ gtbl) : GoodIn gtbl (wsV own idx C y (wu y cc n ret)) := fun w hw => by
  unfold wsV at hw
  rcases List.mem_append.mp hw with h | h
  · simp only [List.mem_cons, List.not_mem_nil, or_false] at h
    rcases h with rfl | rfl | rfl | rfl
    · exact gu hl
    · exact gu hi
    · exact gu hs
    · exact gu hn
  · exact guN ho w h
theorem guS {own : String} {idx : Nat} {y : MethodName} {cc : ByteArray} {n : Nat} {ret : Option FieldType} (hl : Cond.methodLink own idx y ∈ gtbl) (hs : Cond.static y ∈ gtbl) (hn : Cond.initialized y.cls ∈ gtbl) (ho : Cond.code y cc n ret ∈ gtbl) : GoodIn gtbl (va_wsS own idx y (wu y cc n ret)) := fun w hw => by
  unfold va_wsS at hw
  rcases List.mem_append.mp hw with h | h
  · simp only [List.mem_cons, List.not_mem_nil, or_false] at h
    rcases h with rfl | rfl | rfl
    · exact gu hl
    · exact gu hs
    · exact gu hn
  · exact guN ho w h
/-! contracts over the pool: a method that makes nothing, its answer r, the store M' behind it -/
def PCs (D : va_G) (cy : Nat → ClassId) (h : Hs) (M : Mm) (sz : Nat) : State → Prop := fun U => U.heap.size = sz ∧ va_P D vwCl (pool cy h M) U.heap ∧ va_K D vwCl (tyL cy) U ∧ NN U ∧ va_D (fun _ => True) (pool cy h M) ∧ SF (va_A (pool cy h M) sz) U U.heap
def PEs (D : va_G) (cy : Nat → ClassId) (A : Nat → Prop) (h : Hs) (M : Mm) : State → Prop := fun t => va_P D vwCl (pool cy h M) t.heap ∧ va_K D vwCl (tyL cy) t ∧ va_D A (pool cy h M)
def CtI (l : Launch) (D : va_G) (cy : Nat → ClassId) (y : MethodName) (ws : List Cond) (rm : Room) (As : List Value) (h : Hs) (M : Mm) (r : Int32) (M' : Mm) : Prop := ∀ sz : Nat, Met l y ws rm (va_Pc As (PCs D cy h M sz)) (va_Qi (fun (r2 : Int32) (_ : Unit) => r2 = r) (fun _ => PEs D cy (va_A (pool cy h M) sz) h M') (va_A (pool cy h M) sz)) 0 0 (va_A (pool cy h M) sz)
def CtL (l : Launch) (D : va_G) (cy : Nat → ClassId) (y : MethodName) (ws : List Cond) (rm : Room) (As : List Value) (h : Hs) (M : Mm) (r : Int64) (M' : Mm) : Prop := ∀ sz : Nat, Met l y ws rm (va_Pc As (PCs D cy h M sz)) (va_Ql (fun (r2 : Int64) (_ : Unit) => r2 = r) (fun _ => PEs D cy (va_A (pool cy h M) sz) h M') (va_A (pool cy h M) sz)) 0 0 (va_A (pool cy h M) sz)
def CtV (l : Launch) (D : va_G) (cy : Nat → ClassId) (y : MethodName) (ws : List Cond) (rm : Room) (As : List Value) (h : Hs) (M : Mm) (M' : Mm) : Prop := ∀ sz : Nat, Met l y ws rm (va_Pc As (PCs D cy h M sz)) (va_Qv (fun (_ : Unit) => True) (fun _ => PEs D cy (va_A (pool cy h M) sz) h M') (va_A (pool cy h M) sz)) 0 0 (va_A (pool cy h M) sz)
def CtQ (l : Launch) (D : va_G) (cy : Nat → ClassId) (y : MethodName) (ws : List Cond) (rm : Room) (As : List Value) (h : Hs) (M : Mm) (r : Option Nat) (M' : Mm) : Prop := ∀ sz : Nat, Met l y ws rm (va_Pc As (PCs D cy h M sz)) (va_Qq (fun (r2 : Option Nat) (_ : Unit) => r2 = r) (fun _ => PEs D cy (va_A (pool cy h M) sz) h M') (va_A (pool cy h M) sz)) 0 0 (va_A (pool cy h M) sz)
def QI (below : List Frame) (D : va_G) (cy : Nat → ClassId) (A : Nat → Prop) (h : Hs) (args : Array Value) (s : State) (r : Int32) (M' : Mm) : State → Prop := MQ below (va_Qi (fun (r2 : Int32) (_ : Unit) => r2 = r) (fun _ => PEs D cy A h M') A) args s 0 0 A
def QL (below : List Frame) (D : va_G) (cy : Nat → ClassId) (A : Nat → Prop) (h : Hs) (args : Array Value) (s : State) (r : Int64) (M' : Mm) : State → Prop := MQ below (va_Ql (fun (r2 : Int64) (_ : Unit) => r2 = r) (fun _ => PEs D cy A h M') A) args s 0 0 A
def QV (below : List Frame) (D : va_G) (cy : Nat → ClassId) (A : Nat → Prop) (h : Hs) (args : Array Value) (s : State) (M' : Mm) : State → Prop := MQ below (va_Qv (fun (_ : Unit) => True) (fun _ => PEs D cy A h M') A) args s 0 0 A
def QQ (below : List Frame) (D : va_G) (cy : Nat → ClassId) (A : Nat → Prop) (h : Hs) (args : Array Value) (s : State) (r : Option Nat) (M' : Mm) : State → Prop := MQ below (va_Qq (fun (r2 : Option Nat) (_ : Unit) => r2 = r) (fun _ => PEs D cy A h M') A) args s 0 0 A
theorem PCs.blind {D : va_G} {cy : Nat → ClassId} {h : Hs} {M : Mm} {sz : Nat} {As : List Value} : FrameBlind (va_Pc As (PCs D cy h M sz)) := fun a U g mk q => by
  obtain ⟨q0, q1, qP, qK, qN, qD, qF⟩ := q
  exact ⟨q0, q1, qP, va_K.moved (u := U) (U := U.calling g mk a) (Vm.Alike.refl U.vm) qK, NN.same (u := U) (U := U.calling g mk a) rfl (Vm.Alike.refl U.vm) qN, qD, SF.same (u := U) (U := U.calling g mk a) rfl (Vm.Alike.refl U.vm) qF⟩
section PC
variable {p : Program} {l : Launch} {e : Env} {R : Room} {s : State} {m : MethodId} {args : Array Value} {below : List Frame} {meth : Method} {c : Code} {H : Heap} {locs : List Loc} {cells slots : Nat} {Q : State → Prop}
variable {cc : ByteArray} {pc nL : Nat} {ls : Array Slot} {rest : List Value} {D : va_G} {cy : Nat → ClassId} {A : Nat → Prop} {h : Hs} {M : Mm} {Ts : List Cond} {own : String}
theorem Wd.free (hw : Wd D cy A s.heap h M H locs) : ∀ q, va_A (pool cy h M) H.size q → A q := by
  obtain ⟨hP, hD, hS, hA⟩ := hw
  rintro q (⟨k, e, hk⟩ | hge)
  · exact hD.2 k _ hk
  · exact hA q (Nat.le_trans hS.1 hge)
theorem PCs.of (X : Cx p s m args c cc nL Ts own D cy A) (hw : Wd D cy A s.heap h M H locs) {As : List Value} {U : State} (hU : U.heap = H) (hW : s.WarmedH U.vm) : va_Pc As (PCs D cy h M H.size) As.toArray U :=
  ⟨rfl, by rw [hU], by rw [hU]; exact hw.1, va_K.moved hW.alike X.2.1, NN.warm hW X.2.2.1, ⟨hw.2.1.1, fun _ _ _ => trivial⟩, by rw [hU]; exact X.2.2.2.call hw.2.2.1.2.1 hw.free hW⟩
theorem Wd.recv (X : Cx p s m args c cc nL Ts own D cy A) (hw : Wd D cy A s.heap h M H locs) {b k : Nat} {C : String} {T : u_T} {N : Nat} (g : ok h b k) (hk : k < 10) (hC : vwCl[k]? = some (C, T, N)) : ∃ cell : Cell, H[b]? = some cell ∧ cell.vm.isStatics = false ∧ s.vm.findClass C = some cell.cls := by
  obtain ⟨i, hi⟩ := pool_get (cy := cy) (M := M) g.1
  rw [cel_obj g.2 hk] at hi
  exact va_recv X.2.1 hw.1 hC hi
theorem Wd.next (hw : Wd D cy A s.heap h M H locs) {M' : Mm} {t : State} {H1 : Heap} {locs1 : List Loc} (ht : t.heap = H1) (hB : PEs D cy (va_A (pool cy h M) H.size) h M' t) (hS : va_S A s.heap H1 locs1) : Wd D cy A s.heap h M' H1 locs1 := by
  obtain ⟨hP1, -, hD1⟩ := hB
  rw [ht] at hP1
  exact ⟨hP1, ⟨hD1.1, fun k q hq => hw.free _ (hD1.2 k q hq)⟩, hS, hw.2.2.2⟩
variable {y : MethodName} {bytes : ByteArray} {maxL n index : Nat} {ret : Option FieldType} {ws : List Cond} {rm : Room} {As st0 : List Value} {M' : Mm}
theorem r_callVI {b k : Nat} {C : String} {T : u_T} {N : Nat} {r : Int32} (X : Cx p s m args c cc nL Ts own D cy A) (hw : Wd D cy A s.heap h M H locs) (hc : CtI l D cy y ws rm (.ref b :: As) h M r M') (cw : CallW R s args own C index y bytes maxL ret ws rm 0 0 n) (g : ok h b k) (hk : k < 10) (hC : vwCl[k]? = some (C, T, N)) (hn : As.length = n) (hl : ls.size = nL) (hst : st0 = As.reverse ++ .ref b :: rest) (hW : (rest.map fun v => v.category).sum ≤ 8) (hdg : decode cc pc = .ok (.invokevirtual index, 3)) (hf : cells + 0 ≤ R.cells ∧ slots + 0 ≤ R.slots)
    (kk : ∀ (H1 : Heap) (locs1 : List Loc), Wd D cy A s.heap h M' H1 locs1 → W p l e R s m args below meth c H1 locs1 cells slots Q (F0 m (pc + 3) ls (.int r :: rest))) : W p l e R s m args below meth c H locs cells slots Q (F0 m pc ls st0) := by
  refine va_calli (va_runV (As := As) (rest := rest) X.1 (hc H.size) cw ⟨PCs.blind, hw.recv X g hk hC, fun U hU hW => PCs.of X hw hU hW⟩ rfl hn hl hst (lv_room hW) hdg hf) hw.2.2.1 (fun q _ z => hw.free q z) hw.free (fun r2 u t H1 locs1 ht hvm hr hB _ _ hS => ?_)
  subst hr
  exact kk H1 locs1 (hw.next ht hB hS)
theorem r_callVL {b k : Nat} {C : String} {T : u_T} {N : Nat} {r : Int64} (X : Cx p s m args c cc nL Ts own D cy A) (hw : Wd D cy A s.heap h M H locs) (hc : CtL l D cy y ws rm (.ref b :: As) h M r M') (cw : CallW R s args own C index y bytes maxL ret ws rm 0 0 n) (g : ok h b k) (hk : k < 10) (hC : vwCl[k]? = some (C, T, N)) (hn : As.length = n) (hl : ls.size = nL) (hst : st0 = As.reverse ++ .ref b :: rest) (hW : (rest.map fun v => v.category).sum ≤ 8) (hdg : decode cc pc = .ok (.invokevirtual index, 3)) (hf : cells + 0 ≤ R.cells ∧ slots + 0 ≤ R.slots)
    (kk : ∀ (H1 : Heap) (locs1 : List Loc), Wd D cy A s.heap h M' H1 locs1 → W p l e R s m args below meth c H1 locs1 cells slots Q (F0 m (pc + 3) ls (.long r :: rest))) : W p l e R s m args below meth c H locs cells slots Q (F0 m pc ls st0) := by
  refine va_calll (va_runV (As := As) (rest := rest) X.1 (hc H.size) cw ⟨PCs.blind, hw.recv X g hk hC, fun U hU hW => PCs.of X hw hU hW⟩ rfl hn hl hst (lv_room hW) hdg hf) hw.2.2.1 (fun q _ z => hw.free q z) hw.free (fun r2 u t H1 locs1 ht hvm hr hB _ _ hS => ?_)
  subst hr
  exact kk H1 locs1 (hw.next ht hB hS)
theorem r_callVV {b k : Nat} {C : String} {T : u_T} {N : Nat} (X : Cx p s m args c cc nL Ts own D cy A) (hw : Wd D cy A s.heap h M H locs) (hc : CtV l D cy y ws rm (.ref b :: As) h M M') (cw : CallW R s args own C index y bytes maxL ret ws rm 0 0 n) (g : ok h b k) (hk : k < 10) (hC : vwCl[k]? = some (C, T, N)) (hn : As.length = n) (hl : ls.size = nL) (hst : st0 = As.reverse ++ .ref b :: rest) (hW : (rest.map fun v => v.category).sum ≤ 8) (hdg : decode cc pc = .ok (.invokevirtual index, 3)) (hf : cells + 0 ≤ R.cells ∧ slots + 0 ≤ R.slots)
    (kk : ∀ (H1 : Heap) (locs1 : List Loc), Wd D cy A s.heap h M' H1 locs1 → W p l e R s m args below meth c H1 locs1 cells slots Q (F0 m (pc + 3) ls (rest))) : W p l e R s m args below meth c H locs cells slots Q (F0 m pc ls st0) := by
  refine va_callv (va_runV (As := As) (rest := rest) X.1 (hc H.size) cw ⟨PCs.blind, hw.recv X g hk hC, fun U hU hW => PCs.of X hw hU hW⟩ rfl hn hl hst (lv_room hW) hdg hf) hw.2.2.1 (fun q _ z => hw.free q z) hw.free (fun u t H1 locs1 ht hvm hr hB _ _ hS => ?_)
  exact kk H1 locs1 (hw.next ht hB hS)
theorem r_callVQ {b k : Nat} {C : String} {T : u_T} {N : Nat} {r : Option Nat} (X : Cx p s m args c cc nL Ts own D cy A) (hw : Wd D cy A s.heap h M H locs) (hc : CtQ l D cy y ws rm (.ref b :: As) h M r M') (cw : CallW R s args own C index y bytes maxL ret ws rm 0 0 n) (g : ok h b k) (hk : k < 10) (hC : vwCl[k]? = some (C, T, N)) (hn : As.length = n) (hl : ls.size = nL) (hst : st0 = As.reverse ++ .ref b :: rest) (hW : (rest.map fun v => v.category).sum ≤ 8) (hdg : decode cc pc = .ok (.invokevirtual index, 3)) (hf : cells + 0 ≤ R.cells ∧ slots + 0 ≤ R.slots)
    (kk : ∀ (H1 : Heap) (locs1 : List Loc), Wd D cy A s.heap h M' H1 locs1 → W p l e R s m args below meth c H1 locs1 cells slots Q (F0 m (pc + 3) ls (va_rf r :: rest))) : W p l e R s m args below meth c H locs cells slots Q (F0 m pc ls st0) := by
  refine va_callq (va_runV (As := As) (rest := rest) X.1 (hc H.size) cw ⟨PCs.blind, hw.recv X g hk hC, fun U hU hW => PCs.of X hw hU hW⟩ rfl hn hl hst (lv_room hW) hdg hf) hw.2.2.1 (fun q _ z => hw.free q z) hw.free (fun r2 u t H1 locs1 ht hvm hr hB _ _ hS => ?_)
  subst hr
  exact kk H1 locs1 (hw.next ht hB hS)
theorem r_callSI {r : Int32} (X : Cx p s m args c cc nL Ts own D cy A) (hw : Wd D cy A s.heap h M H locs) (hc : CtI l D cy y ws rm As h M r M') (cw : CallB R s args own index y bytes maxL ret ws rm 0 0 n ∧ (Cond.static y).before args s = true) (hn : As.length = n) (hl : ls.size = nL) (hst : st0 = As.reverse ++ rest) (hW : (rest.map fun v => v.category).sum ≤ 8) (hdg : decode cc pc = .ok (.invokestatic index, 3)) (hf : cells + 0 ≤ R.cells ∧ slots + 0 ≤ R.slots)
    (kk : ∀ (H1 : Heap) (locs1 : List Loc), Wd D cy A s.heap h M' H1 locs1 → W p l e R s m args below meth c H1 locs1 cells slots Q (F0 m (pc + 3) ls (.int r :: rest))) : W p l e R s m args below meth c H locs cells slots Q (F0 m pc ls st0) := by
  refine va_calli (va_runS (As := As) (rest := rest) X.1 (hc H.size) cw ⟨PCs.blind, fun U hU hW => PCs.of X hw hU hW⟩ rfl hn hl hst (lv_room hW) hdg hf) hw.2.2.1 (fun q _ z => hw.free q z) hw.free (fun r2 u t H1 locs1 ht hvm hr hB _ _ hS => ?_)
  subst hr
  exact kk H1 locs1 (hw.next ht hB hS)
theorem r_callSL {r : Int64} (X : Cx p s m args c cc nL Ts own D cy A) (hw : Wd D cy A s.heap h M H locs) (hc : CtL l D cy y ws rm As h M r M') (cw : CallB R s args own index y bytes maxL ret ws rm 0 0 n ∧ (Cond.static y).before args s = true) (hn : As.length = n) (hl : ls.size = nL) (hst : st0 = As.reverse ++ rest) (hW : (rest.map fun v => v.category).sum ≤ 8) (hdg : decode cc pc = .ok (.invokestatic index, 3)) (hf : cells + 0 ≤ R.cells ∧ slots + 0 ≤ R.slots)
    (kk : ∀ (H1 : Heap) (locs1 : List Loc), Wd D cy A s.heap h M' H1 locs1 → W p l e R s m args below meth c H1 locs1 cells slots Q (F0 m (pc + 3) ls (.long r :: rest))) : W p l e R s m args below meth c H locs cells slots Q (F0 m pc ls st0) := by
  refine va_calll (va_runS (As := As) (rest := rest) X.1 (hc H.size) cw ⟨PCs.blind, fun U hU hW => PCs.of X hw hU hW⟩ rfl hn hl hst (lv_room hW) hdg hf) hw.2.2.1 (fun q _ z => hw.free q z) hw.free (fun r2 u t H1 locs1 ht hvm hr hB _ _ hS => ?_)
  subst hr
  exact kk H1 locs1 (hw.next ht hB hS)
theorem r_callSNI {host : String} {r : Int32} (X : Cx p s m args c cc nL Ts own D cy A) (hw : Wd D cy A s.heap h M H locs) (hc : CtI l D cy y ws rm As h M r M') (cw : va_CN R s args own index y host bytes maxL ret ws rm 0 0 n ∧ (Cond.static y).before args s = true ∧ True) (hn : As.length = n) (hl : ls.size = nL) (hst : st0 = As.reverse ++ rest) (hW : (rest.map fun v => v.category).sum ≤ 8) (hdg : decode cc pc = .ok (.invokestatic index, 3)) (hf : cells + 0 ≤ R.cells ∧ slots + 0 ≤ R.slots)
    (kk : ∀ (H1 : Heap) (locs1 : List Loc), Wd D cy A s.heap h M' H1 locs1 → W p l e R s m args below meth c H1 locs1 cells slots Q (F0 m (pc + 3) ls (.int r :: rest))) : W p l e R s m args below meth c H locs cells slots Q (F0 m pc ls st0) := by
  refine va_calli (va_runSN (As := As) (rest := rest) X.1 (hc H.size) cw ⟨PCs.blind, fun U hU hW => PCs.of X hw hU hW⟩ rfl hn hl hst (lv_room hW) hdg hf) hw.2.2.1 (fun q _ z => hw.free q z) hw.free (fun r2 u t H1 locs1 ht hvm hr hB _ _ hS => ?_)
  subst hr
  exact kk H1 locs1 (hw.next ht hB hS)
/-! ends -/
theorem r_retI {v : Int32} {ty : FieldType} (X : Cx p s m args c cc nL Ts own D cy A) (hw : Wd D cy A s.heap h M H locs) (hr : meth.sig.returnType = some ty) (hlk : meth.locks = false) (hn : narrow ty (.int v) = .int v) (hdg : decode cc pc = .ok (.ireturn, 1)) : W p l e R s m args below meth c H locs 0 0 (QI below D cy A h args s v M) (F0 m pc ls [.int v]) :=
  W.zret X.1.1 X.1.2.1 hr hn (fun t ht hW => ⟨⟨v, (), rfl, rfl, by rw [ht]; exact hw.1, va_K.moved hW.alike X.2.1, hw.2.1⟩, hw.2.2.1.F ht⟩) hw.2.2.1.2.2 hdg hlk
theorem r_retL {v : Int64} (X : Cx p s m args c cc nL Ts own D cy A) (hw : Wd D cy A s.heap h M H locs) (hr : meth.sig.returnType = some .long) (hlk : meth.locks = false) (hdg : decode cc pc = .ok (.lreturn, 1)) : W p l e R s m args below meth c H locs 0 0 (QL below D cy A h args s v M) (F0 m pc ls [.long v]) :=
  W.lret X.1.1 X.1.2.1 hr (fun t ht hW => ⟨⟨v, (), rfl, rfl, by rw [ht]; exact hw.1, va_K.moved hW.alike X.2.1, hw.2.1⟩, hw.2.2.1.F ht⟩) hw.2.2.1.2.2 hdg hlk
theorem r_retV (X : Cx p s m args c cc nL Ts own D cy A) (hw : Wd D cy A s.heap h M H locs) (hr : meth.sig.returnType = none) (hlk : meth.locks = false) (hdg : decode cc pc = .ok (.return_, 1)) : W p l e R s m args below meth c H locs 0 0 (QV below D cy A h args s M) (F0 m pc ls []) :=
  W.vret X.1.1 X.1.2.1 hr (fun t ht hW => ⟨⟨(), rfl, trivial, by rw [ht]; exact hw.1, va_K.moved hW.alike X.2.1, hw.2.1⟩, hw.2.2.1.F ht⟩) hw.2.2.1.2.2 hdg hlk
theorem r_retQ {r : Option Nat} {rt : FieldType} (X : Cx p s m args c cc nL Ts own D cy A) (hw : Wd D cy A s.heap h M H locs) (hr : meth.sig.returnType = some rt) (hrt : (∃ n, rt = .object n) ∨ ∃ t, rt = .array t) (hlk : meth.locks = false) (hdg : decode cc pc = .ok (.areturn, 1)) : W p l e R s m args below meth c H locs 0 0 (QQ below D cy A h args s r M) (F0 m pc ls [va_rf r]) :=
  W.aret X.1.1 X.1.2.1 hr hrt (by cases r with | none => exact Or.inl rfl | some q => exact Or.inr ⟨q, rfl⟩) (fun t ht hW => ⟨⟨r, (), rfl, rfl, by rw [ht]; exact hw.1, va_K.moved hW.alike X.2.1, hw.2.1⟩, hw.2.2.1.F ht⟩) hw.2.2.1.2.2 hdg hlk
end PC
/-! entries -/
section PN
variable {l : Launch} {D : va_G} {cy : Nat → ClassId} {y : MethodName} {rm : Room} {cc : ByteArray} {maxL : Nat} {ret : Option FieldType} {As : List Value} {h : Hs} {M M' : Mm}
theorem enter_ {Qc : (Nat → Prop) → Array Value → State → Outcome → State → Prop} (hy : plainName y.cls = true) (hAs : (lg_sl As).length ≤ maxL)
    (body : ∀ (p : Program) (e : Env) (s : State) (m : MethodId) (args : Array Value) (below : List Frame) (meth : Method) (c : Code) (A : Nat → Prop) (ls : Array Slot), Cx p s m args c cc maxL gtbl y.cls D cy A → Wd D cy A s.heap h M s.heap [] → meth.sig.returnType = ret → meth.locks = false → lv_has ls maxL (lv_args 0 As) → W p l e rm s m args below meth c s.heap [] 0 0 (MQ below (Qc A) args s 0 0 A) (F0 m 0 ls [])) (sz : Nat) :
    Met l y (wu y cc maxL ret) rm (va_Pc As (PCs D cy h M sz)) (Qc (va_A (pool cy h M) sz)) 0 0 (va_A (pool cy h M) sz) := by
  refine Met.ofW (cc := cc) (maxL := maxL) (ret := ret) hy rfl ?_
  intro p e s m args below meth c s₁ B hml hv
  obtain ⟨rfl, hsz, hP, hK, hN, hD0, hF⟩ := hv
  have hts0 := atoms_spec (ws := wu y cc maxL ret) B.pre
  have hts : ∀ w ∈ gtbl, w.before As.toArray s = true := fun w hw => hts0 w (List.mem_cons_of_mem _ hw)
  have hown : s.vm.findClass y.cls = some m.cls := findClass_of_methodNamed B.named
  subst hsz
  have hD : va_D (va_A (pool cy h M) s.heap.size) (pool cy h M) := hD0.self (sz := s.heap.size)
  have hA : ∀ q : Nat, s.heap.size ≤ q → va_A (pool cy h M) s.heap.size q := fun q hq => Or.inr hq
  have hl := lv_entry As hAs
  rw [lg_entry_eq]
  generalize (lg_sl As ++ List.replicate (maxL - (lg_sl As).length) Slot.unset).toArray = ls at hl ⊢
  exact body p e s m As.toArray below meth c _ ls ⟨⟨B.exec, B.bytes, hml, hown, hts⟩, hK, hN, hF⟩ ⟨hP, hD, va_S.rf, hA⟩ B.returns B.notSynchronized hl
theorem enterI {r : Int32} (hy : plainName y.cls = true) (hAs : (lg_sl As).length ≤ maxL)
    (body : ∀ (p : Program) (e : Env) (s : State) (m : MethodId) (args : Array Value) (below : List Frame) (meth : Method) (c : Code) (A : Nat → Prop) (ls : Array Slot), Cx p s m args c cc maxL gtbl y.cls D cy A → Wd D cy A s.heap h M s.heap [] → meth.sig.returnType = ret → meth.locks = false → lv_has ls maxL (lv_args 0 As) → W p l e rm s m args below meth c s.heap [] 0 0 (QI below D cy A h args s r M') (F0 m 0 ls [])) : CtI l D cy y (wu y cc maxL ret) rm As h M r M' :=
  fun sz => enter_ (Qc := fun A => va_Qi (fun (r2 : Int32) (_ : Unit) => r2 = r) (fun _ => PEs D cy A h M') A) hy hAs body sz
theorem enterL {r : Int64} (hy : plainName y.cls = true) (hAs : (lg_sl As).length ≤ maxL)
    (body : ∀ (p : Program) (e : Env) (s : State) (m : MethodId) (args : Array Value) (below : List Frame) (meth : Method) (c : Code) (A : Nat → Prop) (ls : Array Slot), Cx p s m args c cc maxL gtbl y.cls D cy A → Wd D cy A s.heap h M s.heap [] → meth.sig.returnType = ret → meth.locks = false → lv_has ls maxL (lv_args 0 As) → W p l e rm s m args below meth c s.heap [] 0 0 (QL below D cy A h args s r M') (F0 m 0 ls [])) : CtL l D cy y (wu y cc maxL ret) rm As h M r M' :=
  fun sz => enter_ (Qc := fun A => va_Ql (fun (r2 : Int64) (_ : Unit) => r2 = r) (fun _ => PEs D cy A h M') A) hy hAs body sz
theorem enterV (hy : plainName y.cls = true) (hAs : (lg_sl As).length ≤ maxL)
    (body : ∀ (p : Program) (e : Env) (s : State) (m : MethodId) (args : Array Value) (below : List Frame) (meth : Method) (c : Code) (A : Nat → Prop) (ls : Array Slot), Cx p s m args c cc maxL gtbl y.cls D cy A → Wd D cy A s.heap h M s.heap [] → meth.sig.returnType = ret → meth.locks = false → lv_has ls maxL (lv_args 0 As) → W p l e rm s m args below meth c s.heap [] 0 0 (QV below D cy A h args s M') (F0 m 0 ls [])) : CtV l D cy y (wu y cc maxL ret) rm As h M M' :=
  fun sz => enter_ (Qc := fun A => va_Qv (fun (_ : Unit) => True) (fun _ => PEs D cy A h M') A) hy hAs body sz
theorem enterQ {r : Option Nat} (hy : plainName y.cls = true) (hAs : (lg_sl As).length ≤ maxL)
    (body : ∀ (p : Program) (e : Env) (s : State) (m : MethodId) (args : Array Value) (below : List Frame) (meth : Method) (c : Code) (A : Nat → Prop) (ls : Array Slot), Cx p s m args c cc maxL gtbl y.cls D cy A → Wd D cy A s.heap h M s.heap [] → meth.sig.returnType = ret → meth.locks = false → lv_has ls maxL (lv_args 0 As) → W p l e rm s m args below meth c s.heap [] 0 0 (QQ below D cy A h args s r M') (F0 m 0 ls [])) : CtQ l D cy y (wu y cc maxL ret) rm As h M r M' :=
  fun sz => enter_ (Qc := fun A => va_Qq (fun (r2 : Option Nat) (_ : Unit) => r2 = r) (fun _ => PEs D cy A h M') A) hy hAs body sz
end PN
