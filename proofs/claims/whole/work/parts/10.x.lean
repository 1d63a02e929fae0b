abbrev nse : String := "java/util/NoSuchElementException"
abbrev nsn : List String := ["java/lang/RuntimeException", "java/lang/Exception"]
abbrev nsb : ByteArray := prog_18_method_4_code
theorem ntr_a : ∀ w ∈ Bundle.throwableAtoms, vx_no w = true → w ∈ gtbl ∨ w ∈ nestW := List.forall_mem_cons.mpr ⟨fun _ => Or.inl (tb1 12 (by decide +kernel) (by decide +kernel)), List.forall_mem_cons.mpr ⟨fun _ => Or.inl (tb4 5 (by decide +kernel) (by decide +kernel)), List.forall_mem_cons.mpr ⟨fun _ => Or.inl (tb4 14 (by decide +kernel) (by decide +kernel)), List.forall_mem_cons.mpr ⟨fun _ => Or.inl (tb4 16 (by decide +kernel) (by decide +kernel)), List.forall_mem_cons.mpr ⟨fun _ => Or.inl (tb4 19 (by decide +kernel) (by decide +kernel)), List.forall_mem_cons.mpr ⟨fun _ => Or.inl (tb4 21 (by decide +kernel) (by decide +kernel)), List.forall_mem_cons.mpr ⟨fun _ => Or.inl (tb4 6 (by decide +kernel) (by decide +kernel)), List.forall_mem_cons.mpr ⟨fun _ => Or.inl (tb4 7 (by decide +kernel) (by decide +kernel)), List.forall_mem_cons.mpr ⟨fun _ => Or.inl (tb1 22 (by decide +kernel) (by decide +kernel)), List.forall_mem_cons.mpr ⟨fun _ => Or.inl (tb1 23 (by decide +kernel) (by decide +kernel)), List.forall_mem_cons.mpr ⟨fun _ => Or.inl (tb4 8 (by decide +kernel) (by decide +kernel)), List.forall_mem_cons.mpr ⟨fun _ => Or.inl (tb4 13 (by decide +kernel) (by decide +kernel)), List.forall_mem_cons.mpr ⟨fun _ => Or.inl (tb4 17 (by decide +kernel) (by decide +kernel)), List.forall_mem_cons.mpr ⟨fun _ => Or.inl (tb4 37 (by decide +kernel) (by decide +kernel)), List.forall_mem_cons.mpr ⟨fun _ => Or.inl (tb3 235 (by decide +kernel) (by decide +kernel)), List.forall_mem_cons.mpr ⟨fun _ => Or.inl (tb4 38 (by decide +kernel) (by decide +kernel)), List.forall_mem_cons.mpr ⟨fun _ => Or.inl (tb3 237 (by decide +kernel) (by decide +kernel)), List.forall_mem_cons.mpr ⟨fun _ => Or.inl (tb4 39 (by decide +kernel) (by decide +kernel)), List.forall_mem_cons.mpr ⟨fun _ => Or.inl (tb3 239 (by decide +kernel) (by decide +kernel)), List.forall_mem_cons.mpr ⟨fun _ => Or.inl (tb4 9 (by decide +kernel) (by decide +kernel)), List.forall_mem_cons.mpr ⟨fun h => absurd h (by decide +kernel), List.forall_mem_cons.mpr ⟨fun _ => Or.inl (tb4 11 (by decide +kernel) (by decide +kernel)), List.forall_mem_cons.mpr ⟨fun h => absurd h (by decide +kernel), List.forall_mem_cons.mpr ⟨fun _ => Or.inl (tb4 1 (by decide +kernel) (by decide +kernel)), fun _ q => nomatch q⟩⟩⟩⟩⟩⟩⟩⟩⟩⟩⟩⟩⟩⟩⟩⟩⟩⟩⟩⟩⟩⟩⟩⟩
theorem ntr_b : ∀ w ∈ Bundle.throwableSAtoms, vx_no w = true → w ∈ gtbl ∨ w ∈ nestW := List.forall_mem_cons.mpr ⟨fun _ => Or.inl (tb4 33 (by decide +kernel) (by decide +kernel)), List.forall_mem_cons.mpr ⟨fun _ => Or.inl (tb4 34 (by decide +kernel) (by decide +kernel)), List.forall_mem_cons.mpr ⟨fun _ => Or.inl (tb4 36 (by decide +kernel) (by decide +kernel)), List.forall_mem_cons.mpr ⟨fun _ => Or.inl (tb4 1 (by decide +kernel) (by decide +kernel)), fun _ q => nomatch q⟩⟩⟩⟩
theorem ntr_c : ∀ w ∈ nx_ch nse 13 nsb nsn, vx_no w = true → w ∈ gtbl ∨ w ∈ nestW := List.forall_mem_cons.mpr ⟨fun _ => Or.inl (tb4 24 (by decide +kernel) (by decide +kernel)), List.forall_mem_cons.mpr ⟨fun _ => Or.inl (tb4 25 (by decide +kernel) (by decide +kernel)), List.forall_mem_cons.mpr ⟨fun _ => Or.inl (tb4 26 (by decide +kernel) (by decide +kernel)), List.forall_mem_cons.mpr ⟨fun _ => Or.inl (tb4 27 (by decide +kernel) (by decide +kernel)), List.forall_mem_cons.mpr ⟨fun _ => Or.inr (List.mem_of_getElem? (i := 10) rfl), List.forall_mem_cons.mpr ⟨fun _ => Or.inl (tb4 27 (by decide +kernel) (by decide +kernel)), List.forall_mem_cons.mpr ⟨fun _ => Or.inl (tb4 28 (by decide +kernel) (by decide +kernel)), List.forall_mem_cons.mpr ⟨fun _ => Or.inl (tb4 29 (by decide +kernel) (by decide +kernel)), List.forall_mem_cons.mpr ⟨fun _ => Or.inl (tb4 30 (by decide +kernel) (by decide +kernel)), List.forall_mem_cons.mpr ⟨fun _ => Or.inr (List.mem_of_getElem? (i := 11) rfl), List.forall_mem_cons.mpr ⟨fun _ => Or.inl (tb4 30 (by decide +kernel) (by decide +kernel)), List.forall_mem_cons.mpr ⟨fun _ => Or.inl (tb4 31 (by decide +kernel) (by decide +kernel)), List.forall_mem_cons.mpr ⟨fun _ => Or.inl (tb4 32 (by decide +kernel) (by decide +kernel)), List.forall_mem_cons.mpr ⟨fun _ => Or.inl (tb4 33 (by decide +kernel) (by decide +kernel)), List.forall_mem_cons.mpr ⟨fun _ => Or.inr (List.mem_of_getElem? (i := 12) rfl), fun _ q => nomatch q⟩⟩⟩⟩⟩⟩⟩⟩⟩⟩⟩⟩⟩⟩⟩
theorem ntr_d : ∀ w ∈ ([.methodLink RX8 154 (Bundle.initS nse), .instantiable nse 6, .castable nse nse, .selects nse Bundle.tFill0 Bundle.tFill0, .selects nse Bundle.tFill Bundle.tFill, .lays nse Bundle.tN "cause" "Ljava/lang/Throwable;", .lays nse Bundle.tN "stackTrace" Bundle.steD, .lays nse Bundle.tN "suppressedExceptions" Bundle.listD, .lays nse Bundle.tN "detailMessage" "Ljava/lang/String;", .isRef (.static Bundle.tN "UNASSIGNED_STACK" Bundle.steD), .isRef (.static Bundle.tN "SUPPRESSED_SENTINEL" Bundle.listD), .fieldLink Bundle.tN 198 Bundle.tN "backtrace" "Ljava/lang/Object;", .lays Bundle.tN Bundle.tN "backtrace" "Ljava/lang/Object;", .lays nse Bundle.tN "backtrace" "Ljava/lang/Object;"] : List Cond), vx_no w = true → w ∈ gtbl ∨ w ∈ nestW := List.forall_mem_cons.mpr ⟨fun _ => Or.inl (tb4 23 (by decide +kernel) (by decide +kernel)), List.forall_mem_cons.mpr ⟨fun _ => Or.inl (tb3 224 (by decide +kernel) (by decide +kernel)), List.forall_mem_cons.mpr ⟨fun _ => Or.inr (List.mem_of_getElem? (i := 13) rfl), List.forall_mem_cons.mpr ⟨fun _ => Or.inl (tb3 232 (by decide +kernel) (by decide +kernel)), List.forall_mem_cons.mpr ⟨fun _ => Or.inl (tb3 233 (by decide +kernel) (by decide +kernel)), List.forall_mem_cons.mpr ⟨fun _ => Or.inl (tb3 234 (by decide +kernel) (by decide +kernel)), List.forall_mem_cons.mpr ⟨fun _ => Or.inl (tb3 236 (by decide +kernel) (by decide +kernel)), List.forall_mem_cons.mpr ⟨fun _ => Or.inl (tb3 238 (by decide +kernel) (by decide +kernel)), List.forall_mem_cons.mpr ⟨fun _ => Or.inl (tb4 0 (by decide +kernel) (by decide +kernel)), List.forall_mem_cons.mpr ⟨fun h => absurd h (by decide +kernel), List.forall_mem_cons.mpr ⟨fun h => absurd h (by decide +kernel), List.forall_mem_cons.mpr ⟨fun _ => Or.inl (tb4 4 (by decide +kernel) (by decide +kernel)), List.forall_mem_cons.mpr ⟨fun _ => Or.inl (tb4 3 (by decide +kernel) (by decide +kernel)), List.forall_mem_cons.mpr ⟨fun _ => Or.inl (tb4 2 (by decide +kernel) (by decide +kernel)), fun _ q => nomatch q⟩⟩⟩⟩⟩⟩⟩⟩⟩⟩⟩⟩⟩⟩
theorem ntr_in : ∀ w ∈ nx_atS RX8 154 nse 13 nsb nsn, w ∈ gtbl ∨ w ∈ nestW := by
  intro w hw
  obtain ⟨h1, h2⟩ := List.mem_filter.mp hw
  refine (?_ : vx_no w = true → w ∈ gtbl ∨ w ∈ nestW) h2
  rcases List.mem_append.mp h1 with h3 | h3
  · rcases List.mem_append.mp h3 with h4 | h4
    · rcases List.mem_append.mp h4 with h5 | h5
      · exact ntr_a w h5
      · exact ntr_b w h5
    · exact ntr_c w h4
  · exact ntr_d w h3
theorem nestW_on : ∀ w ∈ nestW, w.onTables = true := by decide +kernel
theorem ntr_ot : ∀ w ∈ Cond.classLink RX8 150 nse :: Cond.initialized nse :: nx_atS RX8 154 nse 13 nsb nsn, vx_ot w = true := by
  intro w hw
  rcases List.mem_cons.mp hw with rfl | hw
  · rfl
  rcases List.mem_cons.mp hw with rfl | hw
  · rfl
  unfold vx_ot
  rcases ntr_in w hw with q | q
  · rw [(List.mem_filter.mp q).2, Bool.or_true]
  · rw [nestW_on w q, Bool.true_or]
def CtXI (l : Launch) (D : va_G) (cy : Nat → ClassId) (y : MethodName) (ws : List Cond) (rm : Room) (As : List Value) (h : Hs) (M : Mm) (r : Option Int32) (M' : Mm) : Prop := ∀ sz : Nat, vx_Met l y ws rm (va_Pc As (PCs D cy h M sz)) (va_Qi (fun (r2 : Int32) (_ : Unit) => r = some r2) (fun _ => PEs D cy (va_A (pool cy h M) sz) h M') (va_A (pool cy h M) sz)) (vx_X (fun _ : Unit => r = none) (fun E _ t => E = nse ∧ PEs D cy (va_A (pool cy h M) sz) h M' t) (va_A (pool cy h M) sz)) 1 6 (va_A (pool cy h M) sz)
def CtXL (l : Launch) (D : va_G) (cy : Nat → ClassId) (y : MethodName) (ws : List Cond) (rm : Room) (As : List Value) (h : Hs) (M : Mm) (r : Option Int64) (M' : Mm) : Prop := ∀ sz : Nat, vx_Met l y ws rm (va_Pc As (PCs D cy h M sz)) (va_Ql (fun (r2 : Int64) (_ : Unit) => r = some r2) (fun _ => PEs D cy (va_A (pool cy h M) sz) h M') (va_A (pool cy h M) sz)) (vx_X (fun _ : Unit => r = none) (fun E _ t => E = nse ∧ PEs D cy (va_A (pool cy h M) sz) h M' t) (va_A (pool cy h M) sz)) 1 6 (va_A (pool cy h M) sz)
def QXI (below : List Frame) (D : va_G) (cy : Nat → ClassId) (A : Nat → Prop) (h : Hs) (args : Array Value) (s : State) (r : Option Int32) (M' : Mm) : State → Prop := vx_MQ below (va_Qi (fun (r2 : Int32) (_ : Unit) => r = some r2) (fun _ => PEs D cy A h M') A) (vx_X (fun _ : Unit => r = none) (fun E _ t => E = nse ∧ PEs D cy A h M' t) A) args s 1 6 A
def QXL (below : List Frame) (D : va_G) (cy : Nat → ClassId) (A : Nat → Prop) (h : Hs) (args : Array Value) (s : State) (r : Option Int64) (M' : Mm) : State → Prop := vx_MQ below (va_Ql (fun (r2 : Int64) (_ : Unit) => r = some r2) (fun _ => PEs D cy A h M') A) (vx_X (fun _ : Unit => r = none) (fun E _ t => E = nse ∧ PEs D cy A h M' t) A) args s 1 6 A
section PX
variable {p : Program} {l : Launch} {e : Env} {R : Room} {s : State} {m : MethodId} {args : Array Value} {below : List Frame} {meth : Method} {c : Code} {H : Heap} {locs : List Loc}
variable {cc : ByteArray} {pc nL : Nat} {ls : Array Slot} {rest : List Value} {D : va_G} {cy : Nat → ClassId} {A : Nat → Prop} {h : Hs} {M : Mm} {Ts : List Cond}
theorem r_retXI {v : Int32} {ty : FieldType} {own : String} (X : Cx p s m args c cc nL Ts own D cy A) (hw : Wd D cy A s.heap h M H locs) (hr : meth.sig.returnType = some ty) (hlk : meth.locks = false) (hn : narrow ty (.int v) = .int v) (hdg : decode cc pc = .ok (.ireturn, 1)) : W p l e R s m args below meth c H locs 0 0 (QXI below D cy A h args s (some v) M) (F0 m pc ls [.int v]) := by
  refine W.widen (k := 1) (n := 6) (by omega) (by omega) ?_
  exact vx_ret (W.zret X.1.1 X.1.2.1 hr hn (fun t ht hW => ⟨⟨v, (), rfl, rfl, by rw [ht]; exact hw.1, va_K.moved hW.alike X.2.1, hw.2.1⟩, hw.2.2.1.F ht⟩) hw.2.2.1.2.2 hdg hlk)
theorem r_retXL {v : Int64} {own : String} (X : Cx p s m args c cc nL Ts own D cy A) (hw : Wd D cy A s.heap h M H locs) (hr : meth.sig.returnType = some .long) (hlk : meth.locks = false) (hdg : decode cc pc = .ok (.lreturn, 1)) : W p l e R s m args below meth c H locs 0 0 (QXL below D cy A h args s (some v) M) (F0 m pc ls [.long v]) := by
  refine W.widen (k := 1) (n := 6) (by omega) (by omega) ?_
  exact vx_ret (W.lret X.1.1 X.1.2.1 hr (fun t ht hW => ⟨⟨v, (), rfl, rfl, by rw [ht]; exact hw.1, va_K.moved hW.alike X.2.1, hw.2.1⟩, hw.2.2.1.F ht⟩) hw.2.2.1.2.2 hdg hlk)
theorem Wd.alike {own : String} (X : Cx p s m args c cc nL Ts own D cy A) (hw : Wd D cy A s.heap h M H locs) {t : State} (hv : s.vm.Alike t.vm) (hz : H.size ≤ t.heap.size) (hk : ∀ q : Nat, q < H.size → t.heap[q]? = H[q]?) : PEs D cy A h M t ∧ va_F A s t := by
  refine ⟨⟨fun k q hq => ?_, va_K.moved hv X.2.1, hw.2.1⟩, Nat.le_trans hw.2.2.1.1 hz, fun q hq hA => ?_⟩
  · exact (hw.1 k q hq).kept (hk _ (hw.1 k q hq).lt)
  · rw [hk q (Nat.lt_of_lt_of_le hq hw.2.2.1.1)]; exact hw.2.2.1.2.1 q hq hA
theorem r_throwI {is : Nat} {text : String} (X : Cx p s m args c cc nL gtbl RX8 D cy A) (hw : Wd D cy A s.heap h M H locs) (hl : l.stackTraces = false) (hstr : ∃ sa : Nat, vk_R RX8 is text sa s) (hsz : ls.size = nL)
    (d0 : decode cc pc = .ok (.new 150, 3)) (d3 : decode cc (pc + 3) = .ok (.dup, 1)) (d4 : decode cc (pc + 4) = .ok (.ldc is, 2)) (d6 : decode cc (pc + 6) = .ok (.invokespecial 154, 3)) (d9 : decode cc (pc + 9) = .ok (.athrow, 1))
    (hout : ∀ x ∈ c.exceptionTable.toList, False) (hR : 5 < R.frames ∧ (rest.map fun v => v.category).sum + 82 ≤ R.locals ∧ 1 ≤ R.cells ∧ 6 ≤ R.slots) (hlk : meth.locks = false) :
    W p l e R s m args below meth c H locs 0 0 (QXI below D cy A h args s none M) (F0 m pc ls rest) := by
  obtain ⟨sa, hstr⟩ := hstr
  refine nx_throwS (ix := 13) (rx := nsb) (x0 := by decide +kernel) (x1 := by decide +kernel) (x2 := by decide +kernel) (x5 := by decide +kernel) (names := nsn) (ik := 150) (is := is) (ic := 154) (cls := "java/util/NoSuchElementException") X.1.1 X.1.2.1 hl X.1.2.2.2.1 (by decide +kernel) (by decide +kernel) (X.1.2.2.2.2 _ ul_X8_150) (X.1.2.2.2.2 _ un_java_util_NoSuchElementException) hstr ?_ ntr_ot X.2.2.2.2.1 X.2.2.2.2.2.1 hw.2.2.1 (hsz.trans X.1.2.2.1.symm) d0 d3 d4 d6 d9 (fun x hx => (hout x hx).elim) hR.1 hR.2.1 (by have := hR.2.2.1; omega) (by have := hR.2.2.2; omega) hlk (fun t hv hz hk => ?_) hw.2.2.1.2.2 (Nat.le_refl _) (Nat.le_refl _)
  · intro w hw
    rcases ntr_in w hw with q | q
    · exact X.1.2.2.2.2 w q
    · exact va_Nw.use (nestW_on w q) (X.2.2.1.1 w q)
  · obtain ⟨z1, z2⟩ := hw.alike X hv hz hk
    exact ⟨(), rfl, ⟨rfl, z1⟩, z2⟩
theorem r_throwL {is : Nat} {text : String} (X : Cx p s m args c cc nL gtbl RX8 D cy A) (hw : Wd D cy A s.heap h M H locs) (hl : l.stackTraces = false) (hstr : ∃ sa : Nat, vk_R RX8 is text sa s) (hsz : ls.size = nL)
    (d0 : decode cc pc = .ok (.new 150, 3)) (d3 : decode cc (pc + 3) = .ok (.dup, 1)) (d4 : decode cc (pc + 4) = .ok (.ldc is, 2)) (d6 : decode cc (pc + 6) = .ok (.invokespecial 154, 3)) (d9 : decode cc (pc + 9) = .ok (.athrow, 1))
    (hout : ∀ x ∈ c.exceptionTable.toList, False) (hR : 5 < R.frames ∧ (rest.map fun v => v.category).sum + 82 ≤ R.locals ∧ 1 ≤ R.cells ∧ 6 ≤ R.slots) (hlk : meth.locks = false) :
    W p l e R s m args below meth c H locs 0 0 (QXL below D cy A h args s none M) (F0 m pc ls rest) := by
  obtain ⟨sa, hstr⟩ := hstr
  refine nx_throwS (ix := 13) (rx := nsb) (x0 := by decide +kernel) (x1 := by decide +kernel) (x2 := by decide +kernel) (x5 := by decide +kernel) (names := nsn) (ik := 150) (is := is) (ic := 154) (cls := "java/util/NoSuchElementException") X.1.1 X.1.2.1 hl X.1.2.2.2.1 (by decide +kernel) (by decide +kernel) (X.1.2.2.2.2 _ ul_X8_150) (X.1.2.2.2.2 _ un_java_util_NoSuchElementException) hstr ?_ ntr_ot X.2.2.2.2.1 X.2.2.2.2.2.1 hw.2.2.1 (hsz.trans X.1.2.2.1.symm) d0 d3 d4 d6 d9 (fun x hx => (hout x hx).elim) hR.1 hR.2.1 (by have := hR.2.2.1; omega) (by have := hR.2.2.2; omega) hlk (fun t hv hz hk => ?_) hw.2.2.1.2.2 (Nat.le_refl _) (Nat.le_refl _)
  · intro w hw
    rcases ntr_in w hw with q | q
    · exact X.1.2.2.2.2 w q
    · exact va_Nw.use (nestW_on w q) (X.2.2.1.1 w q)
  · obtain ⟨z1, z2⟩ := hw.alike X hv hz hk
    exact ⟨(), rfl, ⟨rfl, z1⟩, z2⟩
end PX
section PXN
variable {l : Launch} {D : va_G} {cy : Nat → ClassId} {y : MethodName} {rm : Room} {cc : ByteArray} {maxL : Nat} {ret : Option FieldType} {As : List Value} {h : Hs} {M M' : Mm}
theorem enterX_ {Qc : (Nat → Prop) → Array Value → State → Outcome → State → Prop} {XC : (Nat → Prop) → String → State → State → Prop} (hy : plainName y.cls = true) (hAs : (lg_sl As).length ≤ maxL)
    (body : ∀ (p : Program) (e : Env) (s : State) (m : MethodId) (args : Array Value) (below : List Frame) (meth : Method) (c : Code) (A : Nat → Prop) (ls : Array Slot), Cx p s m args c cc maxL gtbl y.cls D cy A → Wd D cy A s.heap h M s.heap [] → meth.sig.returnType = ret → meth.locks = false → (∀ x ∈ c.exceptionTable.toList, False) → lv_has ls maxL (lv_args 0 As) → W p l e rm s m args below meth c s.heap [] 0 0 (vx_MQ below (Qc A) (XC A) args s 1 6 A) (F0 m 0 ls [])) (sz : Nat) :
    vx_Met l y (wu y cc maxL ret) rm (va_Pc As (PCs D cy h M sz)) (Qc (va_A (pool cy h M) sz)) (XC (va_A (pool cy h M) sz)) 1 6 (va_A (pool cy h M) sz) := by
  refine vx_ofW (cc := cc) (maxL := maxL) (ret := ret) hy rfl ?_
  intro p e s m args below meth c s₁ B hml hout hv
  obtain ⟨rfl, hsz, hP, hK, hN, hD0, hF⟩ := hv
  have hts0 := atoms_spec (ws := wu y cc maxL ret) B.pre
  have hts : ∀ w ∈ gtbl, w.before As.toArray s = true := fun w hw => hts0 w (List.mem_cons_of_mem _ hw)
  have hown : s.vm.findClass y.cls = some m.cls := findClass_of_methodNamed B.named
  subst hsz
  have hD : va_D (va_A (pool cy h M) s.heap.size) (pool cy h M) := hD0.self (sz := s.heap.size)
  have hA : ∀ q : Nat, s.heap.size ≤ q → va_A (pool cy h M) s.heap.size q := fun q hq => Or.inr hq
  have hl := lv_entry As hAs
  rw [lg_entry_eq]
  generalize (lg_sl As ++ List.replicate (maxL - (lg_sl As).length) Slot.unset).toArray = ls at hl ⊢
  exact body p e s m As.toArray below meth c _ ls ⟨⟨B.exec, B.bytes, hml, hown, hts⟩, hK, hN, hF⟩ ⟨hP, hD, va_S.rf, hA⟩ B.returns B.notSynchronized hout hl
theorem enterXI {r : Option Int32} (hy : plainName y.cls = true) (hAs : (lg_sl As).length ≤ maxL)
    (body : ∀ (p : Program) (e : Env) (s : State) (m : MethodId) (args : Array Value) (below : List Frame) (meth : Method) (c : Code) (A : Nat → Prop) (ls : Array Slot), Cx p s m args c cc maxL gtbl y.cls D cy A → Wd D cy A s.heap h M s.heap [] → meth.sig.returnType = ret → meth.locks = false → (∀ x ∈ c.exceptionTable.toList, False) → lv_has ls maxL (lv_args 0 As) → W p l e rm s m args below meth c s.heap [] 0 0 (QXI below D cy A h args s r M') (F0 m 0 ls [])) : CtXI l D cy y (wu y cc maxL ret) rm As h M r M' :=
  fun sz => enterX_ (Qc := fun A => va_Qi (fun (r2 : Int32) (_ : Unit) => r = some r2) (fun _ => PEs D cy A h M') A) (XC := fun A => vx_X (fun _ : Unit => r = none) (fun E _ t => E = nse ∧ PEs D cy A h M' t) A) hy hAs body sz
theorem enterXL {r : Option Int64} (hy : plainName y.cls = true) (hAs : (lg_sl As).length ≤ maxL)
    (body : ∀ (p : Program) (e : Env) (s : State) (m : MethodId) (args : Array Value) (below : List Frame) (meth : Method) (c : Code) (A : Nat → Prop) (ls : Array Slot), Cx p s m args c cc maxL gtbl y.cls D cy A → Wd D cy A s.heap h M s.heap [] → meth.sig.returnType = ret → meth.locks = false → (∀ x ∈ c.exceptionTable.toList, False) → lv_has ls maxL (lv_args 0 As) → W p l e rm s m args below meth c s.heap [] 0 0 (QXL below D cy A h args s r M') (F0 m 0 ls [])) : CtXL l D cy y (wu y cc maxL ret) rm As h M r M' :=
  fun sz => enterX_ (Qc := fun A => va_Ql (fun (r2 : Int64) (_ : Unit) => r = some r2) (fun _ => PEs D cy A h M') A) (XC := fun A => vx_X (fun _ : Unit => r = none) (fun E _ t => E = nse ∧ PEs D cy A h M' t) A) hy hAs body sz
end PXN
