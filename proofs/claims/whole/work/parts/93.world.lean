/-! THE LAW: two pools, what is made, what the start gives -/
theorem nd_of {cy : Nat → ClassId} {A : Nat → Prop} {h : Hs} {M : Mm} (hD : va_D A (pool cy h M)) : (zL h).Nodup := by
  unfold List.Nodup
  rw [List.pairwise_iff_getElem]
  intro i j hi hj hij e
  have g : ∀ k, (hk : k < (zL h).length) → (pool cy h M)[k]? = some ((zL h)[k], cel cy h M (zL h)[k]) := fun k hk => by
    unfold pool va_pl
    rw [List.getElem?_map, List.getElem?_eq_getElem hk]
    rfl
  have := hD.1 i j _ _ (g i hi) (g j hj) e
  omega
theorem guSW {own : String} {idx : Nat} {y : MethodName} {cc : ByteArray} {n : Nat} {ret : Option FieldType} {hh : List (Nat × Nat × Nat × Nat)} (hl : Cond.methodLink own idx y ∈ gtbl) (hs : Cond.static y ∈ gtbl) (hn : Cond.initialized y.cls ∈ gtbl) (ho : Cond.codeWith y cc n ret hh ∈ gtbl) : GoodIn gtbl (va_wsS own idx y (wuW y cc n ret hh)) := fun w hw => by
  unfold va_wsS at hw
  rcases List.mem_append.mp hw with h | h
  · simp only [List.mem_cons, List.not_mem_nil, or_false] at h
    rcases h with rfl | rfl | rfl
    · exact gu hl
    · exact gu hs
    · exact gu hn
  · unfold wuW at h
    rcases List.mem_cons.mp h with rfl | h
    · exact gu ho
    · exact gu h
section P4
variable {p : Program} {l : Launch} {e : Env} {R : Room} {s : State} {m : MethodId} {args : Array Value} {below : List Frame} {meth : Method} {c : Code} {H : Heap} {locs : List Loc} {cells slots : Nat} {Q : State → Prop}
variable {cc : ByteArray} {pc nL : Nat} {ls : Array Slot} {rest : List Value} {D : va_G} {cy : Nat → ClassId} {A : Nat → Prop} {h1 h2 : Hs} {M1 M2 : Mm} {own : String}
variable {y : MethodName} {bytes : ByteArray} {maxL n index : Nat} {ws : List Cond} {rm : Room} {As st0 : List Value}
theorem Wd2.nd (hw : Wd2 D cy A s.heap h1 M1 h2 M2 H locs) : (zL h1).Nodup := nd_of hw.one.2.1
theorem l_new2 {k : Nat} (X : Cx p s m args c cc nL gtbl own D cy A) (hw : Wd2 D cy A s.heap h1 M1 h2 M2 H locs) {C : String} {T : u_T} {N : Nat} {ty : Nat → FieldType} (hC : vwCl[k]? = some (C, T, N)) (hin : ∀ w ∈ u_ws C T N, w ∈ gtbl) (hty : ∀ j, j < N → parseFieldDescriptor (T j).2.2.1 = some (ty j)) (hcl : Cond.classLink own index C ∈ gtbl) (hinst : Cond.instantiable C N ∈ gtbl) (hini : Cond.initialized C ∈ gtbl) (hk : k < 10)
    (hfs : ∀ j, j < N → defaultValue (ty j) = vp_V ((kT k).map (fun c => match c with | 0 => Value.int 0 | 1 => .long 0 | _ => .null)) j) (hcells : cells + 1 ≤ R.cells) (hslots : slots + N ≤ R.slots) (hdg : decode cc pc = .ok (.new index, 3))
    (kk : ∀ (q : Nat) (H1 : Heap), q ∉ zL h2 → Wd2 D cy A s.heap h1 M1 (nh h2 q k 0) (nm M2 q) H1 locs → W p l e R s m args below meth c H1 locs (cells + 1) (slots + N) Q (F0 m (pc + 3) ls (.ref q :: rest))) : W p l e R s m args below meth c H locs cells slots Q (F0 m pc ls rest) := by
  obtain ⟨⟨hx, hb, -, hown, hts⟩, hK, -, -⟩ := X
  obtain ⟨hP, hD, hS, hA⟩ := hw
  refine va_new (fs := (kT k).map (fun c => match c with | 0 => Value.int 0 | 1 => .long 0 | _ => .null)) hx hb hts hin ty hty hown (hts _ hcl) (hts _ hinst) (hts _ hini) hK hP hD hS hA hC hfs hcells hslots hdg (fun q H1 hP1 hD1 hS1 => ?_)
  rw [List.append_assoc] at hP1 hD1
  have hq := pool_fresh (va_D.iff2.mp hD1).2.1
  rw [pool_push (k := k) (n := 0) hq (by rw [cel_obj nh_K hk, flds_new]; rfl)] at hP1 hD1
  exact kk q H1 hq ⟨hP1, hD1, hS1, hA⟩
theorem l_newaJ2 {n : Int32} {N : Nat} (X : Cx p s m args c cc nL gtbl own D cy A) (hw : Wd2 D cy A s.heap h1 M1 h2 M2 H locs) (hn : ¬ n < 0) (hN : n.toNatClampNeg = N) (hb4 : N ≤ 100000) (hcells : cells + 1 ≤ R.cells) (hslots : slots + N ≤ R.slots) (hdg : decode cc pc = .ok (.newarray .long, 2))
    (kk : ∀ (q : Nat) (H1 : Heap), q ∉ zL h2 → Wd2 D cy A s.heap h1 M1 (nh h2 q 12 N) (nm M2 q) H1 locs → W p l e R s m args below meth c H1 locs (cells + 1) (slots + N) Q (F0 m (pc + 2) ls (.ref q :: rest))) : W p l e R s m args below meth c H locs cells slots Q (F0 m pc ls (.int n :: rest)) := by
  obtain ⟨⟨hx, hb, -, hown, hts⟩, hK, -, -⟩ := X
  obtain ⟨hP, hD, hS, hA⟩ := hw
  refine va_newa (atype := .long) (a0 := (N, .inr (.inl (fun _ => 0)))) hx hb (hts _ ua_long) rfl hK hP hD hS hA (fun cA => rfl) hn hN (by show N * 8 ≤ _; omega) hcells hslots hdg (fun q cA H1 hK1 hP1 hD1 hS1 => ?_)
  rw [List.append_assoc] at hP1 hD1
  have hq := pool_fresh (va_D.iff2.mp hD1).2.1
  cases X.cls_eq (i := 2) (k := 12) hK1 (by decide) rfl
  rw [pool_push (k := 12) (n := N) hq (by rw [cel_J nh_K, nh_N, nm_J])] at hP1 hD1
  exact kk q H1 hq ⟨hP1, hD1, hS1, hA⟩
theorem l_init1 {b mc ms : Nat} {P : Hs × Mm → Prop} (X : Cx p s m args c cc nL gtbl own D cy A) (hw : Wd2 D cy A s.heap h1 M1 h2 M2 H locs) (hc : CtN l D cy y ws rm (.ref b :: As) h1 M1 P mc ms) (cw : CallB R s args own index y bytes maxL none ws rm mc ms n ∧ y.name = "<init>" ∧ (Cond.instanceMethod y).before args s = true) (hn : As.length = n) (hl : ls.size = nL) (hst : st0 = As.reverse ++ .ref b :: rest) (hW : (rest.map fun v => v.category).sum ≤ 8) (hdg : decode cc pc = .ok (.invokespecial index, 3)) (hf : cells + mc ≤ R.cells ∧ slots + ms ≤ R.slots)
    (kk : ∀ (u : Hs × Mm) (H1 : Heap) (locs1 : List Loc), P u → Wd2 D cy A s.heap u.1 u.2 h2 M2 H1 locs1 → W p l e R s m args below meth c H1 locs1 (cells + mc) (slots + ms) Q (F0 m (pc + 3) ls rest)) : W p l e R s m args below meth c H locs cells slots Q (F0 m pc ls st0) := by
  have w1 := hw.one
  refine va_callv (va_runI (As := As) (rest := rest) X.1 (hc H.size) cw ⟨PCs.blind, fun U hU hW => PCs.of X w1 hU hW⟩ rfl hn hl hst (lv_room hW) hdg hf) w1.2.2.1 (fun q _ z => w1.free q z) w1.free (fun u t H1 locs1 ht hvm hr hB hz hk1 hS => ?_)
  obtain ⟨hP1, -, hD1⟩ := hB
  rw [ht] at hP1
  exact kk u H1 locs1 hr (hw.next1 hP1 hD1 hk1 hS)
/-- one int of the script: place n + kn -/
theorem l_arg {b L i kn : Nat} {kv : Int} {xs : Nat → Int32} (hx : p.tables.exec = Jvm.exec) (hb : c.code = cc) (hS : va_S A s.heap H locs) (hX : va_X b L xs s s.heap) (hbl : b < s.heap.size) (hbA : ¬ A b) (hL : L ≤ 3072) (hk : i + kn < L) (h0 : ls[0]? = some (.val (.ref b))) (h4 : ls[4]? = some (.val (.int (Int32.ofNat i)))) (hkv : Int32.ofInt kv = Int32.ofNat kn)
    (d0 : decode cc pc = .ok (.aload_n 0, 1)) (d1 : decode cc (pc + 1) = .ok (.iload 4, 2)) (d3 : decode cc (pc + 3) = .ok (.iconst kv, 1)) (d4 : decode cc (pc + 4) = .ok (.iadd, 1)) (d5 : decode cc (pc + 5) = .ok (.iaload, 1))
    (kk : W p l e R s m args below meth c H locs cells slots Q (F0 m (pc + 6) ls (.int (xs (i + kn)) :: rest))) : W p l e R s m args below meth c H locs cells slots Q (F0 m pc ls rest) := by
  refine lv_aload_n hx hb d0 rfl h0 ?_
  refine lv_iload hx hb d1 h4 ?_
  refine lv_iconst (v := Int32.ofNat kn) hx hb d3 hkv ?_
  refine lv_iadd hx hb d4 ?_
  rw [i_add]
  refine va_sld hx hb hX hbl hbA hS (i := Int32.ofNat (i + kn)) (by show inb _ _; rw [i_inb (by omega)]; exact hk) d5 ?_
  rw [i_nat (by omega)]
  exact kk
end P4
/-! the classes of arrays, out of the tables' words -/
theorem kA_of {args : Array Value} {s : State} {ty : FieldType} (h : (Cond.arrayClass ty).before args s = true) : ∃ cA : ClassId, ArrOfT s cA ty ∧ s.vm.findClass ("[" ++ ty.toString) = some cA := by
  obtain ⟨cA, kA, comp, h1, h2, h3⟩ := Cond.arrayClass_spec h
  exact ⟨cA, fun n z => ⟨fun k h => (by cases h), kA, h2, comp, h3⟩, h1⟩
theorem kO_of {args : Array Value} {s : State} {C : String} (h : (Cond.arrayOver (.object C)).before args s = true) : ∃ cA : ClassId, ArrOfT s cA (.object C) ∧ va_RA s cA (.object C) := by
  obtain ⟨comp, c, k, h1, h2, h3, h4, h5⟩ := Cond.arrayOver_spec h
  exact ⟨c, fun n z => ⟨fun k h => (by cases h), k, h3, comp, h4⟩, k, comp, h3, h4, h1, h5⟩
