/-! what makes cells: the store with a new address, and the rows of constructors -/
def nh (h : Hs) (q k n : Nat) : Hs := (zL h ++ [q], va_up (zK h) q k, va_up (zN h) q n, fun b j => if b = q then none else zR h b j)
def nm (M : Mm) (q : Nat) : Mm := (fun b j => if b = q then 0 else zI M b j, fun b j => if b = q then 0 else zJ M b j)
def setR (h : Hs) (a j : Nat) (r : Option Nat) : Hs := (zL h, zK h, zN h, up2 (zR h) a j r)
theorem nh_K {h : Hs} {q k n : Nat} : zK (nh h q k n) q = k := by simp [zK, nh, va_up]
theorem nh_N {h : Hs} {q k n : Nat} : zN (nh h q k n) q = n := by simp [zN, nh, va_up]
theorem nh_L {h : Hs} {q k n : Nat} : zL (nh h q k n) = zL h ++ [q] := rfl
theorem nh_Kn {h : Hs} {q k n b : Nat} (hb : b ≠ q) : zK (nh h q k n) b = zK h b := by simp [zK, nh, va_up, hb]
theorem nh_Nn {h : Hs} {q k n b : Nat} (hb : b ≠ q) : zN (nh h q k n) b = zN h b := by simp [zN, nh, va_up, hb]
theorem nh_Rn {h : Hs} {q k n b : Nat} (hb : b ≠ q) : zR (nh h q k n) b = zR h b := by funext j; simp [zR, nh, hb]
theorem nh_R {h : Hs} {q k n : Nat} : zR (nh h q k n) q = fun _ => none := by funext j; simp [zR, nh]
theorem nm_I {M : Mm} {q : Nat} : zI (nm M q) q = fun _ => 0 := by funext j; simp [zI, nm]
theorem nm_J {M : Mm} {q : Nat} : zJ (nm M q) q = fun _ => 0 := by funext j; simp [zJ, nm]
theorem nm_In {M : Mm} {q b : Nat} (hb : b ≠ q) : zI (nm M q) b = zI M b := by funext j; simp [zI, nm, hb]
theorem nm_Jn {M : Mm} {q b : Nat} (hb : b ≠ q) : zJ (nm M q) b = zJ M b := by funext j; simp [zJ, nm, hb]
theorem nh_ok {h : Hs} {q k n : Nat} : ok (nh h q k n) q k := ⟨by rw [nh_L]; simp, nh_K⟩
theorem ok_nh {h : Hs} {q k n b kb : Nat} (hq : q ∉ zL h) (g : ok h b kb) : ok (nh h q k n) b kb := by
  have hb : b ≠ q := fun e => hq (e ▸ g.1)
  exact ⟨by rw [nh_L]; exact List.mem_append_left _ g.1, by rw [nh_Kn hb]; exact g.2⟩
theorem ok_setR {h : Hs} {a j b k : Nat} {r : Option Nat} (g : ok h b k) : ok (setR h a j r) b k := g
theorem cel_nh {cy : Nat → ClassId} {h : Hs} {M : Mm} {q k n b : Nat} (hb : b ≠ q) : cel cy (nh h q k n) (nm M q) b = cel cy h M b := by
  unfold cel flds fv
  simp only [nh_Kn hb, nh_Nn hb, nh_Rn hb, nm_In hb, nm_Jn hb]
theorem flds_new {h : Hs} {M : Mm} {q k n k' : Nat} : flds (nh h q k n) (nm M q) q k' = (kT k').map (fun c => match c with
    | 0 => Value.int 0
    | 1 => .long 0
    | _ => .null) := by
  apply List.ext_getElem?
  intro i
  cases hc : (kT k')[i]? with
  | none => simp [flds, hc]
  | some c =>
    rw [flds_get hc, List.getElem?_map, hc]
    simp only [fv, nm_I, nm_J, nh_R, Option.map_some]
    match c with
    | 0 => rfl
    | 1 => rfl
    | c + 2 => rfl
theorem pool_push {cy : Nat → ClassId} {h : Hs} {M : Mm} {q k n : Nat} {e : va_E} (hq : q ∉ zL h) (he : cel cy (nh h q k n) (nm M q) q = e) : pool cy h M ++ [(q, e)] = pool cy (nh h q k n) (nm M q) := by
  unfold pool
  rw [va_pl_push hq, nh_L]
  unfold va_pl
  apply List.map_congr_left
  intro b _
  by_cases hb : b = q
  · subst hb; simp [va_up, he]
  · simp [va_up, hb, cel_nh hb]
theorem pool_fresh {cy : Nat → ClassId} {A : Nat → Prop} {h : Hs} {M : Mm} {q : Nat} {e : va_E} (hD : va_D A (pool cy h M ++ [(q, e)])) : q ∉ zL h := by
  intro hm
  obtain ⟨k, hk⟩ := pool_get (cy := cy) (M := M) hm
  have hlt : k < (pool cy h M).length := (List.getElem?_eq_some_iff.mp hk).1
  have h1 : (pool cy h M ++ [(q, e)])[k]? = some (q, cel cy h M q) := by rw [List.getElem?_append_left hlt]; exact hk
  have h2 : (pool cy h M ++ [(q, e)])[(pool cy h M).length]? = some (q, e) := by simp
  have := hD.1 _ _ _ _ h1 h2 rfl
  omega
theorem cel_setR_ne {cy : Nat → ClassId} {h : Hs} {M : Mm} {a b j : Nat} {r : Option Nat} (hb : b ≠ a) : cel cy (setR h a j r) M b = cel cy h M b := by
  have e1 : zR (setR h a j r) b = zR h b := by funext k; simp [zR, setR, up2, hb]
  unfold cel flds fv
  rw [e1]; rfl
theorem flds_setR {h : Hs} {M : Mm} {a k j : Nat} {r : Option Nat} (hj : (kT k)[j]? = some 2) : flds (setR h a j r) M a k = (flds h M a k).set j (va_rf r) := by
  apply List.ext_getElem?
  intro i
  rw [List.getElem?_set]
  by_cases e : j = i
  · subst e
    have hlt : j < (flds h M a k).length := by rw [flds_len]; exact (List.getElem?_eq_some_iff.mp hj).1
    rw [if_pos rfl, if_pos hlt, flds_get hj]
    simp [fv, zR, setR, up2]
  · rw [if_neg e]
    cases hc : (kT k)[i]? with
    | none => simp [flds, hc]
    | some c =>
      rw [flds_get hc, flds_get hc]
      unfold fv
      split <;> simp [zR, setR, up2, Ne.symm e]
theorem zR_at {h : Hs} {a j : Nat} {r : Option Nat} : zR (setR h a j r) a = va_up (zR h a) j r := by funext k; simp [zR, setR, up2, va_up]
theorem pool_putR {cy : Nat → ClassId} {A : Nat → Prop} {h : Hs} {M : Mm} {a k j : Nat} {r : Option Nat} {e : va_E} (hD : va_D A (pool cy h M)) (g : a ∈ zL h) (hk : (pool cy h M)[k]? = some (a, cel cy h M a)) (h1 : cel cy (setR h a j r) M a = e) : (pool cy h M).set k (a, e) = pool cy (setR h a j r) M := by
  have z := va_pl_set (X := []) (f := cel cy h M) (e := e) hD g hk
  refine z.trans ?_
  show va_pl _ _ = va_pl _ _
  unfold va_pl
  apply List.map_congr_left
  intro b _
  by_cases hb : b = a
  · subst hb; simp [va_up, h1]
  · simp [va_up, hb, cel_setR_ne hb]
section PM
variable {p : Program} {l : Launch} {e : Env} {R : Room} {s : State} {m : MethodId} {args : Array Value} {below : List Frame} {meth : Method} {c : Code} {H : Heap} {locs : List Loc} {cells slots : Nat} {Q : State → Prop}
variable {cc : ByteArray} {pc nL : Nat} {ls : Array Slot} {rest : List Value} {D : va_G} {cy : Nat → ClassId} {A : Nat → Prop} {a : Nat} {h : Hs} {M : Mm} {own : String}
theorem r_new {k index : Nat} (X : Cx p s m args c cc nL gtbl own D cy A) (hw : Wd D cy A s.heap h M H locs) {C : String} {T : u_T} {N : Nat} {ty : Nat → FieldType} (hC : vwCl[k]? = some (C, T, N)) (hin : ∀ w ∈ u_ws C T N, w ∈ gtbl) (hty : ∀ j, j < N → parseFieldDescriptor (T j).2.2.1 = some (ty j)) (hcl : Cond.classLink own index C ∈ gtbl) (hinst : Cond.instantiable C N ∈ gtbl) (hini : Cond.initialized C ∈ gtbl) (hk : k < 10)
    (hfs : ∀ j, j < N → defaultValue (ty j) = vp_V ((kT k).map (fun c => match c with | 0 => Value.int 0 | 1 => .long 0 | _ => .null)) j) (hcells : cells + 1 ≤ R.cells) (hslots : slots + N ≤ R.slots) (hdg : decode cc pc = .ok (.new index, 3))
    (kk : ∀ (q : Nat) (H1 : Heap), q ∉ zL h → Wd D cy A s.heap (nh h q k 0) (nm M q) H1 locs → W p l e R s m args below meth c H1 locs (cells + 1) (slots + N) Q (F0 m (pc + 3) ls (.ref q :: rest))) : W p l e R s m args below meth c H locs cells slots Q (F0 m pc ls rest) := by
  obtain ⟨⟨hx, hb, -, hown, hts⟩, hK, -, -⟩ := X
  obtain ⟨hP, hD, hS, hA⟩ := hw
  refine va_new (fs := (kT k).map (fun c => match c with | 0 => Value.int 0 | 1 => .long 0 | _ => .null)) hx hb hts hin ty hty hown (hts _ hcl) (hts _ hinst) (hts _ hini) hK hP hD hS hA hC hfs hcells hslots hdg (fun q H1 hP1 hD1 hS1 => ?_)
  have hq := pool_fresh hD1
  rw [pool_push (k := k) (n := 0) hq (by rw [cel_obj nh_K hk, flds_new])] at hP1 hD1
  exact kk q H1 hq ⟨hP1, hD1, hS1, hA⟩
theorem X.cls_eq {cA : ClassId} {ty : FieldType} {i k : Nat} (hK : va_K D vwCl (tyL cy ++ [(cA, ty)]) s) (hi : i < 6) (ht : (tyL cy)[i]? = some (cy k, ty)) : cA = cy k := by
  have h1 := (hK.2 i _ (by rw [List.getElem?_append_left (show i < (tyL cy).length from hi)]; exact ht)).2
  have h2 := (hK.2 6 (cA, ty) rfl).2
  cases ty <;> first
    | exact Option.some.inj (h2.symm.trans h1)
    | (obtain ⟨_, _, _, _, _, e1⟩ := h1; obtain ⟨_, _, _, _, _, e2⟩ := h2; exact Option.some.inj (e2.symm.trans e1))
theorem r_newaI {n : Int32} {N : Nat} (X : Cx p s m args c cc nL gtbl own D cy A) (hw : Wd D cy A s.heap h M H locs) (hn : ¬ n < 0) (hN : n.toNatClampNeg = N) (hb4 : N ≤ 100000) (hcells : cells + 1 ≤ R.cells) (hslots : slots + N ≤ R.slots) (hdg : decode cc pc = .ok (.newarray .int, 2))
    (kk : ∀ (q : Nat) (H1 : Heap), q ∉ zL h → Wd D cy A s.heap (nh h q 11 N) (nm M q) H1 locs → W p l e R s m args below meth c H1 locs (cells + 1) (slots + N) Q (F0 m (pc + 2) ls (.ref q :: rest))) : W p l e R s m args below meth c H locs cells slots Q (F0 m pc ls (.int n :: rest)) := by
  obtain ⟨⟨hx, hb, -, hown, hts⟩, hK, -, -⟩ := X
  obtain ⟨hP, hD, hS, hA⟩ := hw
  refine va_newa (atype := .int) (a0 := (N, .inl (fun _ => 0))) hx hb (hts _ ua_int) rfl hK hP hD hS hA (fun cA => rfl) hn hN (by show N * 4 ≤ _; omega) hcells hslots hdg (fun q cA H1 hK1 hP1 hD1 hS1 => ?_)
  have hq := pool_fresh hD1
  cases X.cls_eq (i := 1) (k := 11) hK1 (by decide) rfl
  rw [pool_push (k := 11) (n := N) hq (by rw [cel_I nh_K (by decide), nh_N, nm_I])] at hP1 hD1
  exact kk q H1 hq ⟨hP1, hD1, hS1, hA⟩
theorem r_newaB {n : Int32} {N : Nat} (X : Cx p s m args c cc nL gtbl own D cy A) (hw : Wd D cy A s.heap h M H locs) (hn : ¬ n < 0) (hN : n.toNatClampNeg = N) (hb4 : N ≤ 100000) (hcells : cells + 1 ≤ R.cells) (hslots : slots + N ≤ R.slots) (hdg : decode cc pc = .ok (.newarray .byte, 2))
    (kk : ∀ (q : Nat) (H1 : Heap), q ∉ zL h → Wd D cy A s.heap (nh h q 10 N) (nm M q) H1 locs → W p l e R s m args below meth c H1 locs (cells + 1) (slots + N) Q (F0 m (pc + 2) ls (.ref q :: rest))) : W p l e R s m args below meth c H locs cells slots Q (F0 m pc ls (.int n :: rest)) := by
  obtain ⟨⟨hx, hb, -, hown, hts⟩, hK, -, -⟩ := X
  obtain ⟨hP, hD, hS, hA⟩ := hw
  refine va_newa (atype := .byte) (a0 := (N, .inl (fun _ => 0))) hx hb (hts _ ua_byte) rfl hK hP hD hS hA (fun cA => rfl) hn hN (by show N * 1 ≤ _; omega) hcells hslots hdg (fun q cA H1 hK1 hP1 hD1 hS1 => ?_)
  have hq := pool_fresh hD1
  cases X.cls_eq (i := 0) (k := 10) hK1 (by decide) rfl
  rw [pool_push (k := 10) (n := N) hq (by rw [cel_I nh_K (by decide), nh_N, nm_I])] at hP1 hD1
  exact kk q H1 hq ⟨hP1, hD1, hS1, hA⟩
theorem r_newaZ {n : Int32} {N : Nat} (X : Cx p s m args c cc nL gtbl own D cy A) (hw : Wd D cy A s.heap h M H locs) (hn : ¬ n < 0) (hN : n.toNatClampNeg = N) (hb4 : N ≤ 100000) (hcells : cells + 1 ≤ R.cells) (hslots : slots + N ≤ R.slots) (hdg : decode cc pc = .ok (.newarray .boolean, 2))
    (kk : ∀ (q : Nat) (H1 : Heap), q ∉ zL h → Wd D cy A s.heap (nh h q 13 N) (nm M q) H1 locs → W p l e R s m args below meth c H1 locs (cells + 1) (slots + N) Q (F0 m (pc + 2) ls (.ref q :: rest))) : W p l e R s m args below meth c H locs cells slots Q (F0 m pc ls (.int n :: rest)) := by
  obtain ⟨⟨hx, hb, -, hown, hts⟩, hK, -, -⟩ := X
  obtain ⟨hP, hD, hS, hA⟩ := hw
  refine va_newa (atype := .boolean) (a0 := (N, .inl (fun _ => 0))) hx hb (hts _ ua_boolean) rfl hK hP hD hS hA (fun cA => rfl) hn hN (by show N * 1 ≤ _; omega) hcells hslots hdg (fun q cA H1 hK1 hP1 hD1 hS1 => ?_)
  have hq := pool_fresh hD1
  cases X.cls_eq (i := 3) (k := 13) hK1 (by decide) rfl
  rw [pool_push (k := 13) (n := N) hq (by rw [cel_I nh_K (by decide), nh_N, nm_I])] at hP1 hD1
  exact kk q H1 hq ⟨hP1, hD1, hS1, hA⟩
theorem r_newaJ {n : Int32} {N : Nat} (X : Cx p s m args c cc nL gtbl own D cy A) (hw : Wd D cy A s.heap h M H locs) (hn : ¬ n < 0) (hN : n.toNatClampNeg = N) (hb4 : N ≤ 100000) (hcells : cells + 1 ≤ R.cells) (hslots : slots + N ≤ R.slots) (hdg : decode cc pc = .ok (.newarray .long, 2))
    (kk : ∀ (q : Nat) (H1 : Heap), q ∉ zL h → Wd D cy A s.heap (nh h q 12 N) (nm M q) H1 locs → W p l e R s m args below meth c H1 locs (cells + 1) (slots + N) Q (F0 m (pc + 2) ls (.ref q :: rest))) : W p l e R s m args below meth c H locs cells slots Q (F0 m pc ls (.int n :: rest)) := by
  obtain ⟨⟨hx, hb, -, hown, hts⟩, hK, -, -⟩ := X
  obtain ⟨hP, hD, hS, hA⟩ := hw
  refine va_newa (atype := .long) (a0 := (N, .inr (.inl (fun _ => 0)))) hx hb (hts _ ua_long) rfl hK hP hD hS hA (fun cA => rfl) hn hN (by show N * 8 ≤ _; omega) hcells hslots hdg (fun q cA H1 hK1 hP1 hD1 hS1 => ?_)
  have hq := pool_fresh hD1
  cases X.cls_eq (i := 2) (k := 12) hK1 (by decide) rfl
  rw [pool_push (k := 12) (n := N) hq (by rw [cel_J nh_K, nh_N, nm_J])] at hP1 hD1
  exact kk q H1 hq ⟨hP1, hD1, hS1, hA⟩
theorem r_newq14 {n : Int32} {N index : Nat} (X : Cx p s m args c cc nL gtbl own D cy A) (hw : Wd D cy A s.heap h M H locs) (hcl : Cond.classLink own index "LoadCounter$Detail" ∈ gtbl) (hn : ¬ n < 0) (hN : n.toNatClampNeg = N) (hb4 : N ≤ 100000) (hcells : cells + 1 ≤ R.cells) (hslots : slots + N ≤ R.slots) (hdg : decode cc pc = .ok (.anewarray index, 3))
    (kk : ∀ (q : Nat) (H1 : Heap), q ∉ zL h → Wd D cy A s.heap (nh h q 14 N) (nm M q) H1 locs → W p l e R s m args below meth c H1 locs (cells + 1) (slots + N) Q (F0 m (pc + 3) ls (.ref q :: rest))) : W p l e R s m args below meth c H locs cells slots Q (F0 m pc ls (.int n :: rest)) := by
  obtain ⟨⟨hx, hb, -, hown, hts⟩, hK, hNN, -⟩ := X
  obtain ⟨hP, hD, hS, hA⟩ := hw
  refine va_newq hx hb hown (hts _ hcl) hNN.2.2 hK hP hD hS hA hn hN (by omega) hcells hslots hdg (fun q cA H1 hK1 hP1 hD1 hS1 => ?_)
  have hq := pool_fresh hD1
  cases X.cls_eq (i := 4) (k := 14) hK1 (by decide) rfl
  rw [pool_push (k := 14) (n := N) hq (by rw [cel_R nh_K (by decide), nh_N, nh_R])] at hP1 hD1
  exact kk q H1 hq ⟨hP1, hD1, hS1, hA⟩
theorem r_aast14 {i : Int32} {v : Nat} (X : Cx p s m args c cc nL gtbl own D cy A) (hw : Wd D cy A s.heap h M H locs) (g : ok h a 14) (gv : ok h v 2) (hin : inb i (zN h a)) (hdg : decode cc pc = .ok (.aastore, 1))
    (kk : ∀ (H1 : Heap) (locs1 : List Loc), Wd D cy A s.heap (setR h a i.toNatClampNeg (some v)) M H1 locs1 → W p l e R s m args below meth c H1 locs1 cells slots Q (F0 m (pc + 1) ls rest)) : W p l e R s m args below meth c H locs cells slots Q (F0 m pc ls (.ref v :: .int i :: .ref a :: rest)) := by
  obtain ⟨⟨hx, hb, -, hown, hts⟩, hK, -, -⟩ := X
  obtain ⟨hP, hD, hS, hA⟩ := hw
  obtain ⟨k, hi0⟩ := pool_get (cy := cy) (M := M) g.1
  have hi := hi0
  rw [cel_R g.2 (by decide)] at hi
  obtain ⟨kv, hv⟩ := pool_get (cy := cy) (M := M) gv.1
  rw [cel_obj gv.2 (by decide)] at hv
  refine va_astq hx hb hK hP hD hS k 4 kv 2 hi rfl hv rfl hin hdg (fun H1 locs1 hP1 hD1 hS1 => ?_)
  have z : (pool cy h M).set k (a, .inl (cy 14, zN h a, .inr (.inr (.inr (.inr (va_up (zR h a) i.toNatClampNeg (some v))))))) = pool cy (setR h a i.toNatClampNeg (some v)) M := pool_putR hD g.1 hi0 (by rw [cel_R (ok_setR g).2 (by decide), zR_at]; rfl)
  rw [z] at hP1 hD1
  exact kk H1 locs1 ⟨hP1, hD1, hS1, hA⟩
theorem r_newq15 {n : Int32} {N index : Nat} (X : Cx p s m args c cc nL gtbl own D cy A) (hw : Wd D cy A s.heap h M H locs) (hcl : Cond.classLink own index "LoadCounter$Place" ∈ gtbl) (hn : ¬ n < 0) (hN : n.toNatClampNeg = N) (hb4 : N ≤ 100000) (hcells : cells + 1 ≤ R.cells) (hslots : slots + N ≤ R.slots) (hdg : decode cc pc = .ok (.anewarray index, 3))
    (kk : ∀ (q : Nat) (H1 : Heap), q ∉ zL h → Wd D cy A s.heap (nh h q 15 N) (nm M q) H1 locs → W p l e R s m args below meth c H1 locs (cells + 1) (slots + N) Q (F0 m (pc + 3) ls (.ref q :: rest))) : W p l e R s m args below meth c H locs cells slots Q (F0 m pc ls (.int n :: rest)) := by
  obtain ⟨⟨hx, hb, -, hown, hts⟩, hK, hNN, -⟩ := X
  obtain ⟨hP, hD, hS, hA⟩ := hw
  refine va_newq hx hb hown (hts _ hcl) hNN.2.1 hK hP hD hS hA hn hN (by omega) hcells hslots hdg (fun q cA H1 hK1 hP1 hD1 hS1 => ?_)
  have hq := pool_fresh hD1
  cases X.cls_eq (i := 5) (k := 15) hK1 (by decide) rfl
  rw [pool_push (k := 15) (n := N) hq (by rw [cel_R nh_K (by decide), nh_N, nh_R])] at hP1 hD1
  exact kk q H1 hq ⟨hP1, hD1, hS1, hA⟩
theorem r_aast15 {i : Int32} {v : Nat} (X : Cx p s m args c cc nL gtbl own D cy A) (hw : Wd D cy A s.heap h M H locs) (g : ok h a 15) (gv : ok h v 4) (hin : inb i (zN h a)) (hdg : decode cc pc = .ok (.aastore, 1))
    (kk : ∀ (H1 : Heap) (locs1 : List Loc), Wd D cy A s.heap (setR h a i.toNatClampNeg (some v)) M H1 locs1 → W p l e R s m args below meth c H1 locs1 cells slots Q (F0 m (pc + 1) ls rest)) : W p l e R s m args below meth c H locs cells slots Q (F0 m pc ls (.ref v :: .int i :: .ref a :: rest)) := by
  obtain ⟨⟨hx, hb, -, hown, hts⟩, hK, -, -⟩ := X
  obtain ⟨hP, hD, hS, hA⟩ := hw
  obtain ⟨k, hi0⟩ := pool_get (cy := cy) (M := M) g.1
  have hi := hi0
  rw [cel_R g.2 (by decide)] at hi
  obtain ⟨kv, hv⟩ := pool_get (cy := cy) (M := M) gv.1
  rw [cel_obj gv.2 (by decide)] at hv
  refine va_astq hx hb hK hP hD hS k 5 kv 4 hi rfl hv rfl hin hdg (fun H1 locs1 hP1 hD1 hS1 => ?_)
  have z : (pool cy h M).set k (a, .inl (cy 15, zN h a, .inr (.inr (.inr (.inr (va_up (zR h a) i.toNatClampNeg (some v))))))) = pool cy (setR h a i.toNatClampNeg (some v)) M := pool_putR hD g.1 hi0 (by rw [cel_R (ok_setR g).2 (by decide), zR_at]; rfl)
  rw [z] at hP1 hD1
  exact kk H1 locs1 ⟨hP1, hD1, hS1, hA⟩
theorem r_putqF {k j q : Nat} (X : Cx p s m args c cc nL gtbl own D cy A) (hw : Wd D cy A s.heap h M H locs) {C : String} {T : u_T} {N index : Nat} {ty0 : Nat → FieldType} (hC : vwCl[k]? = some (C, T, N)) (hin : ∀ w ∈ u_ws C T N, w ∈ gtbl) (hty : ∀ k, k < N → parseFieldDescriptor (T k).2.2.1 = some (ty0 k)) (hnm : ∀ a, a < N → ∀ b, b < N → a ≠ b → (T a).2.1 ≠ (T b).2.1) (g : ok h a k) (ht : (kT k)[j]? = some 2) (hk : k < 10) (hj : j < N) (hlink : Cond.fieldLink own index C (T j).2.1 (T j).2.2.1 ∈ gtbl) (hsame : (T j).1 = C) (hfin : (T j).2.2.2 = true) (hin2 : meth.name = "<init>") (hdecl : C = own) (hn : narrow (ty0 j) (.ref q) = .ref q) (hfit : fits (ty0 j) (.ref q) = true) (hdg : decode cc pc = .ok (.putfield index, 3))
    (kk : ∀ (H1 : Heap) (locs1 : List Loc), Wd D cy A s.heap (setR h a j (some q)) M H1 locs1 → W p l e R s m args below meth c H1 locs1 cells slots Q (F0 m (pc + 3) ls rest)) : W p l e R s m args below meth c H locs cells slots Q (F0 m pc ls (.ref q :: .ref a :: rest)) := by
  obtain ⟨⟨hx, hb, -, hown, hts⟩, hK, -⟩ := X
  obtain ⟨hP, hD, hS, hA⟩ := hw
  obtain ⟨i, hi0⟩ := pool_get (cy := cy) (M := M) g.1
  have hi := hi0
  rw [cel_obj g.2 hk] at hi
  have hl : j < (flds h M a k).length := by rw [flds_len]; exact (List.getElem?_eq_some_iff.mp ht).1
  refine va_putF hx hb hts hin ty0 hty hnm hown hK hP hD hS i hi hC j hj (hts _ hlink) (fun x hx => by rw [hsame] at hx; exact hx) hfin hin2 (hsame.trans hdecl) (hty j hj) hn hfit hl hdg (fun H1 locs1 hP1 hD1 hS1 => ?_)
  have z : (pool cy h M).set i (a, .inr (k, (flds h M a k).set j (.ref q))) = pool cy (setR h a j (some q)) M := pool_putR hD g.1 hi0 (by rw [cel_obj (ok_setR g).2 hk, flds_setR ht]; rfl)
  rw [z] at hP1 hD1
  exact kk H1 locs1 ⟨hP1, hD1, hS1, hA⟩
theorem r_putq {k j q : Nat} (X : Cx p s m args c cc nL gtbl own D cy A) (hw : Wd D cy A s.heap h M H locs) {C : String} {T : u_T} {N index : Nat} {ty0 : Nat → FieldType} (hC : vwCl[k]? = some (C, T, N)) (hin : ∀ w ∈ u_ws C T N, w ∈ gtbl) (hty : ∀ k, k < N → parseFieldDescriptor (T k).2.2.1 = some (ty0 k)) (hnm : ∀ a, a < N → ∀ b, b < N → a ≠ b → (T a).2.1 ≠ (T b).2.1) (g : ok h a k) (ht : (kT k)[j]? = some 2) (hk : k < 10) (hj : j < N) (hlink : Cond.fieldLink own index C (T j).2.1 (T j).2.2.1 ∈ gtbl) (hsame : (T j).1 = C) (hfin : (T j).2.2.2 = false) (hn : narrow (ty0 j) (.ref q) = .ref q) (hfit : fits (ty0 j) (.ref q) = true) (hdg : decode cc pc = .ok (.putfield index, 3))
    (kk : ∀ (H1 : Heap) (locs1 : List Loc), Wd D cy A s.heap (setR h a j (some q)) M H1 locs1 → W p l e R s m args below meth c H1 locs1 cells slots Q (F0 m (pc + 3) ls rest)) : W p l e R s m args below meth c H locs cells slots Q (F0 m pc ls (.ref q :: .ref a :: rest)) := by
  obtain ⟨⟨hx, hb, -, hown, hts⟩, hK, -⟩ := X
  obtain ⟨hP, hD, hS, hA⟩ := hw
  obtain ⟨i, hi0⟩ := pool_get (cy := cy) (M := M) g.1
  have hi := hi0
  rw [cel_obj g.2 hk] at hi
  have hl : j < (flds h M a k).length := by rw [flds_len]; exact (List.getElem?_eq_some_iff.mp ht).1
  refine va_put hx hb hts hin ty0 hty hnm hown hK hP hD hS i hi hC j hj (hts _ hlink) (fun x hx => by rw [hsame] at hx; exact hx) hfin (hty j hj) hn hfit hl hdg (fun H1 locs1 hP1 hD1 hS1 => ?_)
  have z : (pool cy h M).set i (a, .inr (k, (flds h M a k).set j (.ref q))) = pool cy (setR h a j (some q)) M := pool_putR hD g.1 hi0 (by rw [cel_obj (ok_setR g).2 hk, flds_setR ht]; rfl)
  rw [z] at hP1 hD1
  exact kk H1 locs1 ⟨hP1, hD1, hS1, hA⟩
end PM
/-! a constructor's contract: what it makes of (h, M) is told by P -/
def CtN (l : Launch) (D : va_G) (cy : Nat → ClassId) (y : MethodName) (ws : List Cond) (rm : Room) (As : List Value) (h : Hs) (M : Mm) (P : Hs × Mm → Prop) (mc ms : Nat) : Prop := ∀ sz : Nat, Met l y ws rm (va_Pc As (PCs D cy h M sz)) (va_Qv (fun u : Hs × Mm => P u) (fun u => PEs D cy (va_A (pool cy h M) sz) u.1 u.2) (va_A (pool cy h M) sz)) mc ms (va_A (pool cy h M) sz)
def QN (below : List Frame) (D : va_G) (cy : Nat → ClassId) (A : Nat → Prop) (args : Array Value) (s : State) (P : Hs × Mm → Prop) (mc ms : Nat) : State → Prop := MQ below (va_Qv (fun u : Hs × Mm => P u) (fun u => PEs D cy A u.1 u.2) A) args s mc ms A
section PQ
variable {p : Program} {l : Launch} {e : Env} {R : Room} {s : State} {m : MethodId} {args : Array Value} {below : List Frame} {meth : Method} {c : Code} {H : Heap} {locs : List Loc} {cells slots : Nat} {Q : State → Prop}
variable {cc : ByteArray} {pc nL : Nat} {ls : Array Slot} {rest : List Value} {D : va_G} {cy : Nat → ClassId} {A : Nat → Prop} {h : Hs} {M : Mm} {own : String}
theorem r_retN {P : Hs × Mm → Prop} (X : Cx p s m args c cc nL gtbl own D cy A) (hw : Wd D cy A s.heap h M H locs) (hr : meth.sig.returnType = none) (hlk : meth.locks = false) (hP : P (h, M)) (hdg : decode cc pc = .ok (.return_, 1)) : W p l e R s m args below meth c H locs cells slots (QN below D cy A args s P cells slots) (F0 m pc ls []) :=
  W.vret X.1.1 X.1.2.1 hr (fun t ht hW => ⟨⟨(h, M), rfl, hP, by rw [ht]; exact hw.1, va_K.moved hW.alike X.2.1, hw.2.1⟩, hw.2.2.1.F ht⟩) hw.2.2.1.2.2 hdg hlk
variable {y : MethodName} {bytes : ByteArray} {maxL n index : Nat} {ret : Option FieldType} {ws : List Cond} {rm : Room} {As st0 : List Value}
theorem r_init {b mc ms : Nat} {P : Hs × Mm → Prop} (X : Cx p s m args c cc nL gtbl own D cy A) (hw : Wd D cy A s.heap h M H locs) (hc : CtN l D cy y ws rm (.ref b :: As) h M P mc ms) (cw : CallB R s args own index y bytes maxL none ws rm mc ms n ∧ y.name = "<init>" ∧ (Cond.instanceMethod y).before args s = true) (hn : As.length = n) (hl : ls.size = nL) (hst : st0 = As.reverse ++ .ref b :: rest) (hW : (rest.map fun v => v.category).sum ≤ 8) (hdg : decode cc pc = .ok (.invokespecial index, 3)) (hf : cells + mc ≤ R.cells ∧ slots + ms ≤ R.slots)
    (kk : ∀ (u : Hs × Mm) (H1 : Heap) (locs1 : List Loc), P u → Wd D cy A s.heap u.1 u.2 H1 locs1 → W p l e R s m args below meth c H1 locs1 (cells + mc) (slots + ms) Q (F0 m (pc + 3) ls rest)) : W p l e R s m args below meth c H locs cells slots Q (F0 m pc ls st0) := by
  refine va_callv (va_runI (As := As) (rest := rest) X.1 (hc H.size) cw ⟨PCs.blind, fun U hU hW => PCs.of X hw hU hW⟩ rfl hn hl hst (lv_room hW) hdg hf) hw.2.2.1 (fun q _ z => hw.free q z) hw.free (fun u t H1 locs1 ht hvm hr hB _ _ hS => ?_)
  obtain ⟨hP1, -, hD1⟩ := hB
  rw [ht] at hP1
  exact kk u H1 locs1 hr ⟨hP1, ⟨hD1.1, fun k q hq => hw.free _ (hD1.2 k q hq)⟩, hS, hw.2.2.2⟩
theorem r_initN {host : String} {b mc ms : Nat} {P : Hs × Mm → Prop} (X : Cx p s m args c cc nL gtbl own D cy A) (hw : Wd D cy A s.heap h M H locs) (hc : CtN l D cy y ws rm (.ref b :: As) h M P mc ms) (cw : va_CN R s args own index y host bytes maxL none ws rm mc ms n ∧ y.name = "<init>" ∧ (Cond.instanceMethod y).before args s = true) (hn : As.length = n) (hl : ls.size = nL) (hst : st0 = As.reverse ++ .ref b :: rest) (hW : (rest.map fun v => v.category).sum ≤ 8) (hdg : decode cc pc = .ok (.invokespecial index, 3)) (hf : cells + mc ≤ R.cells ∧ slots + ms ≤ R.slots)
    (kk : ∀ (u : Hs × Mm) (H1 : Heap) (locs1 : List Loc), P u → Wd D cy A s.heap u.1 u.2 H1 locs1 → W p l e R s m args below meth c H1 locs1 (cells + mc) (slots + ms) Q (F0 m (pc + 3) ls rest)) : W p l e R s m args below meth c H locs cells slots Q (F0 m pc ls st0) := by
  refine va_callv (va_runIN (As := As) (rest := rest) X.1 (hc H.size) cw ⟨PCs.blind, fun U hU hW => PCs.of X hw hU hW⟩ rfl hn hl hst (lv_room hW) hdg hf) hw.2.2.1 (fun q _ z => hw.free q z) hw.free (fun u t H1 locs1 ht hvm hr hB _ _ hS => ?_)
  obtain ⟨hP1, -, hD1⟩ := hB
  rw [ht] at hP1
  exact kk u H1 locs1 hr ⟨hP1, ⟨hD1.1, fun k q hq => hw.free _ (hD1.2 k q hq)⟩, hS, hw.2.2.2⟩
end PQ
section PR2
variable {l : Launch} {D : va_G} {cy : Nat → ClassId} {y : MethodName} {rm : Room} {cc : ByteArray} {maxL : Nat} {As : List Value} {h : Hs} {M : Mm} {P : Hs × Mm → Prop} {mc ms : Nat}
theorem enterN (hy : plainName y.cls = true) (hAs : (lg_sl As).length ≤ maxL)
    (body : ∀ (p : Program) (e : Env) (s : State) (m : MethodId) (args : Array Value) (below : List Frame) (meth : Method) (c : Code) (A : Nat → Prop) (ls : Array Slot), Cx p s m args c cc maxL gtbl y.cls D cy A → Wd D cy A s.heap h M s.heap [] → meth.sig.returnType = none → meth.locks = false → meth.name = y.name → lv_has ls maxL (lv_args 0 As) → W p l e rm s m args below meth c s.heap [] 0 0 (QN below D cy A args s P mc ms) (F0 m 0 ls [])) : CtN l D cy y (wu y cc maxL none) rm As h M P mc ms := fun sz => by
  refine Met.ofW (cc := cc) (maxL := maxL) (ret := none) hy rfl ?_
  intro p e s m args below meth c s₁ B hml hv
  obtain ⟨rfl, hsz, hP, hK, hN, hD0, hF⟩ := hv
  have hts0 := atoms_spec (ws := wu y cc maxL none) B.pre
  have hts : ∀ w ∈ gtbl, w.before As.toArray s = true := fun w hw => hts0 w (List.mem_cons_of_mem _ hw)
  have hown : s.vm.findClass y.cls = some m.cls := findClass_of_methodNamed B.named
  have hin : meth.name = y.name := (name_of_methodNamed B.named B.method).1
  subst hsz
  have hD : va_D (va_A (pool cy h M) s.heap.size) (pool cy h M) := hD0.self (sz := s.heap.size)
  have hA : ∀ q : Nat, s.heap.size ≤ q → va_A (pool cy h M) s.heap.size q := fun q hq => Or.inr hq
  have hl := lv_entry As hAs
  rw [lg_entry_eq]
  generalize (lg_sl As ++ List.replicate (maxL - (lg_sl As).length) Slot.unset).toArray = ls at hl ⊢
  exact body p e s m As.toArray below meth c _ ls ⟨⟨B.exec, B.bytes, hml, hown, hts⟩, hK, hN, hF⟩ ⟨hP, hD, va_S.rf, hA⟩ B.returns B.notSynchronized hin hl
end PR2
