/-! rows of the pool's walk -/
section PR
variable {p : Program} {l : Launch} {e : Env} {R : Room} {s : State} {m : MethodId} {args : Array Value} {below : List Frame} {meth : Method} {c : Code} {H : Heap} {locs : List Loc} {cells slots : Nat} {Q : State → Prop}
variable {cc : ByteArray} {pc nL : Nat} {ls : Array Slot} {rest : List Value} {D : va_G} {cy : Nat → ClassId} {A : Nat → Prop} {a : Nat} {H0 : Heap} {h : Hs} {M : Mm} {Ts : List Cond} {own : String}
theorem r_get {k j t : Nat} (X : Cx p s m args c cc nL Ts own D cy A) (hw : Wd D cy A H0 h M H locs) {C : String} {T : u_T} {N index : Nat} (hC : vwCl[k]? = some (C, T, N)) (hin : ∀ w ∈ u_ws C T N, w ∈ Ts) (g : ok h a k) (ht : (kT k)[j]? = some t) (hk : k < 10) (hj : j < N) (hlink : Cond.fieldLink own index C (T j).2.1 (T j).2.2.1 ∈ Ts) (hsame : (T j).1 = C) (hdg : decode cc pc = .ok (.getfield index, 3))
    (kk : W p l e R s m args below meth c H locs cells slots Q (F0 m (pc + 3) ls (fv h M a j t :: rest))) : W p l e R s m args below meth c H locs cells slots Q (F0 m pc ls (.ref a :: rest)) := by
  obtain ⟨⟨hx, hb, -, hown, hts⟩, hK, -, -⟩ := X
  obtain ⟨hP, -, -, -⟩ := hw
  obtain ⟨i, hi⟩ := pool_get (cy := cy) (M := M) g.1
  rw [cel_obj g.2 hk] at hi
  exact va_get hx hb hts hin hown hK hP i hi hC j hj (hts _ hlink) (fun x hx => by rw [hsame] at hx; exact hx) (flds_get ht) hdg kk
theorem r_geti {k j : Nat} (X : Cx p s m args c cc nL Ts own D cy A) (hw : Wd D cy A H0 h M H locs) {C : String} {T : u_T} {N index : Nat} (hC : vwCl[k]? = some (C, T, N)) (hin : ∀ w ∈ u_ws C T N, w ∈ Ts) (g : ok h a k) (ht : (kT k)[j]? = some 0) (hk : k < 10) (hj : j < N) (hlink : Cond.fieldLink own index C (T j).2.1 (T j).2.2.1 ∈ Ts) (hsame : (T j).1 = C) (hdg : decode cc pc = .ok (.getfield index, 3))
    (kk : W p l e R s m args below meth c H locs cells slots Q (F0 m (pc + 3) ls (.int (zI M a j) :: rest))) : W p l e R s m args below meth c H locs cells slots Q (F0 m pc ls (.ref a :: rest)) :=
  r_get X hw hC hin g ht hk hj hlink hsame hdg kk
theorem r_getl {k j : Nat} (X : Cx p s m args c cc nL Ts own D cy A) (hw : Wd D cy A H0 h M H locs) {C : String} {T : u_T} {N index : Nat} (hC : vwCl[k]? = some (C, T, N)) (hin : ∀ w ∈ u_ws C T N, w ∈ Ts) (g : ok h a k) (ht : (kT k)[j]? = some 1) (hk : k < 10) (hj : j < N) (hlink : Cond.fieldLink own index C (T j).2.1 (T j).2.2.1 ∈ Ts) (hsame : (T j).1 = C) (hdg : decode cc pc = .ok (.getfield index, 3))
    (kk : W p l e R s m args below meth c H locs cells slots Q (F0 m (pc + 3) ls (.long (zJ M a j) :: rest))) : W p l e R s m args below meth c H locs cells slots Q (F0 m pc ls (.ref a :: rest)) :=
  r_get X hw hC hin g ht hk hj hlink hsame hdg kk
theorem r_getq {k j q : Nat} (X : Cx p s m args c cc nL Ts own D cy A) (hw : Wd D cy A H0 h M H locs) {C : String} {T : u_T} {N index : Nat} (hC : vwCl[k]? = some (C, T, N)) (hin : ∀ w ∈ u_ws C T N, w ∈ Ts) (g : ok h a k) (ht : (kT k)[j]? = some 2) (hk : k < 10) (hj : j < N) (hlink : Cond.fieldLink own index C (T j).2.1 (T j).2.2.1 ∈ Ts) (hsame : (T j).1 = C) (hdg : decode cc pc = .ok (.getfield index, 3)) (hq : zR h a j = some q)
    (kk : W p l e R s m args below meth c H locs cells slots Q (F0 m (pc + 3) ls (.ref q :: rest))) : W p l e R s m args below meth c H locs cells slots Q (F0 m pc ls (.ref a :: rest)) := by
  refine r_get X hw hC hin g ht hk hj hlink hsame hdg ?_
  show W p l e R s m args below meth c H locs cells slots Q (F0 m (pc + 3) ls (va_rf (zR h a j) :: rest))
  rw [hq]; exact kk
theorem r_getn {k j : Nat} (X : Cx p s m args c cc nL Ts own D cy A) (hw : Wd D cy A H0 h M H locs) {C : String} {T : u_T} {N index : Nat} (hC : vwCl[k]? = some (C, T, N)) (hin : ∀ w ∈ u_ws C T N, w ∈ Ts) (g : ok h a k) (ht : (kT k)[j]? = some 2) (hk : k < 10) (hj : j < N) (hlink : Cond.fieldLink own index C (T j).2.1 (T j).2.2.1 ∈ Ts) (hsame : (T j).1 = C) (hdg : decode cc pc = .ok (.getfield index, 3)) (hq : zR h a j = none)
    (kk : W p l e R s m args below meth c H locs cells slots Q (F0 m (pc + 3) ls (.null :: rest))) : W p l e R s m args below meth c H locs cells slots Q (F0 m pc ls (.ref a :: rest)) := by
  refine r_get X hw hC hin g ht hk hj hlink hsame hdg ?_
  show W p l e R s m args below meth c H locs cells slots Q (F0 m (pc + 3) ls (va_rf (zR h a j) :: rest))
  rw [hq]; exact kk
theorem r_puti {k j : Nat} {v : Int32} (X : Cx p s m args c cc nL Ts own D cy A) (hw : Wd D cy A H0 h M H locs) {C : String} {T : u_T} {N index : Nat} {ty0 : Nat → FieldType} (hC : vwCl[k]? = some (C, T, N)) (hin : ∀ w ∈ u_ws C T N, w ∈ Ts) (hty : ∀ k, k < N → parseFieldDescriptor (T k).2.2.1 = some (ty0 k)) (hnm : ∀ a, a < N → ∀ b, b < N → a ≠ b → (T a).2.1 ≠ (T b).2.1) (g : ok h a k) (ht : (kT k)[j]? = some 0) (hk : k < 10) (hj : j < N) (hlink : Cond.fieldLink own index C (T j).2.1 (T j).2.2.1 ∈ Ts) (hsame : (T j).1 = C) (hfin : (T j).2.2.2 = false) (hn : narrow (ty0 j) (.int v) = .int v) (hfit : fits (ty0 j) (.int v) = true) (hdg : decode cc pc = .ok (.putfield index, 3))
    (kk : ∀ (H1 : Heap) (locs1 : List Loc), Wd D cy A H0 h (sI M a j v) H1 locs1 → W p l e R s m args below meth c H1 locs1 cells slots Q (F0 m (pc + 3) ls rest)) : W p l e R s m args below meth c H locs cells slots Q (F0 m pc ls (.int v :: .ref a :: rest)) := by
  obtain ⟨⟨hx, hb, -, hown, hts⟩, hK, -, -⟩ := X
  obtain ⟨hP, hD, hS, hA⟩ := hw
  obtain ⟨i, hi0⟩ := pool_get (cy := cy) (M := M) g.1
  have hi := hi0
  rw [cel_obj g.2 hk] at hi
  have hl : j < (flds h M a k).length := by rw [flds_len]; exact (List.getElem?_eq_some_iff.mp ht).1
  refine va_put hx hb hts hin ty0 hty hnm hown hK hP hD hS i hi hC j hj (hts _ hlink) (fun x hx => by rw [hsame] at hx; exact hx) hfin (hty j hj) hn hfit hl hdg (fun H1 locs1 hP1 hD1 hS1 => ?_)
  have z : (pool cy h M).set i (a, .inr (k, (flds h M a k).set j (.int v))) = pool cy h (sI M a j v) := pool_put hD g.1 hi0 (by rw [cel_obj g.2 hk, flds_setI ht]) (fun b hb => cel_neI hb)
  rw [z] at hP1 hD1
  exact kk H1 locs1 ⟨hP1, hD1, hS1, hA⟩
theorem r_putl {k j : Nat} {v : Int64} (X : Cx p s m args c cc nL Ts own D cy A) (hw : Wd D cy A H0 h M H locs) {C : String} {T : u_T} {N index : Nat} {ty0 : Nat → FieldType} (hC : vwCl[k]? = some (C, T, N)) (hin : ∀ w ∈ u_ws C T N, w ∈ Ts) (hty : ∀ k, k < N → parseFieldDescriptor (T k).2.2.1 = some (ty0 k)) (hnm : ∀ a, a < N → ∀ b, b < N → a ≠ b → (T a).2.1 ≠ (T b).2.1) (g : ok h a k) (ht : (kT k)[j]? = some 1) (hk : k < 10) (hj : j < N) (hlink : Cond.fieldLink own index C (T j).2.1 (T j).2.2.1 ∈ Ts) (hsame : (T j).1 = C) (hfin : (T j).2.2.2 = false) (hn : narrow (ty0 j) (.long v) = .long v) (hfit : fits (ty0 j) (.long v) = true) (hdg : decode cc pc = .ok (.putfield index, 3))
    (kk : ∀ (H1 : Heap) (locs1 : List Loc), Wd D cy A H0 h (sJ M a j v) H1 locs1 → W p l e R s m args below meth c H1 locs1 cells slots Q (F0 m (pc + 3) ls rest)) : W p l e R s m args below meth c H locs cells slots Q (F0 m pc ls (.long v :: .ref a :: rest)) := by
  obtain ⟨⟨hx, hb, -, hown, hts⟩, hK, -, -⟩ := X
  obtain ⟨hP, hD, hS, hA⟩ := hw
  obtain ⟨i, hi0⟩ := pool_get (cy := cy) (M := M) g.1
  have hi := hi0
  rw [cel_obj g.2 hk] at hi
  have hl : j < (flds h M a k).length := by rw [flds_len]; exact (List.getElem?_eq_some_iff.mp ht).1
  refine va_put hx hb hts hin ty0 hty hnm hown hK hP hD hS i hi hC j hj (hts _ hlink) (fun x hx => by rw [hsame] at hx; exact hx) hfin (hty j hj) hn hfit hl hdg (fun H1 locs1 hP1 hD1 hS1 => ?_)
  have z : (pool cy h M).set i (a, .inr (k, (flds h M a k).set j (.long v))) = pool cy h (sJ M a j v) := pool_put hD g.1 hi0 (by rw [cel_obj g.2 hk, flds_setJ ht]) (fun b hb => cel_neJ hb)
  rw [z] at hP1 hD1
  exact kk H1 locs1 ⟨hP1, hD1, hS1, hA⟩
theorem r_iald {i : Int32} (X : Cx p s m args c cc nL Ts own D cy A) (hw : Wd D cy A H0 h M H locs) (g : ok h a 11) (hin : inb i (zN h a)) (hdg : decode cc pc = .ok (.iaload, 1))
    (kk : W p l e R s m args below meth c H locs cells slots Q (F0 m (pc + 1) ls (.int (zI M a i.toNatClampNeg) :: rest))) : W p l e R s m args below meth c H locs cells slots Q (F0 m pc ls (.int i :: .ref a :: rest)) := by
  obtain ⟨⟨hx, hb, -, hown, hts⟩, hK, -, -⟩ := X
  obtain ⟨hP, -, -, -⟩ := hw
  obtain ⟨k, hi⟩ := pool_get (cy := cy) (M := M) g.1
  rw [cel_I g.2 (by decide)] at hi
  exact va_iald hx hb hK hP k 1 hi rfl hin hdg kk
theorem r_bald {i : Int32} (X : Cx p s m args c cc nL Ts own D cy A) (hw : Wd D cy A H0 h M H locs) (g : ok h a 10) (hin : inb i (zN h a)) (hdg : decode cc pc = .ok (.baload, 1))
    (kk : W p l e R s m args below meth c H locs cells slots Q (F0 m (pc + 1) ls (.int (zI M a i.toNatClampNeg) :: rest))) : W p l e R s m args below meth c H locs cells slots Q (F0 m pc ls (.int i :: .ref a :: rest)) := by
  obtain ⟨⟨hx, hb, -, hown, hts⟩, hK, -, -⟩ := X
  obtain ⟨hP, -, -, -⟩ := hw
  obtain ⟨k, hi⟩ := pool_get (cy := cy) (M := M) g.1
  rw [cel_I g.2 (by decide)] at hi
  exact va_bald hx hb hK hP k 0 hi rfl hin hdg kk
theorem r_zald {i : Int32} (X : Cx p s m args c cc nL Ts own D cy A) (hw : Wd D cy A H0 h M H locs) (g : ok h a 13) (hin : inb i (zN h a)) (hdg : decode cc pc = .ok (.baload, 1))
    (kk : W p l e R s m args below meth c H locs cells slots Q (F0 m (pc + 1) ls (.int (zI M a i.toNatClampNeg) :: rest))) : W p l e R s m args below meth c H locs cells slots Q (F0 m pc ls (.int i :: .ref a :: rest)) := by
  obtain ⟨⟨hx, hb, -, hown, hts⟩, hK, -, -⟩ := X
  obtain ⟨hP, -, -, -⟩ := hw
  obtain ⟨k, hi⟩ := pool_get (cy := cy) (M := M) g.1
  rw [cel_I g.2 (by decide)] at hi
  exact va_zald hx hb hK hP k 3 hi rfl hin hdg kk
theorem r_lald {i : Int32} (X : Cx p s m args c cc nL Ts own D cy A) (hw : Wd D cy A H0 h M H locs) (g : ok h a 12) (hin : inb i (zN h a)) (hdg : decode cc pc = .ok (.laload, 1))
    (kk : W p l e R s m args below meth c H locs cells slots Q (F0 m (pc + 1) ls (.long (zJ M a i.toNatClampNeg) :: rest))) : W p l e R s m args below meth c H locs cells slots Q (F0 m pc ls (.int i :: .ref a :: rest)) := by
  obtain ⟨⟨hx, hb, -, hown, hts⟩, hK, -, -⟩ := X
  obtain ⟨hP, -, -, -⟩ := hw
  obtain ⟨k, hi⟩ := pool_get (cy := cy) (M := M) g.1
  rw [cel_J g.2] at hi
  exact va_lald hx hb hK hP k 2 hi rfl hin hdg kk
theorem r_aald14 {i : Int32} {q : Nat} (X : Cx p s m args c cc nL Ts own D cy A) (hw : Wd D cy A H0 h M H locs) (g : ok h a 14) (hin : inb i (zN h a)) (hdg : decode cc pc = .ok (.aaload, 1)) (hq : zR h a i.toNatClampNeg = some q)
    (kk : W p l e R s m args below meth c H locs cells slots Q (F0 m (pc + 1) ls (.ref q :: rest))) : W p l e R s m args below meth c H locs cells slots Q (F0 m pc ls (.int i :: .ref a :: rest)) := by
  obtain ⟨⟨hx, hb, -, hown, hts⟩, hK, -, -⟩ := X
  obtain ⟨hP, -, -, -⟩ := hw
  obtain ⟨k, hi⟩ := pool_get (cy := cy) (M := M) g.1
  rw [cel_R g.2 (by decide)] at hi
  refine va_aldq hx hb hK hP k 4 hi rfl hin hdg ?_
  rw [hq]; exact kk
theorem r_aald15 {i : Int32} {q : Nat} (X : Cx p s m args c cc nL Ts own D cy A) (hw : Wd D cy A H0 h M H locs) (g : ok h a 15) (hin : inb i (zN h a)) (hdg : decode cc pc = .ok (.aaload, 1)) (hq : zR h a i.toNatClampNeg = some q)
    (kk : W p l e R s m args below meth c H locs cells slots Q (F0 m (pc + 1) ls (.ref q :: rest))) : W p l e R s m args below meth c H locs cells slots Q (F0 m pc ls (.int i :: .ref a :: rest)) := by
  obtain ⟨⟨hx, hb, -, hown, hts⟩, hK, -, -⟩ := X
  obtain ⟨hP, -, -, -⟩ := hw
  obtain ⟨k, hi⟩ := pool_get (cy := cy) (M := M) g.1
  rw [cel_R g.2 (by decide)] at hi
  refine va_aldq hx hb hK hP k 5 hi rfl hin hdg ?_
  rw [hq]; exact kk
theorem up2_a {α : Type} {f : Nat → Nat → α} {a j : Nat} {v : α} : up2 f a j v a = fun k => if k = j then v else f a k := by
  funext k; simp [up2]
theorem zI_at {M : Mm} {a j : Nat} {v : Int32} : zI (sI M a j v) a = upd (zI M a) j v := up2_a
theorem zJ_at {M : Mm} {a j : Nat} {v : Int64} : zJ (sJ M a j v) a = vp_updL (zJ M a) j v := up2_a
theorem r_iast {i v : Int32} (X : Cx p s m args c cc nL Ts own D cy A) (hw : Wd D cy A H0 h M H locs) (g : ok h a 11) (hin : inb i (zN h a)) (hdg : decode cc pc = .ok (.iastore, 1))
    (kk : ∀ (H1 : Heap) (locs1 : List Loc), Wd D cy A H0 h (sI M a i.toNatClampNeg v) H1 locs1 → W p l e R s m args below meth c H1 locs1 cells slots Q (F0 m (pc + 1) ls rest)) : W p l e R s m args below meth c H locs cells slots Q (F0 m pc ls (.int v :: .int i :: .ref a :: rest)) := by
  obtain ⟨⟨hx, hb, -, hown, hts⟩, hK, -, -⟩ := X
  obtain ⟨hP, hD, hS, hA⟩ := hw
  obtain ⟨k, hi0⟩ := pool_get (cy := cy) (M := M) g.1
  have hi := hi0
  rw [cel_I g.2 (by decide)] at hi
  refine va_iast hx hb hK hP hD hS k 1 hi rfl hin hdg (fun H1 locs1 hP1 hD1 hS1 => ?_)
  have z : (pool cy h M).set k (a, .inl (cy 11, zN h a, .inl (upd (zI M a) i.toNatClampNeg v))) = pool cy h (sI M a i.toNatClampNeg v) := pool_put hD g.1 hi0 (by rw [cel_I g.2 (by decide), zI_at]) (fun b hb => cel_neI hb)
  rw [z] at hP1 hD1
  exact kk H1 locs1 ⟨hP1, hD1, hS1, hA⟩
theorem r_bast {i v : Int32} (X : Cx p s m args c cc nL Ts own D cy A) (hw : Wd D cy A H0 h M H locs) (g : ok h a 10) (hin : inb i (zN h a)) (hdg : decode cc pc = .ok (.bastore, 1))
    (kk : ∀ (H1 : Heap) (locs1 : List Loc), Wd D cy A H0 h (sI M a i.toNatClampNeg v.toInt8.toInt32) H1 locs1 → W p l e R s m args below meth c H1 locs1 cells slots Q (F0 m (pc + 1) ls rest)) : W p l e R s m args below meth c H locs cells slots Q (F0 m pc ls (.int v :: .int i :: .ref a :: rest)) := by
  obtain ⟨⟨hx, hb, -, hown, hts⟩, hK, -, -⟩ := X
  obtain ⟨hP, hD, hS, hA⟩ := hw
  obtain ⟨k, hi0⟩ := pool_get (cy := cy) (M := M) g.1
  have hi := hi0
  rw [cel_I g.2 (by decide)] at hi
  refine va_bast hx hb hK hP hD hS k 0 hi rfl hin hdg (fun H1 locs1 hP1 hD1 hS1 => ?_)
  rw [vp_nar_byte] at hP1 hD1
  have z : (pool cy h M).set k (a, .inl (cy 10, zN h a, .inl (upd (zI M a) i.toNatClampNeg v.toInt8.toInt32))) = pool cy h (sI M a i.toNatClampNeg v.toInt8.toInt32) := pool_put hD g.1 hi0 (by rw [cel_I g.2 (by decide), zI_at]) (fun b hb => cel_neI hb)
  rw [z] at hP1 hD1
  exact kk H1 locs1 ⟨hP1, hD1, hS1, hA⟩
theorem r_zast {i v : Int32} (X : Cx p s m args c cc nL Ts own D cy A) (hw : Wd D cy A H0 h M H locs) (g : ok h a 13) (hin : inb i (zN h a)) (hv : vp_nar .boolean v = v) (hdg : decode cc pc = .ok (.bastore, 1))
    (kk : ∀ (H1 : Heap) (locs1 : List Loc), Wd D cy A H0 h (sI M a i.toNatClampNeg v) H1 locs1 → W p l e R s m args below meth c H1 locs1 cells slots Q (F0 m (pc + 1) ls rest)) : W p l e R s m args below meth c H locs cells slots Q (F0 m pc ls (.int v :: .int i :: .ref a :: rest)) := by
  obtain ⟨⟨hx, hb, -, hown, hts⟩, hK, -, -⟩ := X
  obtain ⟨hP, hD, hS, hA⟩ := hw
  obtain ⟨k, hi0⟩ := pool_get (cy := cy) (M := M) g.1
  have hi := hi0
  rw [cel_I g.2 (by decide)] at hi
  refine va_zast hx hb hK hP hD hS k 3 hi rfl hin hdg (fun H1 locs1 hP1 hD1 hS1 => ?_)
  rw [hv] at hP1 hD1
  have z : (pool cy h M).set k (a, .inl (cy 13, zN h a, .inl (upd (zI M a) i.toNatClampNeg v))) = pool cy h (sI M a i.toNatClampNeg v) := pool_put hD g.1 hi0 (by rw [cel_I g.2 (by decide), zI_at]) (fun b hb => cel_neI hb)
  rw [z] at hP1 hD1
  exact kk H1 locs1 ⟨hP1, hD1, hS1, hA⟩
theorem r_last {i : Int32} {v : Int64} (X : Cx p s m args c cc nL Ts own D cy A) (hw : Wd D cy A H0 h M H locs) (g : ok h a 12) (hin : inb i (zN h a)) (hdg : decode cc pc = .ok (.lastore, 1))
    (kk : ∀ (H1 : Heap) (locs1 : List Loc), Wd D cy A H0 h (sJ M a i.toNatClampNeg v) H1 locs1 → W p l e R s m args below meth c H1 locs1 cells slots Q (F0 m (pc + 1) ls rest)) : W p l e R s m args below meth c H locs cells slots Q (F0 m pc ls (.long v :: .int i :: .ref a :: rest)) := by
  obtain ⟨⟨hx, hb, -, hown, hts⟩, hK, -, -⟩ := X
  obtain ⟨hP, hD, hS, hA⟩ := hw
  obtain ⟨k, hi0⟩ := pool_get (cy := cy) (M := M) g.1
  have hi := hi0
  rw [cel_J g.2] at hi
  refine va_last hx hb hK hP hD hS k 2 hi rfl hin hdg (fun H1 locs1 hP1 hD1 hS1 => ?_)
  have z : (pool cy h M).set k (a, .inl (cy 12, zN h a, .inr (.inl (vp_updL (zJ M a) i.toNatClampNeg v)))) = pool cy h (sJ M a i.toNatClampNeg v) := pool_put hD g.1 hi0 (by rw [cel_J g.2, zJ_at]) (fun b hb => cel_neJ hb)
  rw [z] at hP1 hD1
  exact kk H1 locs1 ⟨hP1, hD1, hS1, hA⟩
theorem r_alen {k : Nat} (X : Cx p s m args c cc nL Ts own D cy A) (hw : Wd D cy A H0 h M H locs) (g : ok h a k) (hk : 10 ≤ k ∧ k < 16) (hdg : decode cc pc = .ok (.arraylength, 1))
    (kk : W p l e R s m args below meth c H locs cells slots Q (F0 m (pc + 1) ls (.int (Int32.ofNat (zN h a)) :: rest))) : W p l e R s m args below meth c H locs cells slots Q (F0 m pc ls (.ref a :: rest)) := by
  obtain ⟨⟨hx, hb, -, hown, hts⟩, hK, -, -⟩ := X
  obtain ⟨hP, -, -, -⟩ := hw
  obtain ⟨i, hi⟩ := pool_get (cy := cy) (M := M) g.1
  obtain ⟨h1, h2⟩ := hk
  rcases (show k = 10 ∨ k = 11 ∨ k = 12 ∨ k = 13 ∨ k = 14 ∨ k = 15 by omega) with rfl | rfl | rfl | rfl | rfl | rfl
  · rw [cel_I g.2 (by decide)] at hi; exact va_alen hx hb hK hP i 0 hi rfl rfl hdg kk
  · rw [cel_I g.2 (by decide)] at hi; exact va_alen hx hb hK hP i 1 hi rfl rfl hdg kk
  · rw [cel_J g.2] at hi; exact va_alen hx hb hK hP i 2 hi rfl rfl hdg kk
  · rw [cel_I g.2 (by decide)] at hi; exact va_alen hx hb hK hP i 3 hi rfl rfl hdg kk
  · rw [cel_R g.2 (by decide)] at hi; exact va_alen hx hb hK hP i 4 hi rfl rfl hdg kk
  · rw [cel_R g.2 (by decide)] at hi; exact va_alen hx hb hK hP i 5 hi rfl rfl hdg kk
end PR
