/-! two pools side by side: the class's and the reference's -/
theorem va_P.iff {D : va_G} {cl : List vw_C} {ws : va_W} {H : Heap} : va_P D cl ws H ↔ ∀ q ∈ ws, va_at D cl q H :=
  ⟨fun h q hq => by obtain ⟨k, hk⟩ := List.getElem?_of_mem hq; exact h k q hk, fun h k q hk => h q (List.mem_of_getElem? hk)⟩
theorem va_D.iff2 {A : Nat → Prop} {w1 w2 : va_W} : va_D A (w1 ++ w2) ↔ va_D A w1 ∧ va_D A w2 ∧ ∀ p ∈ w1, ∀ q ∈ w2, p.1 ≠ q.1 := by
  constructor
  · intro h
    refine ⟨⟨fun i j p q hi hj e => ?_, fun k q hk => ?_⟩, ⟨fun i j p q hi hj e => ?_, fun k q hk => ?_⟩, fun p hp q hq e => ?_⟩
    · have li := (List.getElem?_eq_some_iff.mp hi).1
      have lj := (List.getElem?_eq_some_iff.mp hj).1
      exact h.1 i j p q (by rw [List.getElem?_append_left li]; exact hi) (by rw [List.getElem?_append_left lj]; exact hj) e
    · have lk := (List.getElem?_eq_some_iff.mp hk).1
      exact h.2 k q (by rw [List.getElem?_append_left lk]; exact hk)
    · have := h.1 (w1.length + i) (w1.length + j) p q (by rw [List.getElem?_append_right (Nat.le_add_right _ _), Nat.add_sub_cancel_left]; exact hi) (by rw [List.getElem?_append_right (Nat.le_add_right _ _), Nat.add_sub_cancel_left]; exact hj) e
      omega
    · exact h.2 (w1.length + k) q (by rw [List.getElem?_append_right (Nat.le_add_right _ _), Nat.add_sub_cancel_left]; exact hk)
    · obtain ⟨i, hi⟩ := List.getElem?_of_mem hp
      obtain ⟨j, hj⟩ := List.getElem?_of_mem hq
      have li := (List.getElem?_eq_some_iff.mp hi).1
      have := h.1 i (w1.length + j) p q (by rw [List.getElem?_append_left li]; exact hi) (by rw [List.getElem?_append_right (Nat.le_add_right _ _), Nat.add_sub_cancel_left]; exact hj) e
      omega
  · rintro ⟨h1, h2, h3⟩
    refine ⟨fun i j p q hi hj e => ?_, fun k q hk => ?_⟩
    · rcases Nat.lt_or_ge i w1.length with li | li <;> rcases Nat.lt_or_ge j w1.length with lj | lj
      · rw [List.getElem?_append_left li] at hi; rw [List.getElem?_append_left lj] at hj
        exact h1.1 i j p q hi hj e
      · rw [List.getElem?_append_left li] at hi; rw [List.getElem?_append_right lj] at hj
        exact absurd e (h3 p (List.mem_of_getElem? hi) q (List.mem_of_getElem? hj))
      · rw [List.getElem?_append_right li] at hi; rw [List.getElem?_append_left lj] at hj
        exact absurd e.symm (h3 q (List.mem_of_getElem? hj) p (List.mem_of_getElem? hi))
      · rw [List.getElem?_append_right li] at hi; rw [List.getElem?_append_right lj] at hj
        have := h2.1 _ _ p q hi hj e
        omega
    · rcases Nat.lt_or_ge k w1.length with lk | lk
      · rw [List.getElem?_append_left lk] at hk; exact h1.2 k q hk
      · rw [List.getElem?_append_right lk] at hk; exact h2.2 _ q hk
def Wd2 (D : va_G) (cy : Nat → ClassId) (A : Nat → Prop) (H0 : Heap) (h1 : Hs) (M1 : Mm) (h2 : Hs) (M2 : Mm) (H : Heap) (locs : List Loc) : Prop :=
  va_P D vwCl (pool cy h1 M1 ++ pool cy h2 M2) H ∧ va_D A (pool cy h1 M1 ++ pool cy h2 M2) ∧ va_S A H0 H locs ∧ ∀ q, H0.size ≤ q → A q
section P2
variable {D : va_G} {cy : Nat → ClassId} {A : Nat → Prop} {H H1 : Heap} {s : State} {h1 h2 h1' h2' : Hs} {M1 M2 M1' M2' : Mm} {locs locs1 : List Loc}
theorem Wd2.one (w : Wd2 D cy A s.heap h1 M1 h2 M2 H locs) : Wd D cy A s.heap h1 M1 H locs := by
  obtain ⟨hP, hD, hS, hA⟩ := w
  exact ⟨va_P.iff.mpr fun q hq => va_P.iff.mp hP q (List.mem_append_left _ hq), (va_D.iff2.mp hD).1, hS, hA⟩
theorem Wd2.two (w : Wd2 D cy A s.heap h1 M1 h2 M2 H locs) : Wd D cy A s.heap h2 M2 H locs := by
  obtain ⟨hP, hD, hS, hA⟩ := w
  exact ⟨va_P.iff.mpr fun q hq => va_P.iff.mp hP q (List.mem_append_right _ hq), (va_D.iff2.mp hD).2.1, hS, hA⟩
theorem Wd2.swap (w : Wd2 D cy A s.heap h1 M1 h2 M2 H locs) : Wd2 D cy A s.heap h2 M2 h1 M1 H locs := by
  obtain ⟨hP, hD, hS, hA⟩ := w
  obtain ⟨d1, d2, d3⟩ := va_D.iff2.mp hD
  refine ⟨va_P.iff.mpr fun q hq => va_P.iff.mp hP q ?_, va_D.iff2.mpr ⟨d2, d1, fun p hp q hq e => d3 q hq p hp e.symm⟩, hS, hA⟩
  rcases List.mem_append.mp hq with h | h
  · exact List.mem_append_right _ h
  · exact List.mem_append_left _ h
theorem va_A.mem {ws : va_W} {sz q : Nat} (h : va_A ws sz q) : (∃ p ∈ ws, p.1 = q) ∨ sz ≤ q := by
  rcases h with ⟨k, e, hk⟩ | h
  · exact Or.inl ⟨_, List.mem_of_getElem? hk, rfl⟩
  · exact Or.inr h
theorem Wd2.next1 (w : Wd2 D cy A s.heap h1 M1 h2 M2 H locs) (hP1 : va_P D vwCl (pool cy h1' M1') H1) (hD1 : va_D (va_A (pool cy h1 M1) H.size) (pool cy h1' M1')) (hk : ∀ q : Nat, q < H.size → ¬ va_A (pool cy h1 M1) H.size q → H1[q]? = H[q]?) (hS : va_S A s.heap H1 locs1) : Wd2 D cy A s.heap h1' M1' h2 M2 H1 locs1 := by
  have w1 := w.one
  obtain ⟨hP, hD, -, hA⟩ := w
  obtain ⟨d1, d2, d3⟩ := va_D.iff2.mp hD
  have far : ∀ q ∈ pool cy h2 M2, q.1 < H.size ∧ ¬ va_A (pool cy h1 M1) H.size q.1 := fun q hq => by
    have hlt := (va_P.iff.mp hP q (List.mem_append_right _ hq)).lt
    refine ⟨hlt, fun z => ?_⟩
    rcases va_A.mem z with ⟨p, hp, e⟩ | z
    · exact d3 p hp q hq e
    · omega
  refine ⟨va_P.iff.mpr fun q hq => ?_, va_D.iff2.mpr ⟨⟨hD1.1, fun k q hq => w1.free (s := s) _ (hD1.2 k q hq)⟩, d2, fun p hp q hq e => ?_⟩, hS, hA⟩
  · rcases List.mem_append.mp hq with h | h
    · exact va_P.iff.mp hP1 q h
    · exact (va_P.iff.mp hP q (List.mem_append_right _ h)).kept (hk _ (far q h).1 (far q h).2)
  · obtain ⟨k, hk2⟩ := List.getElem?_of_mem hp
    have := hD1.2 k p hk2
    rw [e] at this
    exact (far q hq).2 this
end P2
section P3
variable {p : Program} {l : Launch} {e : Env} {R : Room} {s : State} {m : MethodId} {args : Array Value} {below : List Frame} {meth : Method} {c : Code} {H : Heap} {locs : List Loc} {cells slots : Nat} {Q : State → Prop}
variable {cc : ByteArray} {pc nL : Nat} {ls : Array Slot} {rest : List Value} {D : va_G} {cy : Nat → ClassId} {A : Nat → Prop} {h1 h2 : Hs} {M1 M2 : Mm} {Ts : List Cond} {own : String}
variable {y : MethodName} {bytes : ByteArray} {maxL n index : Nat} {ret : Option FieldType} {ws : List Cond} {rm : Room} {As st0 : List Value} {M' : Mm}
theorem l_V1 {b k : Nat} {C : String} {T : u_T} {N : Nat} {r : Int32} (X : Cx p s m args c cc nL Ts own D cy A) (hw : Wd2 D cy A s.heap h1 M1 h2 M2 H locs) (hc : CtI l D cy y ws rm (.ref b :: As) h1 M1 r M') (cw : CallW R s args own C index y bytes maxL ret ws rm 0 0 n) (g : ok h1 b k) (hk : k < 10) (hC : vwCl[k]? = some (C, T, N)) (hn : As.length = n) (hl : ls.size = nL) (hst : st0 = As.reverse ++ .ref b :: rest) (hW : (rest.map fun v => v.category).sum ≤ 8) (hdg : decode cc pc = .ok (.invokevirtual index, 3)) (hf : cells + 0 ≤ R.cells ∧ slots + 0 ≤ R.slots)
    (kk : ∀ (H1 : Heap) (locs1 : List Loc), Wd2 D cy A s.heap h1 M' h2 M2 H1 locs1 → W p l e R s m args below meth c H1 locs1 cells slots Q (F0 m (pc + 3) ls (.int r :: rest))) : W p l e R s m args below meth c H locs cells slots Q (F0 m pc ls st0) := by
  have w1 := hw.one
  refine va_calli (va_runV (As := As) (rest := rest) X.1 (hc H.size) cw ⟨PCs.blind, w1.recv X g hk hC, fun U hU hW => PCs.of X w1 hU hW⟩ rfl hn hl hst (lv_room hW) hdg hf) w1.2.2.1 (fun q _ z => w1.free q z) w1.free (fun r2 u t H1 locs1 ht hvm hr hB hz hk1 hS => ?_)
  subst hr
  obtain ⟨hP1, -, hD1⟩ := hB
  rw [ht] at hP1
  exact kk H1 locs1 (hw.next1 hP1 hD1 hk1 hS)
theorem l_V1N {b k mc ms : Nat} {C : String} {T : u_T} {N : Nat} {r : Int32} {P : Hs × Mm → Prop} (X : Cx p s m args c cc nL Ts own D cy A) (hw : Wd2 D cy A s.heap h1 M1 h2 M2 H locs) (hc : CtNI l D cy y ws rm (.ref b :: As) h1 M1 r P mc ms) (cw : CallW R s args own C index y bytes maxL ret ws rm mc ms n) (g : ok h1 b k) (hk : k < 10) (hC : vwCl[k]? = some (C, T, N)) (hn : As.length = n) (hl : ls.size = nL) (hst : st0 = As.reverse ++ .ref b :: rest) (hW : (rest.map fun v => v.category).sum ≤ 8) (hdg : decode cc pc = .ok (.invokevirtual index, 3)) (hf : cells + mc ≤ R.cells ∧ slots + ms ≤ R.slots)
    (kk : ∀ (u : Hs × Mm) (H1 : Heap) (locs1 : List Loc), P u → Wd2 D cy A s.heap u.1 u.2 h2 M2 H1 locs1 → W p l e R s m args below meth c H1 locs1 (cells + mc) (slots + ms) Q (F0 m (pc + 3) ls (.int r :: rest))) : W p l e R s m args below meth c H locs cells slots Q (F0 m pc ls st0) := by
  have w1 := hw.one
  refine va_calli (va_runV (As := As) (rest := rest) X.1 (hc H.size) cw ⟨PCs.blind, w1.recv X g hk hC, fun U hU hW => PCs.of X w1 hU hW⟩ rfl hn hl hst (lv_room hW) hdg hf) w1.2.2.1 (fun q _ z => w1.free q z) w1.free (fun r2 u t H1 locs1 ht hvm hr hB hz hk1 hS => ?_)
  obtain ⟨rfl, hPu⟩ := hr
  obtain ⟨hP1, -, hD1⟩ := hB
  rw [ht] at hP1
  exact kk u H1 locs1 hPu (hw.next1 hP1 hD1 hk1 hS)
theorem l_S1 {hh : List (Nat × Nat × Nat × Nat)} {r : Int32} (X : Cx p s m args c cc nL Ts own D cy A) (hw : Wd2 D cy A s.heap h1 M1 h2 M2 H locs) (hc : CtS l D cy y ws rm As h1 M1 r M') (cw : vx_CSW R s args own index y bytes maxL ret hh ws rm 1 6 n) (hn : As.length = n) (hl : ls.size = nL) (hst : st0 = As.reverse ++ rest) (hW : (rest.map fun v => v.category).sum ≤ 8) (hdg : decode cc pc = .ok (.invokestatic index, 3)) (hf : cells + 1 ≤ R.cells ∧ slots + 6 ≤ R.slots)
    (kk : ∀ (H1 : Heap) (locs1 : List Loc), Wd2 D cy A s.heap h1 M' h2 M2 H1 locs1 → W p l e R s m args below meth c H1 locs1 (cells + 1) (slots + 6) Q (F0 m (pc + 3) ls (.int r :: rest))) : W p l e R s m args below meth c H locs cells slots Q (F0 m pc ls st0) := by
  have w1 := hw.one
  refine va_calli (vx_runSW (As := As) (rest := rest) X.1 (hc H.size) cw ⟨PCs.blind, fun U hU hW => PCs.of X w1 hU hW⟩ rfl hn hl hst (lv_room hW) hdg hf) w1.2.2.1 (fun q _ z => w1.free q z) w1.free (fun r2 u t H1 locs1 ht hvm hr hB hz hk1 hS => ?_)
  subst hr
  obtain ⟨hP1, -, hD1⟩ := hB
  rw [ht] at hP1
  exact kk H1 locs1 (hw.next1 hP1 hD1 hk1 hS)
theorem l_V2 {b k : Nat} {C : String} {T : u_T} {N : Nat} {r : Int32} (X : Cx p s m args c cc nL Ts own D cy A) (hw : Wd2 D cy A s.heap h1 M1 h2 M2 H locs) (hc : CtI l D cy y ws rm (.ref b :: As) h2 M2 r M') (cw : CallW R s args own C index y bytes maxL ret ws rm 0 0 n) (g : ok h2 b k) (hk : k < 10) (hC : vwCl[k]? = some (C, T, N)) (hn : As.length = n) (hl : ls.size = nL) (hst : st0 = As.reverse ++ .ref b :: rest) (hW : (rest.map fun v => v.category).sum ≤ 8) (hdg : decode cc pc = .ok (.invokevirtual index, 3)) (hf : cells + 0 ≤ R.cells ∧ slots + 0 ≤ R.slots)
    (kk : ∀ (H1 : Heap) (locs1 : List Loc), Wd2 D cy A s.heap h1 M1 h2 M' H1 locs1 → W p l e R s m args below meth c H1 locs1 cells slots Q (F0 m (pc + 3) ls (.int r :: rest))) : W p l e R s m args below meth c H locs cells slots Q (F0 m pc ls st0) :=
  l_V1 X hw.swap hc cw g hk hC hn hl hst hW hdg hf (fun H1 locs1 w => kk H1 locs1 w.swap)
theorem l_V2L {b k : Nat} {C : String} {T : u_T} {N : Nat} {r : Int64} (X : Cx p s m args c cc nL Ts own D cy A) (hw : Wd2 D cy A s.heap h1 M1 h2 M2 H locs) (hc : CtL l D cy y ws rm (.ref b :: As) h2 M2 r M') (cw : CallW R s args own C index y bytes maxL ret ws rm 0 0 n) (g : ok h2 b k) (hk : k < 10) (hC : vwCl[k]? = some (C, T, N)) (hn : As.length = n) (hl : ls.size = nL) (hst : st0 = As.reverse ++ .ref b :: rest) (hW : (rest.map fun v => v.category).sum ≤ 8) (hdg : decode cc pc = .ok (.invokevirtual index, 3)) (hf : cells + 0 ≤ R.cells ∧ slots + 0 ≤ R.slots)
    (kk : ∀ (H1 : Heap) (locs1 : List Loc), Wd2 D cy A s.heap h1 M1 h2 M' H1 locs1 → W p l e R s m args below meth c H1 locs1 cells slots Q (F0 m (pc + 3) ls (.long r :: rest))) : W p l e R s m args below meth c H locs cells slots Q (F0 m pc ls st0) := by
  have w1 := hw.two
  refine va_calll (va_runV (As := As) (rest := rest) X.1 (hc H.size) cw ⟨PCs.blind, w1.recv X g hk hC, fun U hU hW => PCs.of X w1 hU hW⟩ rfl hn hl hst (lv_room hW) hdg hf) w1.2.2.1 (fun q _ z => w1.free q z) w1.free (fun r2 u t H1 locs1 ht hvm hr hB hz hk1 hS => ?_)
  subst hr
  obtain ⟨hP1, -, hD1⟩ := hB
  rw [ht] at hP1
  exact kk H1 locs1 (hw.swap.next1 hP1 hD1 hk1 hS).swap
end P3
