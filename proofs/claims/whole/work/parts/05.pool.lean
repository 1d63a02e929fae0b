/-! THE POOL: one store of ints, longs and references by address and place; kinds by address.
    h = (addresses, kind of each, length of each array, references), M = (ints, longs) -/
abbrev Hs : Type := List Nat × (Nat → Nat) × (Nat → Nat) × (Nat → Nat → Option Nat)
abbrev Mm : Type := (Nat → Nat → Int32) × (Nat → Nat → Int64)
def zL (h : Hs) : List Nat := h.1
def zK (h : Hs) : Nat → Nat := h.2.1
def zN (h : Hs) : Nat → Nat := h.2.2.1
def zR (h : Hs) : Nat → Nat → Option Nat := h.2.2.2
def zI (M : Mm) : Nat → Nat → Int32 := M.1
def zJ (M : Mm) : Nat → Nat → Int64 := M.2
def up2 {α : Type} (f : Nat → Nat → α) (a j : Nat) (v : α) : Nat → Nat → α := fun b k => if b = a ∧ k = j then v else f b k
def sI (M : Mm) (a j : Nat) (v : Int32) : Mm := (up2 M.1 a j v, M.2)
def sJ (M : Mm) (a j : Nat) (v : Int64) : Mm := (M.1, up2 M.2 a j v)
abbrev ok (h : Hs) (a k : Nat) : Prop := a ∈ zL h ∧ zK h a = k
abbrev inb (i : Int32) (n : Nat) : Prop := ¬ (i < 0 ∨ n ≤ i.toNatClampNeg)
def kT : Nat → List Nat := fun k => match k with
  | 0 => [2, 2]
  | 1 => [2, 2]
  | 2 => [2, 2, 2, 0, 0, 0, 0, 0, 0]
  | 3 => [2, 2, 0]
  | 4 => [2, 0, 0, 0, 0]
  | 5 => [2, 2, 2, 2, 2, 2, 0, 0, 0, 0, 0, 0]
  | 6 => [2, 0]
  | 7 => [2, 1, 1, 0]
  | 8 => [2, 2, 2, 2, 2, 2, 2, 2, 0, 0]
  | 9 => [0, 2, 2, 2, 0, 0, 2, 0, 2, 2, 2, 0, 0, 2, 2, 2, 0, 2, 2, 0, 2, 1]
  | _ => []
def fv (h : Hs) (M : Mm) (a j c : Nat) : Value := match c with
  | 0 => .int (zI M a j)
  | 1 => .long (zJ M a j)
  | _ => va_rf (zR h a j)
def flds (h : Hs) (M : Mm) (a k : Nat) : List Value := (kT k).zipIdx.map (fun c => fv h M a c.2 c.1)
theorem flds_get {h : Hs} {M : Mm} {a k j c : Nat} (hj : (kT k)[j]? = some c) : (flds h M a k)[j]? = some (fv h M a j c) := by
  simp [flds, List.getElem?_map, List.getElem?_zipIdx, hj]
theorem zI_ne {M : Mm} {a b j : Nat} {v : Int32} (hb : b ≠ a) : zI (sI M a j v) b = zI M b := by
  funext k; simp [zI, sI, up2, hb]
theorem zJ_ne {M : Mm} {a b j : Nat} {v : Int64} (hb : b ≠ a) : zJ (sJ M a j v) b = zJ M b := by
  funext k; simp [zJ, sJ, up2, hb]
theorem zJ_sI {M : Mm} {a j : Nat} {v : Int32} : zJ (sI M a j v) = zJ M := rfl
theorem zI_sJ {M : Mm} {a j : Nat} {v : Int64} : zI (sJ M a j v) = zI M := rfl
theorem flds_len {h : Hs} {M : Mm} {a k : Nat} : (flds h M a k).length = (kT k).length := by simp [flds]
theorem flds_setI {h : Hs} {M : Mm} {a k j : Nat} {v : Int32} (hj : (kT k)[j]? = some 0) : flds h (sI M a j v) a k = (flds h M a k).set j (.int v) := by
  apply List.ext_getElem?
  intro i
  rw [List.getElem?_set]
  by_cases e : j = i
  · subst e
    have hlt : j < (flds h M a k).length := by rw [flds_len]; exact (List.getElem?_eq_some_iff.mp hj).1
    rw [if_pos rfl, if_pos hlt, flds_get hj]
    simp [fv, zI, sI, up2]
  · rw [if_neg e]
    cases hc : (kT k)[i]? with
    | none => simp [flds, hc]
    | some c =>
      rw [flds_get hc, flds_get hc]
      unfold fv
      split <;> simp [zI, zJ, sI, up2, Ne.symm e]
theorem flds_setJ {h : Hs} {M : Mm} {a k j : Nat} {v : Int64} (hj : (kT k)[j]? = some 1) : flds h (sJ M a j v) a k = (flds h M a k).set j (.long v) := by
  apply List.ext_getElem?
  intro i
  rw [List.getElem?_set]
  by_cases e : j = i
  · subst e
    have hlt : j < (flds h M a k).length := by rw [flds_len]; exact (List.getElem?_eq_some_iff.mp hj).1
    rw [if_pos rfl, if_pos hlt, flds_get hj]
    simp [fv, zJ, sJ, up2]
  · rw [if_neg e]
    cases hc : (kT k)[i]? with
    | none => simp [flds, hc]
    | some c =>
      rw [flds_get hc, flds_get hc]
      unfold fv
      split <;> simp [zI, zJ, sJ, up2, Ne.symm e]
def cel (cy : Nat → ClassId) (h : Hs) (M : Mm) (a : Nat) : va_E :=
  if zK h a < 10 then .inr (zK h a, flds h M a (zK h a))
  else if zK h a = 12 then .inl (cy 12, zN h a, .inr (.inl (zJ M a)))
  else if 14 ≤ zK h a then .inl (cy (zK h a), zN h a, .inr (.inr (.inr (.inr (zR h a)))))
  else .inl (cy (zK h a), zN h a, .inl (zI M a))
theorem cel_obj {cy : Nat → ClassId} {h : Hs} {M : Mm} {a k : Nat} (e : zK h a = k) (hk : k < 10) : cel cy h M a = .inr (k, flds h M a k) := by
  simp [cel, e, hk]
theorem cel_J {cy : Nat → ClassId} {h : Hs} {M : Mm} {a : Nat} (e : zK h a = 12) : cel cy h M a = .inl (cy 12, zN h a, .inr (.inl (zJ M a))) := by
  simp [cel, e]
theorem cel_R {cy : Nat → ClassId} {h : Hs} {M : Mm} {a k : Nat} (e : zK h a = k) (hk : 14 ≤ k) : cel cy h M a = .inl (cy k, zN h a, .inr (.inr (.inr (.inr (zR h a))))) := by
  have h1 : ¬ k < 10 := by omega
  have h2 : ¬ k = 12 := by omega
  simp [cel, e, h1, h2, hk]
theorem cel_I {cy : Nat → ClassId} {h : Hs} {M : Mm} {a k : Nat} (e : zK h a = k) (hk : k = 10 ∨ k = 11 ∨ k = 13) : cel cy h M a = .inl (cy k, zN h a, .inl (zI M a)) := by
  have h1 : ¬ k < 10 := by omega
  have h2 : ¬ k = 12 := by omega
  have h3 : ¬ 14 ≤ k := by omega
  simp [cel, e, h1, h2, h3]
theorem cel_neI {cy : Nat → ClassId} {h : Hs} {M : Mm} {a b j : Nat} {v : Int32} (hb : b ≠ a) : cel cy h (sI M a j v) b = cel cy h M b := by
  unfold cel flds fv
  simp only [zI_ne hb, zJ_sI]
theorem cel_neJ {cy : Nat → ClassId} {h : Hs} {M : Mm} {a b j : Nat} {v : Int64} (hb : b ≠ a) : cel cy h (sJ M a j v) b = cel cy h M b := by
  unfold cel flds fv
  simp only [zJ_ne hb, zI_sJ]
def pool (cy : Nat → ClassId) (h : Hs) (M : Mm) : va_W := va_pl (zL h) (cel cy h M)
theorem pool_get {cy : Nat → ClassId} {h : Hs} {M : Mm} {a : Nat} (g : a ∈ zL h) : ∃ k : Nat, (pool cy h M)[k]? = some (a, cel cy h M a) := va_pl_get (X := []) g
theorem pool_put {cy : Nat → ClassId} {A : Nat → Prop} {h : Hs} {M M' : Mm} {a k : Nat} {e : va_E} (hD : va_D A (pool cy h M)) (g : a ∈ zL h) (hk : (pool cy h M)[k]? = some (a, cel cy h M a)) (h1 : cel cy h M' a = e) (h2 : ∀ b, b ≠ a → cel cy h M' b = cel cy h M b) : (pool cy h M).set k (a, e) = pool cy h M' := by
  have z := va_pl_set (X := []) (f := cel cy h M) (e := e) hD g hk
  refine z.trans ?_
  show va_pl _ _ = va_pl _ _
  unfold va_pl
  apply List.map_congr_left
  intro b _
  by_cases hb : b = a
  · subst hb; simp [va_up, h1]
  · simp [va_up, hb, h2 b hb]
def nestW : List Cond := [.methodLinkNest RX8 11 yX6_init RX8, .methodLinkNest RX0 23 yX4_init RX8, .methodLinkNest RX0 24 yX2_init RX8, .methodLinkNest RX8 25 yX5_init RX8, .methodLinkNest RX8 32 yX7_init RX8, .methodLinkNest RX8 39 yX1_init RX8, .methodLinkNest RX8 46 yX4_init RX8, .methodLinkNest RX8 53 yX2_init RX8, .methodLinkNest RX6 38 yX8_isWithin RX8, .methodLinkNest RX5 110 yX8_isWithin RX8, .declares (Bundle.initS "java/lang/RuntimeException"), .declares (Bundle.initS "java/lang/Exception"), .declares (Bundle.initS Bundle.tN), .castable "java/util/NoSuchElementException" "java/util/NoSuchElementException"]
def NN (U : State) : Prop := (∀ w ∈ nestW, va_Nw w U) ∧ va_AO "LoadCounter$Place" U ∧ va_AO "LoadCounter$Detail" U
def tyL (cy : Nat → ClassId) : List (ClassId × FieldType) := [(cy 10, .byte), (cy 11, .int), (cy 12, .long), (cy 13, .boolean), (cy 14, .object "LoadCounter$Detail"), (cy 15, .object "LoadCounter$Place")]
theorem NN.same {u U : State} (h : u.vm = U.vm) (hA : u.vm.Alike U.vm) (hN : NN u) : NN U := ⟨fun w hw => va_Nw.same ((by decide +kernel : ∀ w ∈ nestW, w.onTables = true) w hw) h (hN.1 w hw), hN.2.1.moved hA, hN.2.2.moved hA⟩
theorem nestW_form : ∀ w ∈ nestW, (∃ (a : String) (i : Nat) (x : MethodName) (b : String), w = .methodLinkNest a i x b) ∨ (∃ x : MethodName, w = .declares x) ∨ ∃ a b : String, w = .castable a b := by
  intro w hw
  simp only [nestW, List.mem_cons, List.not_mem_nil, or_false] at hw
  rcases hw with rfl | rfl | rfl | rfl | rfl | rfl | rfl | rfl | rfl | rfl | rfl | rfl | rfl | rfl <;> first | exact Or.inl ⟨_, _, _, _, rfl⟩ | exact Or.inr (Or.inl ⟨_, rfl⟩) | exact Or.inr (Or.inr ⟨_, _, rfl⟩)
theorem NN.warm {s U : State} (hW : s.WarmedH U.vm) (hN : NN s) : NN U := by
  refine ⟨fun w hw => ?_, hN.2.1.moved hW.alike, hN.2.2.moved hW.alike⟩
  rcases nestW_form w hw with ⟨a, i, x, b, rfl⟩ | ⟨x, rfl⟩ | ⟨a, b, rfl⟩
  · exact va_Nw.warmM hW (hN.1 _ hw)
  · exact va_Nw.warmD hW (hN.1 _ hw)
  · exact va_Nw.warmC hW (hN.1 _ hw)
def bowN : Nat → Int32 := fun j => match j with
  | 0 => 1
  | 1 => 2
  | 2 => 4
  | 3 => 8
  | 4 => 4
  | _ => 8
def bow : Nat → Value := fun j => .int (bowN j)
/-- what lies outside the pool and is read: the class's static array, what a throw reads, the texts -/
def SF (A : Nat → Prop) (U : State) (H : Heap) : Prop :=
  (∃ t : Nat, va_Z "LoadCounter" "BYTES_OF_WIDTH" "[I" (.ref t) A U H ∧ va_T .int t 6 bow A U H) ∧
  vx_Zq Bundle.tN "UNASSIGNED_STACK" Bundle.steD A U H ∧ vx_Zq Bundle.tN "SUPPRESSED_SENTINEL" Bundle.listD A U H ∧
  (∃ a : Nat, vk_R RX8 152 "no such span" a U) ∧ (∃ a : Nat, vk_R RX8 161 "no such turn" a U) ∧ (∃ a : Nat, vk_R RX8 170 "no such cycle" a U) ∧
  (∃ a : Nat, vk_R RX8 226 "no such damage" a U) ∧ (∃ a : Nat, vk_R RX8 248 "no such part" a U) ∧ (∃ a : Nat, vk_R RX8 254 "no such detail" a U)
theorem SF.call {A B : Nat → Prop} {s U : State} {H : Heap} (h : SF A s s.heap) (hk : ∀ q : Nat, q < s.heap.size → ¬ A q → H[q]? = s.heap[q]?) (hAB : ∀ q, B q → A q) (hW : s.WarmedH U.vm) : SF B U H := by
  obtain ⟨⟨t, h1, h2⟩, h3, h4, ⟨a1, e1⟩, ⟨a2, e2⟩, ⟨a3, e3⟩, ⟨a4, e4⟩, ⟨a5, e5⟩, ⟨a6, e6⟩⟩ := h
  exact ⟨⟨t, ((h1.kept hk).narrow hAB).moved hW.alike, ((h2.kept hk).narrow hAB).moved hW.alike⟩, ((h3.kept hk).narrow hAB).moved hW.alike, ((h4.kept hk).narrow hAB).moved hW.alike,
    ⟨a1, e1.warm hW⟩, ⟨a2, e2.warm hW⟩, ⟨a3, e3.warm hW⟩, ⟨a4, e4.warm hW⟩, ⟨a5, e5.warm hW⟩, ⟨a6, e6.warm hW⟩⟩
theorem SF.same {A : Nat → Prop} {u U : State} {H : Heap} (hv : U.vm = u.vm) (hA : u.vm.Alike U.vm) (h : SF A u H) : SF A U H := by
  obtain ⟨⟨t, h1, h2⟩, h3, h4, ⟨a1, e1⟩, ⟨a2, e2⟩, ⟨a3, e3⟩, ⟨a4, e4⟩, ⟨a5, e5⟩, ⟨a6, e6⟩⟩ := h
  exact ⟨⟨t, h1.moved hA, h2.moved hA⟩, h3.moved hA, h4.moved hA, ⟨a1, e1.same hv⟩, ⟨a2, e2.same hv⟩, ⟨a3, e3.same hv⟩, ⟨a4, e4.same hv⟩, ⟨a5, e5.same hv⟩, ⟨a6, e6.same hv⟩⟩
/-- the world of a walk: the pool in the heap, apart, and what has changed since H0 -/
def Wd (D : va_G) (cy : Nat → ClassId) (A : Nat → Prop) (H0 : Heap) (h : Hs) (M : Mm) (H : Heap) (locs : List Loc) : Prop :=
  va_P D vwCl (pool cy h M) H ∧ va_D A (pool cy h M) ∧ va_S A H0 H locs ∧ ∀ q, H0.size ≤ q → A q
/-- what stays fixed through a method's walk -/
def Cx (p : Program) (s : State) (m : MethodId) (args : Array Value) (c : Code) (cc : ByteArray) (nL : Nat) (Ts : List Cond) (own : String) (D : va_G) (cy : Nat → ClassId) (A : Nat → Prop) : Prop :=
  CallFix p m c cc nL s args Ts own ∧ va_K D vwCl (tyL cy) s ∧ NN s ∧ SF A s s.heap
def lt_ {α β : Type} (v : α) (f : α → β) : β := f v
theorem olt {α β : Type} {v : α} {f : α → β} {z : β} (h : lt_ v f = z) : ∃ x, x = v ∧ f x = z := ⟨v, rfl, h⟩
theorem oif {α : Type} {c : Prop} [Decidable c] {x : Option α} {z : α} (h : (if c then x else none) = some z) : c ∧ x = some z := by
  by_cases hc : c
  · rw [if_pos hc] at h; exact ⟨hc, h⟩
  · rw [if_neg hc] at h; cases h
/-- a reference that must be there -/
def dq {α : Type} (r : Option Nat) (f : Nat → Option α) : Option α := match r with
  | none => none
  | some q => f q
theorem odq {α : Type} {r : Option Nat} {f : Nat → Option α} {z : α} (h : dq r f = some z) : ∃ q, r = some q ∧ f q = some z := by
  cases r with
  | none => cases h
  | some q => exact ⟨q, rfl, h⟩
/-- a reference that may be null -/
def mq {α : Type} (r : Option Nat) (f : Option α) (g : Nat → Option α) : Option α := match r with
  | none => f
  | some q => g q
theorem omq {α : Type} {r : Option Nat} {f : Option α} {g : Nat → Option α} {z : α} (h : mq r f g = some z) : (r = none ∧ f = some z) ∨ ∃ q, r = some q ∧ g q = some z := by
  cases r with
  | none => exact Or.inl ⟨rfl, h⟩
  | some q => exact Or.inr ⟨q, rfl, h⟩
theorem obd {α β : Type} {x : Option α} {f : α → Option β} {z : β} (h : x.bind f = some z) : ∃ y, x = some y ∧ f y = some z := Option.bind_eq_some_iff.mp h
