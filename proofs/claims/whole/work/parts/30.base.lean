/-! THE PURE PART. wp x Q: the program x comes to an end, and what it gives has Q -/
def wp {α : Type} (x : Option α) (Q : α → Prop) : Prop := ∃ z, x = some z ∧ Q z
section WP
variable {α β : Type} {x y : Option α} {z v : α} {P Q : α → Prop} {R : β → Prop} {c : Prop} {q : Nat}
theorem wp_some : wp (some z) Q ↔ Q z := ⟨fun ⟨_, e, h⟩ => by cases e; exact h, fun h => ⟨z, rfl, h⟩⟩
theorem wp_none : wp (none : Option α) Q ↔ False := ⟨fun ⟨_, e, _⟩ => (nomatch e), False.elim⟩
theorem wp_gd [Decidable c] : wp (gd c x) Q ↔ c ∧ wp x Q := by
  unfold gd
  by_cases h : c <;> simp [h, wp_none]
theorem wp_bind {f : α → Option β} : wp (x.bind f) R ↔ wp x (fun z => wp (f z) R) := by
  cases x with
  | none => simp [wp_none]
  | some a => simp [wp_some]
theorem wp_lt {f : β → Option α} {v : β} : wp (lt_ v f) Q ↔ wp (f v) Q := Iff.rfl
theorem wp_ltE {f : β → Option α} {v : β} (h : ∀ x, x = v → wp (f x) Q) : wp (lt_ v f) Q := h v rfl
theorem wp_ifn [Decidable c] : wp (if c then x else none) Q ↔ c ∧ wp x Q := wp_gd
theorem wp_dq {f : Nat → Option α} : wp (dq (some q) f) Q ↔ wp (f q) Q := Iff.rfl
theorem wp_mqN {f : Option α} {g : Nat → Option α} : wp (mq none f g) Q ↔ wp f Q := Iff.rfl
theorem wp_mqS {f : Option α} {g : Nat → Option α} : wp (mq (some q) f g) Q ↔ wp (g q) Q := Iff.rfl
theorem wp_ite [Decidable c] : wp (if c then x else y) Q ↔ (c → wp x Q) ∧ (¬ c → wp y Q) := by
  by_cases h : c <;> simp [h]
theorem wp.mono (h : wp x P) (k : ∀ z, P z → Q z) : wp x Q := by
  obtain ⟨z, e, h⟩ := h
  exact ⟨z, e, k z h⟩
theorem wp.of (e : x = some z) (h : Q z) : wp x Q := ⟨z, e, h⟩
theorem wp.to (h : wp x (fun z => z = v)) : x = some v := by
  obtain ⟨z, e, rfl⟩ := h
  exact e
theorem wp.and (h : wp x P) (k : wp x Q) : wp x (fun z => P z ∧ Q z) := by
  obtain ⟨z, e, h⟩ := h
  obtain ⟨z2, e2, k⟩ := k
  rw [e] at e2
  cases e2
  exact ⟨z, e, h, k⟩
theorem wp_sml {f : α → β} {g : β → β} {a : α} : sm (.inl a : α ⊕ β) f g = f a := rfl
theorem wp_smr {f : α → β} {g : β → β} {a : β} : sm (.inr a : α ⊕ β) f g = g a := rfl
end WP
theorem loopW {σ τ : Type} (go : Nat → Nat → σ → Option τ) (N : Nat) (P : Nat → σ → Prop) (Q : τ → Prop)
    (hs : ∀ n k s, k < N → P k s → (∀ s', P (k + 1) s' → wp (go n (k + 1) s') Q) → wp (go (n + 1) k s) Q)
    (he : ∀ n s, P N s → wp (go (n + 1) N s) Q) : ∀ n k s, k ≤ N → N - k < n → P k s → wp (go n k s) Q := by
  intro n
  induction n with
  | zero => intro k s _ h; omega
  | succ n ih =>
    intro k s h1 h2 h3
    by_cases e : k = N
    · subst e; exact he n s h3
    · exact hs n k s (by omega) h3 (fun s' h' => ih (k + 1) s' (by omega) (by omega) h')
/-! numbers -/
section I32
variable {a b : Nat} {n m : Nat}
theorem i_add {a b : Nat} : Int32.ofNat a + Int32.ofNat b = Int32.ofNat (a + b) := (Int32.ofNat_add a b).symm
theorem i_addL {a c : Nat} : Int32.ofNat a + (no_index (OfNat.ofNat c) : Int32) = Int32.ofNat (a + (OfNat.ofNat c : Nat)) := (Int32.ofNat_add a c).symm
theorem i_mulL {a c : Nat} : (no_index (OfNat.ofNat c) : Int32) * Int32.ofNat a = Int32.ofNat ((OfNat.ofNat c : Nat) * a) := (Int32.ofNat_mul c a).symm
theorem i_subL {a c : Nat} (h : (OfNat.ofNat c : Nat) ≤ a) : Int32.ofNat a - (no_index (OfNat.ofNat c) : Int32) = Int32.ofNat (a - (OfNat.ofNat c : Nat)) := (Int32.ofNat_sub a c h).symm
theorem i_lt {a b : Nat} (ha : a < 2147483648) (hb : b < 2147483648) : (Int32.ofNat a < Int32.ofNat b) = (a < b) := by
  rw [Int32.ofNat_lt_iff_lt ha hb]
theorem i_le {a b : Nat} (ha : a < 2147483648) (hb : b < 2147483648) : (Int32.ofNat a ≤ Int32.ofNat b) = (a ≤ b) := by
  rw [Int32.ofNat_le_iff_le ha hb]
theorem i_ltL {a c : Nat} (ha : a < 2147483648) (hb : (OfNat.ofNat c : Nat) < 2147483648) : (Int32.ofNat a < (no_index (OfNat.ofNat c) : Int32)) = (a < (OfNat.ofNat c : Nat)) := i_lt ha hb
theorem i_leL {a c : Nat} (ha : a < 2147483648) (hb : (OfNat.ofNat c : Nat) < 2147483648) : (Int32.ofNat a ≤ (no_index (OfNat.ofNat c) : Int32)) = (a ≤ (OfNat.ofNat c : Nat)) := i_le ha hb
theorem i_Llt {a c : Nat} (ha : a < 2147483648) (hb : (OfNat.ofNat c : Nat) < 2147483648) : ((no_index (OfNat.ofNat c) : Int32) < Int32.ofNat a) = ((OfNat.ofNat c : Nat) < a) := i_lt hb ha
theorem i_Lle {a c : Nat} (ha : a < 2147483648) (hb : (OfNat.ofNat c : Nat) < 2147483648) : ((no_index (OfNat.ofNat c) : Int32) ≤ Int32.ofNat a) = ((OfNat.ofNat c : Nat) ≤ a) := i_le hb ha
theorem i_neg {a : Nat} (ha : a < 2147483648) : (Int32.ofNat a < 0) = False := by
  rw [show (0 : Int32) = Int32.ofNat 0 from rfl, i_lt ha (by decide)]; simp
theorem i_nat {a : Nat} (ha : a < 2147483648) : (Int32.ofNat a).toNatClampNeg = a := Int32.toNatClampNeg_ofNat_of_lt ha
theorem i_int {a : Nat} (ha : a < 2147483648) : (Int32.ofNat a).toInt = a := Int32.toInt_ofNat_of_lt ha
theorem i_inj {a b : Nat} (ha : a < 2147483648) (hb : b < 2147483648) : (Int32.ofNat a = Int32.ofNat b) = (a = b) := by
  apply propext
  rw [← Int32.toInt_inj, i_int ha, i_int hb]; omega
theorem i_injL {a c : Nat} (ha : a < 2147483648) (hb : (OfNat.ofNat c : Nat) < 2147483648) : (Int32.ofNat a = (no_index (OfNat.ofNat c) : Int32)) = (a = (OfNat.ofNat c : Nat)) := i_inj ha hb
theorem i_inb {a n : Nat} (ha : a < 2147483648) : inb (Int32.ofNat a) n = (a < n) := by
  unfold inb
  rw [i_neg ha, i_nat ha]; simp
theorem i_of {v : Int32} {n : Nat} (h0 : 0 ≤ v) (hn : v < Int32.ofNat n) (h : n < 2147483648) : ∃ k : Nat, k < n ∧ v = Int32.ofNat k := by
  refine ⟨v.toNatClampNeg, ?_, (Int32.ofNat_toNatClampNeg v h0).symm⟩
  rw [Int32.lt_iff_toInt_lt, i_int h] at hn
  have := Int32.cast_toNatClampNeg v h0
  omega
end I32
theorem zI_sI {M : Mm} {a j b k : Nat} {v : Int32} : zI (sI M a j v) b k = if b = a ∧ k = j then v else zI M b k := rfl
theorem zJ_sJ {M : Mm} {a j b k : Nat} {v : Int64} : zJ (sJ M a j v) b k = if b = a ∧ k = j then v else zJ M b k := rfl
theorem zJ_sI2 {M : Mm} {a j b k : Nat} {v : Int32} : zJ (sI M a j v) b k = zJ M b k := rfl
theorem zI_sJ2 {M : Mm} {a j b k : Nat} {v : Int64} : zI (sJ M a j v) b k = zI M b k := rfl
/-- nothing changes but what P names -/
def Fm (P : Nat → Nat → Prop) (M M' : Mm) : Prop := ∀ b j, ¬ P b j → zI M' b j = zI M b j ∧ zJ M' b j = zJ M b j
theorem Fm.rf {P : Nat → Nat → Prop} {M : Mm} : Fm P M M := fun _ _ _ => ⟨rfl, rfl⟩
theorem Fm.tr {P : Nat → Nat → Prop} {M M1 M2 : Mm} (h1 : Fm P M M1) (h2 : Fm P M1 M2) : Fm P M M2 := fun b j h => ⟨(h2 b j h).1.trans (h1 b j h).1, (h2 b j h).2.trans (h1 b j h).2⟩
theorem Fm.up {P P' : Nat → Nat → Prop} {M M1 : Mm} (h1 : Fm P M M1) (h : ∀ b j, P b j → P' b j) : Fm P' M M1 := fun b j k => h1 b j fun z => k (h b j z)
theorem Fm.sI {P : Nat → Nat → Prop} {M M1 : Mm} {a j : Nat} {v : Int32} (h1 : Fm P M M1) (h : P a j) : Fm P M (sI M1 a j v) := fun b k z => by
  have : ¬ (b = a ∧ k = j) := fun ⟨e1, e2⟩ => z (by rw [e1, e2]; exact h)
  rw [zI_sI, if_neg this, zJ_sI2]; exact h1 b k z
theorem Fm.sJ {P : Nat → Nat → Prop} {M M1 : Mm} {a j : Nat} {v : Int64} (h1 : Fm P M M1) (h : P a j) : Fm P M (sJ M1 a j v) := fun b k z => by
  have : ¬ (b = a ∧ k = j) := fun ⟨e1, e2⟩ => z (by rw [e1, e2]; exact h)
  rw [zJ_sJ, if_neg this, zI_sJ2]; exact h1 b k z
theorem Fm.i {P : Nat → Nat → Prop} {M M' : Mm} (h : Fm P M M') {b j : Nat} (n : ¬ P b j) : zI M' b j = zI M b j := (h b j n).1
theorem Fm.j {P : Nat → Nat → Prop} {M M' : Mm} (h : Fm P M M') {b j : Nat} (n : ¬ P b j) : zJ M' b j = zJ M b j := (h b j n).2
