/-! ROWS: what the class and the reference read from a gauge, one by one -/
theorem b_some {α β : Type} {a : α} {f : α → Option β} : (some a).bind f = f a := by
  rw [← Option.bind_some (a := a) (f := f)]
abbrev RwA (h : Hs) (B : Nat → Nat) : Prop := ok h (B 3) 5 ∧ zR h (B 3) 0 = some (B 4) ∧ zR h (B 3) 1 = some (B 5) ∧ zR h (B 3) 2 = some (B 6) ∧ zR h (B 3) 3 = some (B 7) ∧ zR h (B 3) 4 = some (B 8) ∧ zR h (B 3) 5 = some (B 9) ∧
  ok h (B 4) 11 ∧ ok h (B 5) 11 ∧ ok h (B 6) 11 ∧ ok h (B 7) 11 ∧ ok h (B 8) 11 ∧ ok h (B 9) 11 ∧ zN h (B 4) = 400 ∧ zN h (B 5) = 400 ∧ zN h (B 6) = 400 ∧ zN h (B 7) = 200 ∧ zN h (B 8) = 200 ∧ zN h (B 9) = 200
def far (v x : Int32) : Int32 := if v ≤ x then x - v else v - x
def keepS (st : Prop) [Decidable st] (a : Int32) (R : List Int32) (v : Int32) : List Int32 := match R with
  | [] => [v]
  | x :: r => if st ∧ far v x < a then x :: r else v :: x :: r
def rowF (I : Nat → Int32) (p from_ : Nat) : Nat → List Int32
  | 0 => []
  | n + 1 => if 2000000 ≤ celS I p (from_ + n) then rowF I p from_ n else keepS (I (404 * p) = 1) (I (404 * p + 1)) (rowF I p from_ n) (celS I p (from_ + n))
def gapF (I : Nat → Int32) (p from_ : Nat) : Nat → Nat
  | 0 => 0
  | n + 1 => gapF I p from_ n + if celS I p (from_ + n) = 2000000 then 1 else 0
def redF (I : Nat → Int32) (p from_ : Nat) : Nat → Nat
  | 0 => 0
  | n + 1 => redF I p from_ n + if celS I p (from_ + n) < 2000000 then 1 else 0
theorem gapF_le (I : Nat → Int32) (p from_ : Nat) : ∀ n, gapF I p from_ n ≤ n
  | 0 => Nat.le_refl _
  | n + 1 => by have := gapF_le I p from_ n; unfold gapF; split <;> omega
theorem redF_le (I : Nat → Int32) (p from_ : Nat) : ∀ n, redF I p from_ n ≤ n
  | 0 => Nat.le_refl _
  | n + 1 => by have := redF_le I p from_ n; unfold redF; split <;> omega
theorem rowF_len (I : Nat → Int32) (p from_ : Nat) : ∀ n, (rowF I p from_ n).length ≤ n
  | 0 => Nat.le_refl _
  | n + 1 => by
    have h := rowF_len I p from_ n
    unfold rowF
    split
    · omega
    · unfold keepS
      split
      · simp
      · next e => rw [e] at h; split <;> simp at h ⊢ <;> omega
theorem lgl_lt {v : Int32} (h : lgl v) (k : v < 2000000) : rdg v := by
  rcases h with h | rfl | rfl
  · exact h
  · exact absurd k (by decide)
  · exact absurd k (by decide)
theorem lgl_ge {v : Int32} (h : lgl v) (k : ¬ v < 2000000) : v = 2000000 ∨ v = 3000000 := by
  rcases h with h | h | h
  · exact absurd (show v < 2000000 by have := h.2; grind) k
  · exact Or.inl h
  · exact Or.inr h
theorem rowF_rdg {I : Nat → Int32} {p from_ : Nat} : ∀ {n : Nat}, (∀ k, k < n → lgl (celS I p (from_ + k))) → ∀ x ∈ rowF I p from_ n, rdg x
  | 0, _, x, hx => nomatch hx
  | n + 1, hl, x, hx => by
    have ih := rowF_rdg (n := n) fun k hk => hl k (by omega)
    unfold rowF at hx
    split at hx
    · exact ih x hx
    · next g =>
      have hv : rdg (celS I p (from_ + n)) := lgl_lt (hl n (by omega)) (Int32.not_le.mp g)
      unfold keepS at hx
      split at hx
      · simp at hx; rw [hx]; exact hv
      · next e =>
        split at hx
        · exact ih x (by rw [e]; exact hx)
        · rcases List.mem_cons.mp hx with rfl | z
          · exact hv
          · exact ih x (by rw [e]; exact z)
theorem far_eq {v x : Int32} (hv : rdg v) (hx : rdg x) : (if 0 ≤ v - x then v - x else 0 - (v - x)) = far v x := by
  unfold far
  unfold rdg at hv hx
  have e1 : (-1000000 : Int32).toInt = -1000000 := by decide
  have e2 : (1000000 : Int32).toInt = 1000000 := by decide
  have e0 : (0 : Int32).toInt = 0 := by decide
  simp only [Int32.le_iff_toInt_le, e1, e2] at hv hx
  have s1 : (v - x).toInt = v.toInt - x.toInt := by rw [Int32.toInt_sub, Int.bmod_eq_of_le (by omega) (by omega)]
  have s2 : (x - v).toInt = x.toInt - v.toInt := by rw [Int32.toInt_sub, Int.bmod_eq_of_le (by omega) (by omega)]
  have s3 : (0 - (v - x)).toInt = x.toInt - v.toInt := by rw [Int32.toInt_sub, s1, e0, Int.bmod_eq_of_le (by omega) (by omega)]; omega
  apply Int32.toInt_inj.mp
  simp only [Int32.le_iff_toInt_le, s1, e0]
  by_cases g : 0 ≤ v.toInt - x.toInt
  · rw [if_pos g, s1]
    by_cases g2 : v.toInt ≤ x.toInt
    · rw [if_pos g2, s2]; omega
    · rw [if_neg g2, s1]
  · rw [if_neg g, s3, if_pos (by omega), s2]
section RW
variable {h : Hs} {B : Nat → Nat} {M : Mm} {I : Nat → Int32} {p : Nat} {v : Int32} {R : List Int32}
/-- the class's keep: the row R in kept, v comes -/
theorem x_keep (s : RwA h B) (ne34 : B 3 ≠ B 4) {pa pc : Nat} (sp : PlA h pa pc) (n3 : pa ≠ B 3) (n4 : pa ≠ B 4) (hk : zI M pa 1 = I (404 * p)) (ha : zI M pa 2 = I (404 * p + 1)) (hv : rdg v) (hR : ∀ x ∈ R, rdg x) (hl : R.length < 400) (el : zI M (B 3) 8 = Int32.ofNat R.length) (hS : stk M (B 4) R) :
    wp (f_X5_keep h (B 3) pa v M) (fun M' => Fm (fun b j => (b = B 3 ∧ j = 8) ∨ b = B 4) M M' ∧ zI M' (B 3) 8 = Int32.ofNat (keepS (I (404 * p) = 1) (I (404 * p + 1)) R v).length ∧ stk M' (B 4) (keepS (I (404 * p) = 1) (I (404 * p + 1)) R v)) := by
  unfold f_X5_keep
  have f1 : R.length < 400 := hl
  have d8 : ¬ (8 : Nat) = R.length ∨ True := Or.inr trivial
  have put : keepS (I (404 * p) = 1) (I (404 * p + 1)) R v = v :: R → wp (some (sI (sI M (B 4) R.length v) (B 3) 8 (Int32.ofNat (R.length + 1)))) (fun M' => Fm (fun b j => (b = B 3 ∧ j = 8) ∨ b = B 4) M M' ∧ zI M' (B 3) 8 = Int32.ofNat (keepS (I (404 * p) = 1) (I (404 * p + 1)) R v).length ∧ stk M' (B 4) (keepS (I (404 * p) = 1) (I (404 * p + 1)) R v)) := by
    intro e
    rw [e, wp_some]
    refine ⟨(Fm.rf.sI (Or.inr rfl)).sI (Or.inl ⟨rfl, rfl⟩), by rw [zI_sI]; simp, ?_, hS.congr fun i hi => ?_⟩
    · rw [zI_sI, if_neg (fun z => ne34 z.1.symm), zI_sI]; simp
    · rw [zI_sI, if_neg (fun z => ne34 z.1.symm), zI_sI, if_neg (by omega)]
  generalize hK : keepS (I (404 * p) = 1) (I (404 * p + 1)) R v = K at put ⊢
  have ne34' : ∀ j, ((B 3 = B 4 ∧ j) : Prop) = False := fun j => by simp [ne34]
  simp (disch := omega) only [gd, ok, dq, lt_, s, sp, and_self, if_true, el, i_neg, if_false, i_lt, f1, hk, i_inb, i_nat, i_leL, zI_sI, ne34', i_addL, ha]
  by_cases e1 : I (404 * p) = 1
  · rcases R with _ | ⟨x, r⟩
    · simp only [e1, not_true_eq_false, if_false, List.length_nil, Nat.le_refl, if_true]
      exact put hK.symm
    · have e2 : ¬ (x :: r).length ≤ 0 := by simp
      have e3 : (x :: r).length - 1 = r.length := by simp
      have e4 : r.length < 400 := by simp at hl; omega
      have e5 : 1 ≤ (x :: r).length := by simp
      have ex : zI M (B 4) r.length = x := hS.1
      simp (disch := omega) only [e1, not_true_eq_false, if_false, e2, i_subL, e3, i_inb, e4, if_true, i_nat, ex, far_eq hv (hR x List.mem_cons_self)]
      by_cases e6 : I (404 * p + 1) ≤ far v x
      · rw [if_pos e6]
        exact put (by rw [← hK]; simp only [keepS]; rw [if_neg fun z => Int32.not_lt.mpr e6 z.2])
      · rw [if_neg e6]
        have ek : K = x :: r := by rw [← hK]; simp only [keepS]; rw [if_pos ⟨e1, Int32.not_le.mp e6⟩]
        rw [ek, wp_some]
        exact ⟨Fm.rf, el, hS⟩
  · simp only [e1, not_false_eq_true, if_true]
    refine put ?_
    rw [← hK]
    unfold keepS
    split
    · rfl
    · rw [if_neg fun z => e1 z.1]
end RW
