/-! ROWS AS STACKS: the last one first -/
def stk (M : Mm) (a : Nat) : List Int32 → Prop
  | [] => True
  | v :: r => zI M a r.length = v ∧ stk M a r
theorem stk.congr {M M' : Mm} {a : Nat} : ∀ {R : List Int32}, stk M a R → (∀ i, i < R.length → zI M' a i = zI M a i) → stk M' a R
  | [], _, _ => trivial
  | v :: r, ⟨h1, h2⟩, hc => ⟨by rw [hc _ (by simp)]; exact h1, stk.congr h2 fun i hi => hc i (by simp; omega)⟩
theorem stk.get {M : Mm} {a : Nat} : ∀ {R : List Int32} {i : Nat}, stk M a R → i < R.length → zI M a i = R.reverse.getD i 0
  | v :: r, i, ⟨h1, h2⟩, hi => by
    rw [List.reverse_cons]
    by_cases e : i = r.length
    · subst e
      rw [h1, List.getD_eq_getElem?_getD, List.getElem?_append_right (by simp)]
      simp
    · have hi2 : i < r.length := by simp at hi; omega
      rw [stk.get h2 hi2, List.getD_eq_getElem?_getD, List.getD_eq_getElem?_getD, List.getElem?_append_left (by simpa using hi2)]
theorem stk.of {M : Mm} {a : Nat} {f : Nat → Int32} : ∀ {R : List Int32}, (∀ i, i < R.length → zI M a i = R.reverse.getD i 0) → stk M a R
  | [], _ => trivial
  | v :: r, h => by
    refine ⟨?_, stk.of (f := f) fun i hi => ?_⟩
    · rw [h r.length (by simp), List.reverse_cons, List.getD_eq_getElem?_getD, List.getElem?_append_right (by simp)]
      simp
    · rw [h i (by simp; omega), List.reverse_cons, List.getD_eq_getElem?_getD, List.getElem?_append_left (by simpa using hi), List.getD_eq_getElem?_getD]
/-- two rows that hold the same -/
theorem stk.two {M M' : Mm} {a a' : Nat} {R : List Int32} {i : Nat} (h : stk M a R) (h' : stk M' a' R) (hi : i < R.length) : zI M a i = zI M' a' i := by
  rw [h.get hi, h'.get hi]
def pas (a b v : Int32) : Prop := if a < b then b < v else v < b
/-- the turns, one by one: the last one first -/
def tStep (R : List Int32) (v : Int32) : List Int32 := match R with
  | [] => [v]
  | [b] => if b = v then [b] else [v, b]
  | b :: a :: r => if (if a < b then b < v else v < b) then (if a = v then a :: r else v :: a :: r) else (if b = v then b :: a :: r else v :: b :: a :: r)
def tOn (f : Nat → Int32) : Nat → List Int32
  | 0 => []
  | k + 1 => tStep (tOn f k) (f k)
theorem tStep_head (R : List Int32) (v : Int32) : ∃ r, tStep R v = v :: r := by
  unfold tStep
  repeat' split
  all_goals first | exact ⟨_, rfl⟩ | (rename_i h; exact ⟨_, by rw [h]⟩)
theorem tStep_same (r : List Int32) (v : Int32) : tStep (v :: r) v = v :: r := by
  unfold tStep
  split
  · next h => cases h
  · next h => cases h; simp
  · next h => cases h; simp [Int32.lt_irrefl]
theorem tStep_len (R : List Int32) (v : Int32) : (tStep R v).length ≤ R.length + 1 := by
  unfold tStep
  repeat' split
  all_goals (simp only [List.length_cons, List.length_nil]; omega)
theorem tOn_len (f : Nat → Int32) : ∀ k, (tOn f k).length ≤ k
  | 0 => by simp [tOn]
  | k + 1 => by have := tOn_len f k; have := tStep_len (tOn f k) (f k); simp only [tOn]; omega
theorem tOn_congr {f g : Nat → Int32} : ∀ {k : Nat}, (∀ i, i < k → f i = g i) → tOn f k = tOn g k
  | 0, _ => rfl
  | k + 1, h => by simp only [tOn]; rw [tOn_congr (k := k) fun i hi => h i (by omega), h k (by omega)]
/-- what lies on the pile: numbers of turns, the last one first; and the cycles (first, second, closer), the last one first -/
abbrev betw (v a b : Int32) : Prop := (a < b ∧ a ≤ v ∧ v ≤ b) ∨ (¬ a < b ∧ b ≤ v ∧ v ≤ a)
abbrev Cy : Type := Nat × Nat × Nat
def redu (t : Nat → Int32) : Nat → List Nat → List Cy → List Nat × List Cy
  | 0, P, C => (P, C)
  | n + 1, P, C => match P with
    | d :: c :: b :: a :: r => if betw (t b) (t a) (t d) ∧ betw (t c) (t a) (t d) then redu t n (d :: a :: r) ((b, c, d) :: C) else (P, C)
    | _ => (P, C)
def pilN (t : Nat → Int32) : Nat → List Nat × List Cy
  | 0 => ([], [])
  | k + 1 => redu t (k + 1) (k :: (pilN t k).1) (pilN t k).2
theorem redu_len (t : Nat → Int32) : ∀ (n : Nat) (P : List Nat) (C : List Cy), (redu t n P C).1.length + 2 * (redu t n P C).2.length = P.length + 2 * C.length
  | 0, P, C => rfl
  | n + 1, P, C => by
    unfold redu
    split
    · split
      · rw [redu_len t n]; simp only [List.length_cons]; omega
      · rfl
    · rfl
theorem pilN_len (t : Nat → Int32) : ∀ k, (pilN t k).1.length + 2 * (pilN t k).2.length = k
  | 0 => rfl
  | k + 1 => by
    simp only [pilN]
    rw [redu_len]; have := pilN_len t k; simp only [List.length_cons]; omega
theorem redu_more (t : Nat → Int32) : ∀ (n m : Nat) (P : List Nat) (C : List Cy), P.length ≤ n → P.length ≤ m → redu t n P C = redu t m P C
  | 0, 0, P, C, _, _ => rfl
  | 0, m + 1, P, C, h, _ => by
    have : P = [] := List.length_eq_zero_iff.mp (by omega)
    subst this; rfl
  | n + 1, 0, P, C, _, h => by
    have : P = [] := List.length_eq_zero_iff.mp (by omega)
    subst this; rfl
  | n + 1, m + 1, d :: c :: b :: a :: r, C, h1, h2 => by
    simp only [redu]
    split
    · exact redu_more t n m _ _ (by simp at h1 ⊢; omega) (by simp at h2 ⊢; omega)
    · rfl
  | n + 1, m + 1, [], C, _, _ => rfl
  | n + 1, m + 1, [_], C, _, _ => rfl
  | n + 1, m + 1, [_, _], C, _, _ => rfl
  | n + 1, m + 1, [_, _, _], C, _, _ => rfl
