/-! THE REFERENCE: its shape. A 0 the object, A 1 is, A 2 was, A 3 image, A 4 tape, A 5 row, A 6 turn, A 7 other, A 8 first, A 9 second, A 10 closer, A 11 struck, A 12 rest, A 13 part -/
abbrev Sh2a (h : Hs) (A : Nat → Nat) : Prop := ok h (A 0) 9 ∧ zR h (A 0) 1 = some (A 1) ∧ zR h (A 0) 2 = some (A 2) ∧ zR h (A 0) 3 = some (A 3) ∧ zR h (A 0) 6 = some (A 4) ∧ zR h (A 0) 8 = some (A 5) ∧ zR h (A 0) 9 = some (A 6) ∧ zR h (A 0) 10 = some (A 7) ∧ zR h (A 0) 13 = some (A 8) ∧ zR h (A 0) 14 = some (A 9) ∧ zR h (A 0) 15 = some (A 10) ∧ zR h (A 0) 17 = some (A 11) ∧ zR h (A 0) 18 = some (A 12) ∧ zR h (A 0) 20 = some (A 13) ∧
  ok h (A 1) 11 ∧ ok h (A 2) 11 ∧ ok h (A 3) 11 ∧ ok h (A 4) 10 ∧ ok h (A 5) 11 ∧ ok h (A 6) 11 ∧ ok h (A 7) 11 ∧ ok h (A 8) 11 ∧ ok h (A 9) 11 ∧ ok h (A 10) 11 ∧ ok h (A 11) 13 ∧ ok h (A 12) 11 ∧ ok h (A 13) 12 ∧
  zN h (A 1) = 5328 ∧ zN h (A 2) = 5328 ∧ zN h (A 3) = 5328 ∧ zN h (A 4) = 400 ∧ zN h (A 5) = 400 ∧ zN h (A 6) = 400 ∧ zN h (A 7) = 400 ∧ zN h (A 8) = 200 ∧ zN h (A 9) = 200 ∧ zN h (A 10) = 200 ∧ zN h (A 11) = 400 ∧ zN h (A 12) = 400 ∧ zN h (A 13) = 7
def Sh2 (h : Hs) (A : Nat → Nat) : Prop := Sh2a h A ∧ ∀ i j, A i = A j → i = j
theorem Sh2.s {h : Hs} {A : Nat → Nat} (S : Sh2 h A) : Sh2a h A := S.1
theorem Sh2.e {h : Hs} {A : Nat → Nat} (S : Sh2 h A) (i j : Nat) : (A i = A j) = (i = j) := propext ⟨S.2 i j, fun e => by rw [e]⟩
/-- a reading, a gap, or nothing -/
def lgl (v : Int32) : Prop := (-1000000 ≤ v ∧ v ≤ 1000000) ∨ v = 2000000 ∨ v = 3000000
def WFp (I : Nat → Int32) (n : Nat) : Prop :=
  (-1 ≤ I (404 * n) ∧ I (404 * n) ≤ 5) ∧ (I (404 * n) = 4 → ∃ a b, a < 12 ∧ b < 12 ∧ I (404 * n + 1) = Int32.ofNat a ∧ I (404 * n + 2) = Int32.ofNat b) ∧
  ∃ s, s ≤ 400 ∧ I (404 * n + 3) = Int32.ofNat s ∧ ∀ k, k < s → lgl (I (404 * n + 4 + k))
def WFl (I : Nat → Int32) (b most : Nat) (T : Nat → Int32 → Int32 → Prop) : Prop := ∃ c, c ≤ most ∧ I b = Int32.ofNat c ∧ ∀ j, j < c → T j (I (b + 1 + 2 * j)) (I (b + 2 + 2 * j))
def WFd (I : Nat → Int32) (d : Nat) : Prop :=
  (I (4848 + 40 * d) = -1 ∨ ∃ n, n < 12 ∧ I (4848 + 40 * d) = Int32.ofNat n) ∧ (∃ s, s ≤ 400 ∧ I (4848 + 40 * d + 1) = Int32.ofNat s) ∧
  WFl I (4848 + 40 * d + 2) 6 (fun j t v => 1 ≤ t ∧ 1 ≤ v ∧ v ≤ 10000000 ∧ 720720000000 % v.toInt = 0) ∧
  WFl I (4848 + 40 * d + 15) 4 (fun j t v => 10 ≤ v ∧ v ≤ 400) ∧
  (0 ≤ I (4848 + 40 * d + 24) ∧ I (4848 + 40 * d + 24) ≤ 4000000) ∧ (0 ≤ I (4848 + 40 * d + 25) ∧ I (4848 + 40 * d + 25) ≤ 4000000) ∧
  (-1 ≤ I (4848 + 40 * d + 26) ∧ I (4848 + 40 * d + 26) ≤ 1000000) ∧ (0 ≤ I (4848 + 40 * d + 27) ∧ I (4848 + 40 * d + 27) ≤ 4000000) ∧
  WFl I (4848 + 40 * d + 28) 4 (fun j t v => 0 ≤ t ∧ 0 ≤ v ∧ v ≤ 1000000 ∧ (0 < j → I (4848 + 40 * d + 28 + 1 + 2 * (j - 1)) < t))
def WF (I : Nat → Int32) : Prop := (∀ n, n < 12 → WFp I n) ∧ ∀ d, d < 12 → WFd I d
abbrev isG (I : Nat → Int32) (n : Nat) : Prop := 0 ≤ I (404 * n) ∧ I (404 * n) ≤ 4
abbrev isO (I : Nat → Int32) (n : Nat) : Prop := 0 ≤ I (404 * n) ∧ I (404 * n) < 4
theorem wp_eqv {α : Type} {x y : Option α} {Q : α → Prop} (e : x = y) : wp x Q ↔ wp y Q := by rw [e]
section R2
variable {h : Hs} {A : Nat → Nat} {M : Mm} {n k : Nat} {p : Int32}
theorem r_no (hn : n < 12) : f_X9_no h (Int32.ofNat n) M = some 0 := by
  unfold f_X9_no
  rw [if_neg (by rw [i_neg (by omega)]; exact id), if_pos (by rw [i_ltL (by omega) (by omega)]; exact hn)]
theorem r_noB (hp : ¬ (0 ≤ p ∧ p < 12)) : f_X9_no h p M = some 1 := by
  unfold f_X9_no
  by_cases h1 : p < 0
  · rw [if_pos h1]
  · rw [if_neg h1, if_neg (fun h2 => hp ⟨Int32.not_lt.mp h1, h2⟩)]
theorem r_kindOf (S : Sh2 h A) (hn : n < 12) : f_X9_kindOf h (A 0) (Int32.ofNat n) M = some (zI M (A 1) (404 * n)) := by
  have s := S.s
  unfold f_X9_kindOf
  simp (disch := omega) only [r_no hn, Option.bind_some, gd, ok, dq, s, i_mulL, i_inb, i_nat, and_self, if_true]
  rw [if_pos (by omega)]
theorem r_kindOfB (hp : ¬ (0 ≤ p ∧ p < 12)) : f_X9_kindOf h (A 0) p M = some (-2) := by
  unfold f_X9_kindOf
  rw [r_noB hp]; rfl
theorem r_isGauge (S : Sh2 h A) (hn : n < 12) : f_X9_isGauge h (A 0) (Int32.ofNat n) M = some (if isG (zI M (A 1)) n then 1 else 0) := by
  have s := S.s
  unfold f_X9_isGauge
  simp only [r_kindOf S hn, Option.bind_some, gd, ok, s, and_self, if_true]
  unfold isG
  generalize zI M (A 1) (404 * n) = v
  by_cases h1 : v < 0
  · rw [if_pos h1, if_neg (fun z => Int32.not_le.mpr h1 z.1)]
  · rw [if_neg h1]
    by_cases h2 : 4 < v
    · rw [if_pos h2, if_neg (fun z => Int32.not_le.mpr h2 z.2)]
    · rw [if_neg h2, if_pos ⟨Int32.not_lt.mp h1, Int32.not_lt.mp h2⟩]
theorem r_isGaugeB (S : Sh2 h A) (hp : ¬ (0 ≤ p ∧ p < 12)) : f_X9_isGauge h (A 0) p M = some 0 := by
  have s := S.s
  unfold f_X9_isGauge
  simp only [r_kindOfB hp, Option.bind_some, gd, ok, s, and_self, if_true]
  rfl
theorem r_isOwn (S : Sh2 h A) (hn : n < 12) : f_X9_isOwn h (A 0) (Int32.ofNat n) M = some (if isO (zI M (A 1)) n then 1 else 0) := by
  have s := S.s
  unfold f_X9_isOwn
  simp only [r_kindOf S hn, Option.bind_some, gd, ok, s, and_self, if_true]
  unfold isO
  generalize zI M (A 1) (404 * n) = v
  by_cases h1 : v < 0
  · rw [if_pos h1, if_neg (fun z => Int32.not_le.mpr h1 z.1)]
  · rw [if_neg h1]
    by_cases h2 : 4 ≤ v
    · rw [if_pos h2, if_neg (fun z => Int32.not_le.mpr z.2 h2)]
    · rw [if_neg h2, if_pos ⟨Int32.not_lt.mp h1, Int32.not_le.mp h2⟩]
theorem r_isOwnB (S : Sh2 h A) (hp : ¬ (0 ≤ p ∧ p < 12)) : f_X9_isOwn h (A 0) p M = some 0 := by
  have s := S.s
  unfold f_X9_isOwn
  simp only [r_kindOfB hp, Option.bind_some, gd, ok, s, and_self, if_true]
  rfl
end R2
/-- how many spans a gauge has -/
def spS (I : Nat → Int32) (n : Nat) : Nat :=
  if I (404 * n) = 4 then
    (if isO I (I (404 * n + 1)).toNatClampNeg ∧ isO I (I (404 * n + 2)).toNatClampNeg then min (I (404 * (I (404 * n + 1)).toNatClampNeg + 3)).toNatClampNeg (I (404 * (I (404 * n + 2)).toNatClampNeg + 3)).toNatClampNeg else 0)
  else (I (404 * n + 3)).toNatClampNeg
def sumS (a b : Int32) : Int32 := if a < 2000000 ∧ b < 2000000 then (if 1000000 < a + b ∨ a + b < -1000000 then 2000000 else a + b) else if a = 2000000 ∨ b = 2000000 then 2000000 else 3000000
def celS (I : Nat → Int32) (n k : Nat) : Int32 :=
  if I (404 * n) = 4 then sumS (I (404 * (I (404 * n + 1)).toNatClampNeg + 4 + k)) (I (404 * (I (404 * n + 2)).toNatClampNeg + 4 + k)) else I (404 * n + 4 + k)
section R3
variable {h : Hs} {A : Nat → Nat} {M : Mm} {n k : Nat} {p : Int32}
theorem r_spans (S : Sh2 h A) (hn : n < 12) (w : WF (zI M (A 1))) : f_X9_spans h (A 0) (Int32.ofNat n) M = some (Int32.ofNat (spS (zI M (A 1)) n)) ∧ spS (zI M (A 1)) n ≤ 400 := by
  have s := S.s
  unfold f_X9_spans spS
  simp only [r_kindOf S hn, Option.bind_some, gd, ok, s, and_self, if_true]
  obtain ⟨-, w4, t, ht, et, -⟩ := w.1 n hn
  by_cases e : zI M (A 1) (404 * n) = 4
  · obtain ⟨a, b, ha, hb, ea, eb⟩ := w4 e
    obtain ⟨-, -, ta, hta, eta, -⟩ := w.1 a ha
    obtain ⟨-, -, tb, htb, etb, -⟩ := w.1 b hb
    have f1 : 404 * n + 1 < 5328 := by omega
    have f2 : 404 * n + 2 < 5328 := by omega
    have f3 : 404 * a + 3 < 5328 := by omega
    have f4 : 404 * b + 3 < 5328 := by omega
    simp (disch := omega) only [e, if_true, dq, s, gd, ok, i_mulL, i_addL, i_inb, i_nat, and_self, lt_, ea, eb, f1, f2, f3, f4, r_isOwn S ha, r_isOwn S hb, Option.bind_some, eta, etb]
    by_cases g1 : isO (zI M (A 1)) a <;> by_cases g2 : isO (zI M (A 1)) b <;> simp (disch := omega) [g1, g2, i_le]
    by_cases g3 : tb ≤ ta
    · simp only [g3, Nat.min_eq_right g3, if_true, if_pos (And.intro g1 g2), true_and]; exact htb
    · simp only [g3, Nat.min_eq_left (Nat.le_of_not_le g3), if_false, if_pos (And.intro g1 g2), true_and]; exact hta
  · have f1 : 404 * n + 3 < 5328 := by omega
    simp (disch := omega) only [e, if_false, dq, s, gd, ok, i_mulL, i_addL, i_inb, i_nat, and_self, f1, if_true, et]
    exact ⟨trivial, ht⟩
theorem r_at (S : Sh2 h A) (hn : n < 12) (w : WF (zI M (A 1))) (hk : k < 400) : f_X9_at h (A 0) (Int32.ofNat n) (Int32.ofNat k) M = some (celS (zI M (A 1)) n k) := by
  have s := S.s
  unfold f_X9_at celS
  simp only [r_kindOf S hn, Option.bind_some, gd, ok, s, and_self, if_true]
  obtain ⟨-, w4, t, ht, et, -⟩ := w.1 n hn
  by_cases e : zI M (A 1) (404 * n) = 4
  · obtain ⟨a, b, ha, hb, ea, eb⟩ := w4 e
    have f1 : 404 * n + 1 < 5328 := by omega
    have f2 : 404 * n + 2 < 5328 := by omega
    have f3 : 404 * a + 4 + k < 5328 := by omega
    have f4 : 404 * b + 4 + k < 5328 := by omega
    simp (disch := omega) only [e, if_true, dq, s, gd, ok, i_mulL, i_addL, i_add, i_inb, i_nat, and_self, lt_, ea, eb, f1, f2, f3, f4]
    unfold sumS
    generalize zI M (A 1) (404 * a + 4 + k) = x
    generalize zI M (A 1) (404 * b + 4 + k) = y
    grind
  · have f1 : 404 * n + 4 + k < 5328 := by omega
    simp (disch := omega) only [e, if_false, dq, s, gd, ok, i_mulL, i_addL, i_add, i_inb, i_nat, and_self, f1, if_true]
end R3
