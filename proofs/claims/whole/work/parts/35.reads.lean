/-! THE CLASS: the board's readers against the reference's row I -/
theorem bad12 {p : Int32} (hp : ¬ (0 ≤ p ∧ p < 12)) : p < 0 ∨ Int32.ofNat 12 ≤ p := by
  by_cases h1 : p < 0
  · exact Or.inl h1
  · exact Or.inr (Int32.not_lt.mp fun z => hp ⟨Int32.not_lt.mp h1, z⟩)
theorem good12 {p : Int32} (hp : 0 ≤ p ∧ p < 12) : ∃ n, n < 12 ∧ p = Int32.ofNat n := i_of (n := 12) hp.1 hp.2 (by decide)
section X0
variable {h : Hs} {B : Nat → Nat} {β n k d : Nat} {M : Mm} {p x y : Int32} {I : Nat → Int32}
theorem x_placeAt (s : BdA h B β) (hn : n < 12) : f_X0_placeAt h (aB B β) (Int32.ofNat n) M = some (some (aP B β n)) := by
  unfold f_X0_placeAt
  have f1 : ¬ 12 ≤ n := by omega
  obtain ⟨s1, s2, -, s3, -, s4, -, s5, -⟩ := s
  simp (disch := omega) only [gd, ok, dq, s1, s2, s3, s4, s5 n hn, and_self, if_true, i_neg, i_le, i_inb, i_nat, f1, hn, if_false]
theorem x_placeB (s : BdA h B β) (hp : ¬ (0 ≤ p ∧ p < 12)) : f_X0_placeAt h (aB B β) p M = some none := by
  unfold f_X0_placeAt
  obtain ⟨s1, s2, -, s3, -, s4, -, s5, -⟩ := s
  by_cases h1 : p < 0
  · rw [if_pos h1]
  · have h2 := (bad12 hp).resolve_left h1
    simp only [h1, if_false, gd, ok, dq, s1, s2, s3, s4, and_self, if_true, h2]
theorem x_detailAt (s : BdA h B β) (hn : n < 12) : f_X0_detailAt h (aB B β) (Int32.ofNat n) M = some (some (aD B β n)) := by
  unfold f_X0_detailAt
  have f1 : ¬ 12 ≤ n := by omega
  obtain ⟨s1, -, s2, -, s3, -, s4, -, s5, -⟩ := s
  simp (disch := omega) only [gd, ok, dq, s1, s2, s3, s4, s5 n hn, and_self, if_true, i_neg, i_le, i_inb, i_nat, f1, hn, if_false]
theorem x_detailB (s : BdA h B β) (hp : ¬ (0 ≤ p ∧ p < 12)) : f_X0_detailAt h (aB B β) p M = some none := by
  unfold f_X0_detailAt
  obtain ⟨s1, -, s2, -, s3, -, s4, -, s5, -⟩ := s
  by_cases h1 : p < 0
  · rw [if_pos h1]
  · have h2 := (bad12 hp).resolve_left h1
    simp only [h1, if_false, gd, ok, dq, s1, s2, s3, s4, and_self, if_true, h2]
theorem x_gaugeAt (s : BdA h B β) (r : PRs M B β I) (hn : n < 12) : f_X0_gaugeAt h (aB B β) (Int32.ofNat n) M = some (if isG I n then some (aP B β n) else none) := by
  unfold f_X0_gaugeAt
  have s9 := s.2.2.2.2.2.2.2.2.2.1 n hn
  simp only [gd, ok, s.1, and_self, if_true, x_placeAt s hn, Option.bind_some, mq, s9, x_isGauge s9, (r n hn).1]
  by_cases e : isG I n
  · simp only [if_pos e]; rfl
  · simp only [if_neg e]; rfl
theorem x_gaugeB (s : BdA h B β) (hp : ¬ (0 ≤ p ∧ p < 12)) : f_X0_gaugeAt h (aB B β) p M = some none := by
  unfold f_X0_gaugeAt
  simp only [gd, ok, s.1, and_self, if_true, x_placeB s hp, Option.bind_some, mq]
theorem x_fed (s : BdA h B β) (r : PRs M B β I) (hn : n < 12) : f_X0_fedGaugeAt h (aB B β) (Int32.ofNat n) M = some (if isO I n then some (aP B β n) else none) := by
  unfold f_X0_fedGaugeAt
  have s9 := s.2.2.2.2.2.2.2.2.2.1 n hn
  simp only [gd, ok, s.1, and_self, if_true, x_gaugeAt s r hn, Option.bind_some]
  unfold isG isO
  by_cases e : 0 ≤ I (404 * n) ∧ I (404 * n) ≤ 4
  · simp only [if_pos e, mq, s9, and_self, if_true, (r n hn).1]
    by_cases e4 : I (404 * n) = 4
    · simp only [e4, if_true]
      rw [if_neg (by decide)]
    · rw [if_neg e4, if_pos ⟨e.1, Int32.lt_iff_le_and_ne.mpr ⟨e.2, e4⟩⟩]
  · simp only [if_neg e, mq]
    rw [if_neg fun z => e ⟨z.1, Int32.le_of_lt z.2⟩]
theorem x_fedB (s : BdA h B β) (hp : ¬ (0 ≤ p ∧ p < 12)) : f_X0_fedGaugeAt h (aB B β) p M = some none := by
  unfold f_X0_fedGaugeAt
  simp only [gd, ok, s.1, and_self, if_true, x_gaugeB s hp, Option.bind_some, mq]
theorem x_spansOf (s : BdA h B β) (r : PRs M B β I) (w : WF I) (hn : n < 12) (hg : isG I n) : f_X0_spansOf h (aB B β) (aP B β n) M = some (Int32.ofNat (spS I n)) := by
  have s9 := s.2.2.2.2.2.2.2.2.2.1
  unfold f_X0_spansOf spS
  obtain ⟨e1, e2, e3, -⟩ := r n hn
  obtain ⟨-, w4, t, ht, et, -⟩ := w.1 n hn
  simp only [gd, ok, s.1, s9 n hn, and_self, if_true, e1]
  by_cases e : I (404 * n) = 4
  · obtain ⟨a, b, ha, hb, ea, eb⟩ := w4 e
    obtain ⟨-, -, ta, hta, eta, -⟩ := w.1 a ha
    obtain ⟨-, -, tb, htb, etb, -⟩ := w.1 b hb
    rw [if_pos e, if_pos e, (e2 hg).1, (e2 hg).2, ea, eb, x_fed s r ha, x_fed s r hb]
    simp (disch := omega) only [Option.bind_some, i_nat, eta, etb]
    by_cases g1 : isO I a
    · by_cases g2 : isO I b
      · simp (disch := omega) only [if_pos g1, if_pos g2, mq, s9 a ha, s9 b hb, and_self, if_true, (r a ha).2.2.1, (r b hb).2.2.1, eta, etb, i_lt, if_pos (And.intro g1 g2)]
        by_cases g3 : tb < ta
        · simp only [if_pos g3, Nat.min_eq_right (Nat.le_of_lt g3)]
        · simp only [if_neg g3, Nat.min_eq_left (Nat.le_of_not_lt g3)]
      · simp only [if_pos g1, if_neg g2, mq, if_neg (fun z : isO I a ∧ isO I b => g2 z.2)]; rfl
    · by_cases g2 : isO I b
      · simp only [if_neg g1, if_pos g2, mq, if_neg (fun z : isO I a ∧ isO I b => g1 z.1)]; rfl
      · simp only [if_neg g1, if_neg g2, mq, if_neg (fun z : isO I a ∧ isO I b => g1 z.1)]; rfl
  · rw [if_neg e, if_neg e, e3, et, i_nat (by omega)]
end X0
def rdg (v : Int32) : Prop := -1000000 ≤ v ∧ v ≤ 1000000
theorem x_rog {h : Hs} {M : Mm} {v : Int64} : f_X6_readingOrGap h v M = some (if -1000000 ≤ v ∧ v ≤ 1000000 then v.toInt32 else 2000000) := by
  unfold f_X6_readingOrGap f_X8_isWithin
  have e1 : (-1000000 : Int32).toInt64 = -1000000 := by decide
  have e2 : (1000000 : Int32).toInt64 = 1000000 := by decide
  rw [e1, e2]
  by_cases h1 : v < -1000000
  · rw [if_pos h1, if_neg fun z => Int64.not_le.mpr h1 z.1]; rfl
  · rw [if_neg h1]
    by_cases h2 : 1000000 < v
    · rw [if_pos h2, if_neg fun z => Int64.not_le.mpr h2 z.2]; rfl
    · rw [if_neg h2, if_pos ⟨Int64.not_lt.mp h1, Int64.not_lt.mp h2⟩]; rfl
theorem sum64 {a b : Int32} (ha : rdg a) (hb : rdg b) : (a.toInt64 + b.toInt64).toInt = a.toInt + b.toInt ∧ (a + b).toInt = a.toInt + b.toInt ∧ -2000000 ≤ a.toInt + b.toInt ∧ a.toInt + b.toInt ≤ 2000000 := by
  unfold rdg at ha hb
  simp only [Int32.le_iff_toInt_le] at ha hb
  have e1 : (-1000000 : Int32).toInt = -1000000 := by decide
  have e2 : (1000000 : Int32).toInt = 1000000 := by decide
  rw [e1, e2] at ha hb
  refine ⟨?_, ?_, by omega, by omega⟩
  · rw [Int64.toInt_add, Int32.toInt_toInt64, Int32.toInt_toInt64, Int.bmod_eq_of_le (by omega) (by omega)]
  · rw [Int32.toInt_add, Int.bmod_eq_of_le (by omega) (by omega)]
theorem x_sumOf {h : Hs} {M : Mm} {a b : Int32} (ha : lgl a) (hb : lgl b) : f_X0_sumOf h a b M = some (sumS a b) := by
  unfold f_X0_sumOf sumS
  rcases ha with ha | rfl | rfl
  · rcases hb with hb | rfl | rfl
    · have na : a ≠ 2000000 ∧ a ≠ 3000000 ∧ a < 2000000 := by refine ⟨?_, ?_, ?_⟩ <;> grind
      have nb : b ≠ 2000000 ∧ b ≠ 3000000 ∧ b < 2000000 := by refine ⟨?_, ?_, ?_⟩ <;> grind
      obtain ⟨s1, s2, s3, s4⟩ := sum64 ha hb
      have e1 : (-1000000 : Int32).toInt = -1000000 := by decide
      have e2 : (1000000 : Int32).toInt = 1000000 := by decide
      have e3 : (-1000000 : Int64).toInt = -1000000 := by decide
      have e4 : (1000000 : Int64).toInt = 1000000 := by decide
      have e5 : (a.toInt64 + b.toInt64).toInt32 = a + b := by
        apply Int32.toInt_inj.mp
        rw [Int64.toInt_toInt32, s1, s2, Int.bmod_eq_of_le (by omega) (by omega)]
      simp only [na, nb, if_false, ne_eq, not_false_eq_true, if_true, and_self, x_rog, Option.bind_some, e5]
      congr 1
      simp only [Int64.le_iff_toInt_le, Int32.lt_iff_toInt_lt, s1, s2, e1, e2, e3, e4]
      by_cases g : 1000000 < a.toInt + b.toInt ∨ a.toInt + b.toInt < -1000000
      · rw [if_pos g, if_neg (by omega)]
      · rw [if_neg g, if_pos (by omega)]
    · have na : a ≠ 2000000 := by grind
      simp [na]
    · have na : a ≠ 2000000 := by grind
      have na2 : a ≠ 3000000 := by grind
      simp [na, na2]
  · rcases hb with hb | rfl | rfl <;> simp
  · rcases hb with hb | rfl | rfl
    · have nb : b ≠ 2000000 := by grind
      simp [nb]
    · simp
    · simp
section X0b
variable {h : Hs} {B : Nat → Nat} {β n k d : Nat} {M : Mm} {p x y : Int32} {I : Nat → Int32}
theorem x_cellOf (s : BdA h B β) (r : PRs M B β I) (w : WF I) (hn : n < 12) (hg : isG I n) (hk : k < spS I n) : f_X0_cellOf h (aB B β) (aP B β n) (Int32.ofNat k) M = some (celS I n k) ∧ lgl (celS I n k) := by
  have s9 := s.2.2.2.2.2.2.2.2.2.1
  unfold f_X0_cellOf celS
  unfold spS at hk
  obtain ⟨e1, e2, e3, e5⟩ := r n hn
  obtain ⟨-, w4, t, ht, et, wk⟩ := w.1 n hn
  simp only [gd, ok, s.1, s9 n hn, and_self, if_true, e1]
  by_cases e : I (404 * n) = 4
  · obtain ⟨a, b, ha, hb, ea, eb⟩ := w4 e
    obtain ⟨-, -, ta, hta, eta, wa⟩ := w.1 a ha
    obtain ⟨-, -, tb, htb, etb, wb⟩ := w.1 b hb
    rw [if_pos e] at hk
    rw [if_pos e, if_pos e, (e2 hg).1, (e2 hg).2, ea, eb, x_fed s r ha, x_fed s r hb]
    rw [ea, eb, i_nat (by omega), i_nat (by omega), eta, etb, i_nat (by omega), i_nat (by omega)] at hk
    rw [i_nat (by omega), i_nat (by omega)]
    by_cases g : isO I a ∧ isO I b
    · rw [if_pos g] at hk
      have ka : k < ta := by have := Nat.min_le_left ta tb; omega
      have kb : k < tb := by have := Nat.min_le_right ta tb; omega
      obtain ⟨g1, g2⟩ := g
      have ra := (r a ha).2.2.2 k (by rw [eta, i_nat (by omega)]; exact ka)
      have rb := (r b hb).2.2.2 k (by rw [etb, i_nat (by omega)]; exact kb)
      simp only [Option.bind_some, if_pos g1, if_pos g2, mq, s9 a ha, s9 b hb, and_self, if_true, x_cellAt (s9 a ha) hta ((r a ha).2.2.1.trans eta) ka, x_cellAt (s9 b hb) htb ((r b hb).2.2.1.trans etb) kb, ra, rb, x_sumOf (wa k ka) (wb k kb), true_and]
      have la := wa k ka
      have lb := wb k kb
      generalize I (404 * a + 4 + k) = x at la ⊢
      generalize I (404 * b + 4 + k) = y at lb ⊢
      unfold sumS lgl
      split
      · split
        · exact Or.inr (Or.inl rfl)
        · next g => exact Or.inl ⟨Int32.not_lt.mp fun z => g (Or.inr z), Int32.not_lt.mp fun z => g (Or.inl z)⟩
      · split
        · exact Or.inr (Or.inl rfl)
        · exact Or.inr (Or.inr rfl)
    · rw [if_neg g] at hk; omega
  · rw [if_neg e, et, i_nat (by omega)] at hk
    rw [if_neg e, if_neg e, x_cellAt (s9 n hn) ht (e3.trans et) hk, e5 k (by rw [et, i_nat (by omega)]; exact hk)]
    exact ⟨rfl, wk k hk⟩
end X0b
