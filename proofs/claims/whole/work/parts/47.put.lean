/-! CALLS: put, plug, take, kind -/
def Sim (x y : Option (Int32 × Mm)) (h1 h2 : Hs) (B A : Nat → Nat) (pic : Prop) : Prop := wp x (fun z => wp y (fun z' => z.1 = z'.1 ∧ Inv h1 z.2 h2 z'.2 B A pic))
def toldS (k a b : Int32) : Prop := 0 ≤ k ∧ k ≤ 4 ∧ (k = 1 → 1 ≤ a ∧ a ≤ 100000) ∧ (k = 3 → 0 ≤ a ∧ a ≤ b ∧ b ≤ 399) ∧ (k = 4 → (0 ≤ a ∧ a < 12) ∧ 0 ≤ b ∧ b < 12)
def putL (h : Hs) (A : Nat → Nat) (n : Nat) (k a b : Int32) (M : Mm) : Option (Int32 × Mm) :=
  (f_X9_act h (A 0) M).bind fun z => some (1, sI (sI (sI (sI z (A 1) (404 * n) k) (A 1) (404 * n + 1) a) (A 1) (404 * n + 2) b) (A 1) (404 * n + 3) 0)
section P
variable {h h1 h2 : Hs} {B A : Nat → Nat} {M M1 M2 : Mm} {pic : Prop} {n : Nat} {p k a b : Int32}
theorem Inv.t0 (V : Inv h1 M1 h2 M2 B A pic) : Inv h1 M1 h2 (sI M2 (A 0) 0 0) B A pic := by
  refine V.scr FB.rf (FB.rf.sI V.2.1.2 (Or.inl ⟨rfl, by omega⟩)) ?_
  exact V.2.2.2.2.2.1.cg (K1 := fun _ _ => False) (K2 := fun i j => i = 0 ∧ j = 0) FB.rf (FB.rf.sI V.2.1.2 ⟨rfl, rfl⟩) (fun j => by simp) (fun j => by omega)
theorem x_told : f_X8_isGaugeAsTold h k a b M = some (if 0 ≤ k ∧ k ≤ 4 ∧ (k = 1 → 1 ≤ a ∧ a ≤ 100000) ∧ (k = 3 → 0 ≤ a ∧ a ≤ b ∧ b ≤ 399) ∧ (k = 4 → (0 ≤ a ∧ a < 12) ∧ 0 ≤ b ∧ b < 12) then 1 else 0) := by
  unfold f_X8_isGaugeAsTold
  by_cases k1 : k = 1
  · subst k1
    rw [if_pos rfl, x_within, b_some]
    by_cases g : 1 ≤ a ∧ a ≤ 100000
    · rw [if_pos g, if_pos ⟨by decide, by decide, fun _ => g, fun z => absurd z (by decide), fun z => absurd z (by decide)⟩]; rfl
    · rw [if_neg g, if_neg fun z => g (z.2.2.1 rfl)]; rfl
  · rw [if_neg k1]
    by_cases k3 : k = 3
    · subst k3
      rw [if_pos rfl]
      by_cases g1 : a < 0
      · rw [if_pos g1, if_neg fun z => Int32.not_le.mpr g1 (z.2.2.2.1 rfl).1]
      · rw [if_neg g1]
        by_cases g2 : b < a
        · rw [if_pos g2, if_neg fun z => Int32.not_le.mpr g2 (z.2.2.2.1 rfl).2.1]
        · rw [if_neg g2]
          by_cases g3 : 400 ≤ b
          · rw [if_pos g3, if_neg fun z => by have := (z.2.2.2.1 rfl).2.2; grind]
          · rw [if_neg g3, if_pos ⟨by decide, by decide, fun z => absurd z (by decide), fun _ => ⟨Int32.not_lt.mp g1, Int32.not_lt.mp g2, by grind⟩, fun z => absurd z (by decide)⟩]
    · rw [if_neg k3]
      by_cases k4 : k = 4
      · subst k4
        rw [if_pos rfl, x_within, x_within, b_some, b_some]
        by_cases g1 : 0 ≤ a ∧ a ≤ 11
        · rw [if_pos g1, if_neg (by decide)]
          by_cases g2 : 0 ≤ b ∧ b ≤ 11
          · rw [if_pos g2, if_neg (by decide), if_pos ⟨by decide, by decide, fun z => absurd z (by decide), fun z => absurd z (by decide), fun _ => ⟨⟨g1.1, by have := g1.2; grind⟩, g2.1, by have := g2.2; grind⟩⟩]
          · rw [if_neg g2, if_pos rfl, if_neg fun z => g2 ⟨(z.2.2.2.2 rfl).2.1, by have := (z.2.2.2.2 rfl).2.2; grind⟩]
        · rw [if_neg g1, if_pos rfl, if_neg fun z => g1 ⟨(z.2.2.2.2 rfl).1.1, by have := (z.2.2.2.2 rfl).1.2; grind⟩]
      · rw [if_neg k4]
        by_cases g1 : k < 0
        · rw [if_pos g1, if_neg fun z => Int32.not_le.mpr g1 z.1]
        · rw [if_neg g1]
          by_cases g2 : 4 < k
          · rw [if_pos g2, if_neg fun z => Int32.not_le.mpr g2 z.2.1]
          · rw [if_neg g2, if_pos ⟨Int32.not_lt.mp g1, Int32.not_lt.mp g2, fun z => absurd z k1, fun z => absurd z k3, fun z => absurd z k4⟩]
theorem r_noI {v : Int32} : f_X9_no h v M = some (if 0 ≤ v ∧ v < 12 then 0 else 1) := by
  by_cases g : 0 ≤ v ∧ v < 12
  · obtain ⟨n, hn, rfl⟩ := good12 g
    rw [if_pos g, r_no hn]
  · rw [if_neg g, r_noB g]
theorem r_put (S : Sh2 h A) (hn : n < 12) : f_X9_put h (A 0) (Int32.ofNat n) k a b M = if 0 ≤ k ∧ k ≤ 4 ∧ (k = 1 → 1 ≤ a ∧ a ≤ 100000) ∧ (k = 3 → 0 ≤ a ∧ a ≤ b ∧ b ≤ 399) ∧ (k = 4 → (0 ≤ a ∧ a < 12) ∧ 0 ≤ b ∧ b < 12) then putL h A n k a b (sI M (A 0) 0 0) else some (0, sI M (A 0) 0 0) := by
  have s := S.s
  have f0 : 404 * n < 5328 := by omega
  have f1 : 404 * n + 1 < 5328 := by omega
  have f2 : 404 * n + 2 < 5328 := by omega
  have f3 : 404 * n + 3 < 5328 := by omega
  unfold f_X9_put putL
  simp only [gd, ok, s, and_self, if_true, lt_, r_no hn, b_some, dq, r_noI, i_mulL, i_addL]
  have j0 : inb (Int32.ofNat (404 * n)) 5328 := by rw [i_inb (by omega)]; exact f0
  have j1 : inb (Int32.ofNat (404 * n + 1)) 5328 := by rw [i_inb (by omega)]; exact f1
  have j2 : inb (Int32.ofNat (404 * n + 2)) 5328 := by rw [i_inb (by omega)]; exact f2
  have j3 : inb (Int32.ofNat (404 * n + 3)) 5328 := by rw [i_inb (by omega)]; exact f3
  have t0 : (Int32.ofNat (404 * n)).toNatClampNeg = 404 * n := i_nat (by omega)
  have t1 : (Int32.ofNat (404 * n + 1)).toNatClampNeg = 404 * n + 1 := i_nat (by omega)
  have t2 : (Int32.ofNat (404 * n + 2)).toNatClampNeg = 404 * n + 2 := i_nat (by omega)
  have t3 : (Int32.ofNat (404 * n + 3)).toNatClampNeg = 404 * n + 3 := i_nat (by omega)
  simp only [if_pos j0, if_pos j1, if_pos j2, if_pos j3, t0, t1, t2, t3]
  generalize ((f_X9_act h (A 0) (sI M (A 0) 0 0)).bind fun z => some ((1 : Int32), sI (sI (sI (sI z (A 1) (404 * n) k) (A 1) (404 * n + 1) a) (A 1) (404 * n + 2) b) (A 1) (404 * n + 3) 0)) = L
  have d1 : ¬ (1 : Int32) = 0 := by decide
  by_cases k1 : k = 1
  · subst k1
    by_cases g1 : a < 1
    · simp [g1]
      intro z; exact absurd g1 (Int32.not_lt.mpr z)
    · by_cases g2 : 100000 < a
      · simp [g1, g2]
        intro _ z; exact absurd g2 (Int32.not_lt.mpr z)
      · simp [g1, g2, Int32.not_lt.mp g1, Int32.not_lt.mp g2]
  · by_cases k3 : k = 3
    · subst k3
      by_cases g1 : a < 0
      · simp [g1]
        intro z; exact absurd g1 (Int32.not_lt.mpr z)
      · by_cases g2 : b < a
        · simp [g1, g2]
          intro _ z; exact absurd g2 (Int32.not_lt.mpr z)
        · by_cases g3 : 399 < b
          · simp [g1, g2, g3]
            intro _ _ z; exact absurd g3 (Int32.not_lt.mpr z)
          · simp [g1, g2, g3, Int32.not_lt.mp g1, Int32.not_lt.mp g2, Int32.not_lt.mp g3]
    · by_cases k4 : k = 4
      · subst k4
        by_cases g1 : 0 ≤ a ∧ a < 12
        · by_cases g2 : 0 ≤ b ∧ b < 12
          · simp [g1, g2]
          · simp [g1, g2]
        · simp [g1]
      · by_cases g1 : k < 0
        · have : ¬ 0 ≤ k := Int32.not_le.mpr g1
          simp [g1, this]
        · by_cases g2 : k ≤ 4
          · simp [g1, g2, k1, k3, k4, Int32.not_lt.mp g1]
          · simp [g1, g2]
end P
