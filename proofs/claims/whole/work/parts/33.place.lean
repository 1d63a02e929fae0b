/-! THE CLASS: a place in memory and the part of the reference's row that it stands for -/
abbrev PlA (h : Hs) (a c : Nat) : Prop := ok h a 4 ∧ zR h a 0 = some c ∧ ok h c 11 ∧ zN h c = 400
theorem PlA.ne {h : Hs} {a c a' c' : Nat} (p : PlA h a c) (p' : PlA h a' c') : a ≠ c' := fun e => by
  have h1 := p.1.2
  have h2 := p'.2.2.1.2
  rw [e] at h1; rw [h1] at h2; cases h2
def PR (M : Mm) (a c : Nat) (I : Nat → Int32) (n : Nat) : Prop :=
  zI M a 1 = I (404 * n) ∧ (isG I n → zI M a 2 = I (404 * n + 1) ∧ zI M a 3 = I (404 * n + 2)) ∧ zI M a 4 = I (404 * n + 3) ∧ ∀ k, k < (I (404 * n + 3)).toNatClampNeg → zI M c k = I (404 * n + 4 + k)
theorem PR.fr {M M' : Mm} {a c : Nat} {I : Nat → Int32} {n : Nat} (r : PR M a c I n) (ha : ∀ j, zI M' a j = zI M a j) (hc : ∀ j, zI M' c j = zI M c j) : PR M' a c I n := by
  unfold PR at *
  simp only [ha, hc]
  exact r
theorem PR.cg {M : Mm} {a c : Nat} {I I' : Nat → Int32} {n : Nat} (r : PR M a c I n) (h : ∀ j, j < 404 → I' (404 * n + j) = I (404 * n + j)) (w : WFp I n) : PR M a c I' n := by
  obtain ⟨-, -, s, hs, es, -⟩ := w
  have h0 := h 0 (by omega); have h1 := h 1 (by omega); have h2 := h 2 (by omega); have h3 := h 3 (by omega)
  unfold PR isG at *
  rw [Nat.add_zero] at h0
  rw [h0, h1, h2, h3]
  refine ⟨r.1, r.2.1, r.2.2.1, fun k hk => ?_⟩
  rw [r.2.2.2 k hk, Nat.add_assoc, h (4 + k) (by rw [es, i_nat (by omega)] at hk; omega)]
section X4
variable {h : Hs} {a c a' c' : Nat} {M : Mm} {n k : Nat} {p v : Int32} {I : Nat → Int32}
theorem x_isGauge (s : PlA h a c) : f_X4_isGauge h a M = some (if 0 ≤ zI M a 1 ∧ zI M a 1 ≤ 4 then 1 else 0) := by
  unfold f_X4_isGauge
  simp only [gd, ok, s, and_self, if_true]
  generalize zI M a 1 = v
  by_cases h1 : v < 0
  · rw [if_pos h1, if_neg (fun z => Int32.not_le.mpr h1 z.1)]
  · rw [if_neg h1]
    by_cases h2 : 4 < v
    · rw [if_pos h2, if_neg (fun z => Int32.not_le.mpr h2 z.2)]
    · rw [if_neg h2, if_pos ⟨Int32.not_lt.mp h1, Int32.not_lt.mp h2⟩]
theorem x_cellAt (s : PlA h a c) {t : Nat} (ht : t ≤ 400) (et : zI M a 4 = Int32.ofNat t) (hk : k < t) : f_X4_cellAt h a (Int32.ofNat k) M = some (zI M c k) := by
  unfold f_X4_cellAt
  have f1 : ¬ t ≤ k := by omega
  have f2 : ¬ 400 ≤ k := by omega
  have f3 : k < 400 := by omega
  simp (disch := omega) only [gd, ok, dq, s, and_self, if_true, et, i_neg, i_le, i_inb, i_nat, f1, f2, f3, if_false]
theorem x_cellAtB (s : PlA h a c) {t : Nat} (ht : t ≤ 400) (et : zI M a 4 = Int32.ofNat t) (hp : ¬ (0 ≤ p ∧ p < Int32.ofNat t)) : f_X4_cellAt h a p M = some 3000000 := by
  unfold f_X4_cellAt
  by_cases h1 : p < 0
  · rw [if_pos h1]
  · rw [if_neg h1]
    have h2 : Int32.ofNat t ≤ p := Int32.not_lt.mp fun z => hp ⟨Int32.not_lt.mp h1, z⟩
    simp only [gd, ok, s, and_self, if_true, et, h2]
theorem x_hasGap (s : PlA h a c) {t : Nat} (ht : t ≤ 400) (et : zI M a 4 = Int32.ofNat t) (hk : k < t) : f_X4_hasGap h a (Int32.ofNat k) M = some (if zI M c k = 2000000 then 1 else 0) := by
  unfold f_X4_hasGap
  simp only [gd, ok, s, and_self, if_true, x_cellAt s ht et hk, Option.bind_some]
  by_cases e : zI M c k = 2000000 <;> simp [e]
theorem x_hasGapB (s : PlA h a c) {t : Nat} (ht : t ≤ 400) (et : zI M a 4 = Int32.ofNat t) (hp : ¬ (0 ≤ p ∧ p < Int32.ofNat t)) : f_X4_hasGap h a p M = some 0 := by
  unfold f_X4_hasGap
  simp only [gd, ok, s, and_self, if_true, x_cellAtB s ht et hp, Option.bind_some]
  rfl
theorem x_set (s : PlA h a c) {t : Nat} (ht : t ≤ 400) (et : zI M a 4 = Int32.ofNat t) (hk : k < t) : f_X4_set h a (Int32.ofNat k) v M = some (sI M c k v) := by
  unfold f_X4_set
  have f1 : ¬ t ≤ k := by omega
  have f2 : ¬ 400 ≤ k := by omega
  have f3 : k < 400 := by omega
  simp (disch := omega) only [gd, ok, dq, lt_, s, and_self, if_true, et, i_neg, i_le, i_inb, i_nat, f1, f2, f3, if_false]
theorem x_become {x y z : Int32} (s : PlA h a c) : f_X4_become h a x y z M = some (sI (sI (sI (sI M a 1 x) a 2 y) a 3 z) a 4 0) := by
  unfold f_X4_become
  simp only [gd, ok, lt_, s, and_self, if_true]
theorem x_add (s : PlA h a c) {t : Nat} (ht : t < 400) (et : zI M a 4 = Int32.ofNat t) : f_X4_add h a v M = some (sI (sI M c t (if zI M a 1 = 3 ∧ zI M a 2 ≤ Int32.ofNat t ∧ Int32.ofNat t ≤ zI M a 3 then 3000000 else v)) a 4 (Int32.ofNat (t + 1))) := by
  unfold f_X4_add
  have f1 : ¬ 400 ≤ t := by omega
  have f2 : ¬ (a = c ∧ 4 = t) := fun e => s.ne s e.1
  simp (disch := omega) only [gd, ok, dq, lt_, s, and_self, if_true, et, i_neg, i_le, i_inb, i_nat, f1, ht, if_false, zI_sI, f2, i_addL]
  by_cases e1 : zI M a 1 = 3
  · by_cases e2 : Int32.ofNat t < zI M a 2
    · have e3 : ¬ zI M a 2 ≤ Int32.ofNat t := Int32.not_le.mpr e2
      simp [e1, e2, e3]
    · have e3 : zI M a 2 ≤ Int32.ofNat t := Int32.not_lt.mp e2
      by_cases e4 : zI M a 3 < Int32.ofNat t
      · have e5 : ¬ Int32.ofNat t ≤ zI M a 3 := Int32.not_le.mpr e4
        simp [e1, e2, e3, e4, e5]
      · have e5 : Int32.ofNat t ≤ zI M a 3 := Int32.not_lt.mp e4
        simp [e1, e2, e3, e4, e5]
  · simp [e1]
theorem x_copyP (s : PlA h a c) (s' : PlA h a' c') (na : a ≠ a') (nc : c ≠ c') (w : WFp I n) (r : PR M a' c' I n) : wp (f_X4_copyFrom h a a' M) (fun M' => Fm (fun b _ => b = a ∨ b = c) M M' ∧ PR M' a c I n ∧ zI M' a 2 = zI M a' 2 ∧ zI M' a 3 = zI M a' 3) := by
  unfold f_X4_copyFrom
  obtain ⟨-, -, t, ht, et, -⟩ := w
  have n1 := s.ne s; have n2 := s.ne s'; have n3 := s'.ne s; have n4 := s'.ne s'
  have na' := na.symm
  simp only [wp_gd, ok, wp_lt, wp_bind, s, s', and_self, true_and, zI_sI, na', false_and, if_false]
  unfold PR at r
  rw [et, i_nat (by omega)] at r
  generalize hM0 : sI (sI (sI (sI M a 1 (zI M a' 1)) a 2 (zI M a' 2)) a 3 (zI M a' 3)) a 4 (zI M a' 4) = M0
  have F0 : Fm (fun b _ => b = a ∨ b = c) M M0 := by rw [← hM0]; exact (((Fm.rf.sI (Or.inl rfl)).sI (Or.inl rfl)).sI (Or.inl rfl)).sI (Or.inl rfl)
  have k0 : ∀ j, zI M0 a' j = zI M a' j := fun j => F0.i (by simp [na', n3])
  have k1 : ∀ j, zI M0 c' j = zI M c' j := fun j => F0.i (by simp [nc.symm, n2.symm])
  have k2 : zI M0 a 1 = zI M a' 1 ∧ zI M0 a 2 = zI M a' 2 ∧ zI M0 a 3 = zI M a' 3 ∧ zI M0 a 4 = zI M a' 4 := by rw [← hM0]; simp [zI_sI]
  refine loopW (fun n k s => lp_X4_copyFrom_34 h a' a n (Int32.ofNat k) s) t (fun k M' => Fm (fun b _ => b = a ∨ b = c) M M' ∧ (∀ j, zI M' a j = zI M0 a j) ∧ ∀ i, i < k → zI M' c i = zI M c' i) _ ?_ ?_ fuel 0 M0 (by omega) (by unfold fuel; omega) ⟨F0, fun _ => rfl, by omega⟩
  · intro n k M1 hk ⟨F, h1, h2⟩ ih
    have e4 : zI M1 a 4 = Int32.ofNat t := by rw [h1, k2.2.2.2, r.2.2.1]
    have f1 : ¬ t ≤ k := by omega
    have f2 : ¬ 400 ≤ k := by omega
    have f3 : k < 400 := by omega
    have ec : zI M1 c' k = zI M c' k := F.i (by simp [nc.symm, n2.symm])
    simp only [lp_X4_copyFrom_34]
    simp (disch := omega) only [gd, ok, dq, lt_, s, s', and_self, if_true, e4, i_neg, i_le, i_inb, i_nat, f1, f2, f3, if_false, i_addL, ec]
    refine ih _ ⟨F.sI (Or.inr rfl), fun j => ?_, fun i hi => ?_⟩
    · rw [zI_sI, if_neg (fun e => n1 e.1)]; exact h1 j
    · rw [zI_sI]
      by_cases e : i = k
      · subst e; simp
      · rw [if_neg (by simp [e])]; exact h2 i (by omega)
  · intro n M1 ⟨F, h1, h2⟩
    have e4 : zI M1 a 4 = Int32.ofNat t := by rw [h1, k2.2.2.2, r.2.2.1]
    simp only [lp_X4_copyFrom_34]
    simp only [e4, Int32.le_refl, if_true, wp_some]
    refine ⟨F, ?_, by rw [h1, k2.2.1], by rw [h1, k2.2.2.1]⟩
    unfold PR
    rw [et, i_nat (by omega), h1, h1, h1, h1, k2.1, k2.2.1, k2.2.2.1, k2.2.2.2]
    refine ⟨r.1, r.2.1, r.2.2.1, fun k hk => by rw [h2 k hk]; exact r.2.2.2 k hk⟩
end X4
