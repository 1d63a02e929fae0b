/-! CRACKS: how many cycles until a length -/
theorem j_lt {a b : Nat} (ha : a < 9223372036854775808) (hb : b < 9223372036854775808) : (Int64.ofNat a < Int64.ofNat b) = (a < b) := by
  rw [Int64.ofNat_lt_iff_lt ha hb]
theorem j_le {a b : Nat} (ha : a < 9223372036854775808) (hb : b < 9223372036854775808) : (Int64.ofNat a ≤ Int64.ofNat b) = (a ≤ b) := by
  rw [Int64.ofNat_le_iff_le ha hb]
theorem j_sub {a b : Nat} (h : b ≤ a) : Int64.ofNat a - Int64.ofNat b = Int64.ofNat (a - b) := (Int64.ofNat_sub a b h).symm
theorem j_add {a b : Nat} : Int64.ofNat a + Int64.ofNat b = Int64.ofNat (a + b) := (Int64.ofNat_add a b).symm
theorem j_mul {a b : Nat} : Int64.ofNat a * Int64.ofNat b = Int64.ofNat (a * b) := (Int64.ofNat_mul a b).symm
theorem j_div {a b : Nat} (ha : a < 9223372036854775808) (hb : b < 9223372036854775808) : Int64.ofNat a / Int64.ofNat b = Int64.ofNat (a / b) := (Int64.ofNat_div ha hb).symm
theorem fnb_sm {T : Nat → Int32} {x : Int32} : ∀ {r k m : Nat}, fnb T x r k = some m → ¬ T m < x ∧ ∀ j, k ≤ j → j < m → T j < x
  | 0, _, _, h => nomatch h
  | r + 1, k, m, h => by
    unfold fnb at h
    split at h
    · next g =>
      obtain ⟨a, b⟩ := fnb_sm h
      refine ⟨a, fun j h1 h2 => ?_⟩
      by_cases e : j = k
      · rw [e]; exact g
      · exact b j (by omega) h2
    · next g => cases h; exact ⟨g, fun j h1 h2 => by omega⟩
theorem fnb_no {T : Nat → Int32} {x : Int32} : ∀ {r k : Nat}, fnb T x r k = none → ∀ j, k ≤ j → j < k + r → T j < x
  | 0, _, _ => fun j h1 h2 => by omega
  | r + 1, k, h => by
    unfold fnb at h
    split at h
    · next g =>
      intro j h1 h2
      by_cases e : j = k
      · rw [e]; exact g
      · exact fnb_no h j (by omega) (by omega)
    · exact nomatch h
def itL (I : Nat → Int32) (d L : Nat) : Nat → Nat
  | 0 => L
  | n + 1 => grw I d (itL I d L n)
def spd (I : Nat → Int32) (d L : Nat) : Nat := (gbyI I d (Int32.ofNat L)).toNatClampNeg
def tpN (I : Nat → Int32) (d j : Nat) : Nat := (spT I d j).toNatClampNeg
def spN (I : Nat → Int32) (d j : Nat) : Nat := (spV I d j).toNatClampNeg
def Rch (I : Nat → Int32) (d L tgt n : Nat) : Prop := (∀ k, k < n → itL I d L k < tgt) ∧ tgt ≤ itL I d L n
section U
variable {I : Nat → Int32} {d L x n i : Nat}
theorem grw_spd : grw I d L = min (L + spd I d L) 1000000000 := rfl
theorem itL_le (hL : L ≤ 1000000000) : ∀ n, itL I d L n ≤ 1000000000
  | 0 => hL
  | n + 1 => grw_le
theorem itL_mono1 (hL : L ≤ 1000000000) : itL I d L n ≤ itL I d L (n + 1) := by
  have := itL_le (I := I) (d := d) hL n
  show _ ≤ grw I d (itL I d L n)
  rw [grw_spd]
  omega
theorem itL_mono (hL : L ≤ 1000000000) : ∀ k, itL I d L n ≤ itL I d L (n + k)
  | 0 => Nat.le_refl _
  | k + 1 => Nat.le_trans (itL_mono hL k) (itL_mono1 hL)
theorem itL_stop (hL : L ≤ 1000000000) (z : spd I d (itL I d L n) = 0) : ∀ k, itL I d L (n + k) = itL I d L n
  | 0 => rfl
  | k + 1 => by
    show grw I d (itL I d L (n + k)) = _
    rw [itL_stop hL z k, grw_spd, z, Nat.add_zero, Nat.min_eq_left (itL_le hL n)]
theorem tp_of (w : WFd I d) {j : Nat} (hj : j < spC I d) : tpN I d j < 2147483648 ∧ spT I d j = Int32.ofNat (tpN I d j) := by
  obtain ⟨-, -, h⟩ := spC_le w
  have h0 := (h j hj).1
  have := Int32.cast_toNatClampNeg _ h0
  have := Int32.toInt_lt (spT I d j)
  unfold tpN
  exact ⟨by omega, (Int32.ofNat_toNatClampNeg _ h0).symm⟩
theorem spd_at (w : WFd I d) (hx : x < 2147483648) (hi : i < spC I d) (h1 : ∀ j, j < i → tpN I d j < x) (h2 : i + 1 = spC I d ∨ x ≤ tpN I d i) : spd I d x = spN I d i := by
  have lt : ∀ j, j < spC I d → (spT I d j < Int32.ofNat x ↔ tpN I d j < x) := fun j hj => by
    obtain ⟨a, b⟩ := tp_of w hj
    rw [b, i_lt a hx]
  unfold spd gbyI
  rw [if_neg (by omega)]
  cases hf : fnb (spT I d) (Int32.ofNat x) (spC I d) 0 with
  | none =>
    have a := fnb_no hf i (Nat.zero_le _) (by omega)
    rw [lt i hi] at a
    have e : i + 1 = spC I d := by omega
    have e' : spC I d - 1 = i := by omega
    simp only [e']
    rfl
  | some m =>
    obtain ⟨a, b⟩ := fnb_sm hf
    have hm := fnb_lt hf
    rw [lt m (by omega)] at a
    have m1 : ¬ m < i := fun z => a (h1 m z)
    have m2 : ¬ i < m := fun z => by
      have := b i (Nat.zero_le _) z
      rw [lt i hi] at this
      omega
    have e : m = i := by omega
    simp only [e]
    rfl
/-- within a stretch of one speed -/
theorem stretch {r c tgt goal v k : Nat} (hL : L ≤ 1000000000) (e0 : itL I d L c = r) (hg : r < goal) (gt : goal ≤ tgt) (t9 : tgt ≤ 1000000000) (hv : 1 ≤ v) (sp : ∀ x, r ≤ x → x < goal → spd I d x = v) (hk : k = (goal - r + v - 1) / v) :
    goal ≤ r + k * v ∧ r + k * v < goal + v ∧ 1 ≤ k ∧ k ≤ goal ∧ (∀ q, q < k → itL I d L (c + q) < goal) ∧ itL I d L (c + k) = min (r + k * v) 1000000000 := by
  have lt : ∀ q, q < k → q * v < goal - r := fun q hq => by
    have h1 : q + 1 ≤ k := hq
    rw [hk, Nat.le_div_iff_mul_le (by omega), Nat.succ_mul] at h1
    omega
  have ge : goal - r ≤ k * v := by
    refine Nat.le_of_not_lt fun z => ?_
    have h1 : k + 1 ≤ (goal - r + v - 1) / v := by
      rw [Nat.le_div_iff_mul_le (by omega), Nat.succ_mul]
      omega
    omega
  have k1 : 1 ≤ k := by
    rcases Nat.eq_zero_or_pos k with z | z
    · rw [z, Nat.zero_mul] at ge; omega
    · exact z
  have steps : ∀ q, q < k → itL I d L (c + q) = r + q * v := by
    intro q
    induction q with
    | zero => intro _; rw [Nat.zero_mul]; exact e0
    | succ q ih =>
      intro hq
      have h1 := ih (by omega)
      have h2 := lt (q + 1) hq
      have h3 := lt q (by omega)
      show grw I d (itL I d L (c + q)) = _
      rw [grw_spd, h1, sp _ (by omega) (by omega), Nat.succ_mul]
      rw [Nat.succ_mul] at h2
      omega
  have kk : k * v = (k - 1) * v + v := by rw [← Nat.succ_mul]; congr 1; omega
  have l1 := lt (k - 1) (by omega)
  have kle : k - 1 ≤ (k - 1) * v := Nat.le_mul_of_pos_right _ hv
  refine ⟨by omega, by omega, k1, by omega, fun q hq => ?_, ?_⟩
  · have := lt q hq
    rw [steps q hq]; omega
  · have e : c + k = c + (k - 1) + 1 := by omega
    rw [e]
    show grw I d (itL I d L (c + (k - 1))) = _
    rw [grw_spd, steps (k - 1) (by omega), sp _ (by omega) (by omega), kk]
    congr 1
    omega
end U
