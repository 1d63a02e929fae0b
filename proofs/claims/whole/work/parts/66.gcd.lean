/-! LIVES: how large they get; the greatest common divisor -/
theorem add64 {a b : Int64} {x y : Int} (ha : a.toInt = x) (hb : b.toInt = y) (h0 : 0 ≤ x + y) (h1 : x + y < 9223372036854775808) : (a + b).toInt = x + y := by
  rw [Int64.toInt_add, ha, hb]
  exact Int.bmod_eq_of_le (by omega) (by omega)
theorem lsF_bd {E : Nat → Int32} {lim : Int32} {U : Nat → Int64} : ∀ {n : Nat}, (∀ j, j < n → 0 ≤ (U j).toInt ∧ (U j).toInt ≤ 1441440000000) → n ≤ 1000 → 0 ≤ (lsF E lim U n).toInt ∧ (lsF E lim U n).toInt ≤ n * 1441440000000
  | 0, _, _ => by simp only [lsF]; decide
  | n + 1, h, hn => by
    obtain ⟨i1, i2⟩ := lsF_bd (E := E) (lim := lim) (U := U) (n := n) (fun j hj => h j (by omega)) (by omega)
    obtain ⟨u1, u2⟩ := h n (by omega)
    simp only [lsF]
    split
    · rw [add64 rfl rfl (by omega) (by omega)]
      refine ⟨by omega, ?_⟩
      rw [Int.natCast_add, Int.add_mul]
      omega
    · refine ⟨i1, ?_⟩
      rw [Int.natCast_add, Int.add_mul]
      omega
theorem itU_bd {I : Nat → Int32} {d : Nat} {T : List Int32} {P : List Nat} {C : List Cy} {j : Nat} (wd : WFd I d) : 0 ≤ (itU I d T P C j).toInt ∧ (itU I d T P C j).toInt ≤ 1441440000000 := by
  have ok := berS_ok wd (bndS_ok (e := itE I d T P C j) wd).2
  obtain ⟨e1, e2⟩ := div_ber ok
  have hb := ok.1
  unfold itU itB
  split
  · rw [e1]
    exact ⟨Int.ediv_nonneg (by omega) (by omega), Int.ediv_le_self _ (by omega)⟩
  · rw [e2]
    have := Int.ediv_le_self (a := 720720000000) (berS I d (bndS I d (itE I d T P C j))).toInt (by omega)
    exact ⟨Int.ediv_nonneg (by omega) (by omega), by omega⟩
def usdS (I : Nat → Int32) (d : Nat) (sort : Int32) : Int64 := if sort = 0 then sum7 0 (wpA I d) else sum7 0 (wpA I d) + wgA I d
theorem least_bd {I : Nat → Int32} {d : Nat} (W : WF I) (wd : WFd I d) : 0 ≤ (sum7 0 (wpA I d)).toInt ∧ (sum7 0 (wpA I d)).toInt ≤ 400 * 1441440000000 := by
  rcases gOf_cases wd with ⟨g0, -⟩ | ⟨m, hm, -, hg, g0⟩
  · unfold wpA
    rw [g0]
    show 0 ≤ (sum7 0 (fun _ => 0)).toInt ∧ (sum7 0 (fun _ => 0)).toInt ≤ _
    decide
  · unfold wpA
    rw [g0]
    obtain ⟨t4, -, p4, c4⟩ := trn400 (from_ := begS I d) W hm
    have hl : (pilL (trnL I m (begS I d))).1.length + 2 * (pilL (trnL I m (begS I d))).2.length = (trnL I m (begS I d)).length := pilN_len _ _
    have hn : (pilL (trnL I m (begS I d))).2.length + ((pilL (trnL I m (begS I d))).1.length - 1) ≤ 400 := by omega
    simp only []
    rw [← ls_sum fun j _ => by
      have := (bndS_ok (e := itE I d (trnL I m (begS I d)) (pilL (trnL I m (begS I d))).1 (pilL (trnL I m (begS I d))).2 j) wd).1
      unfold itB; omega]
    obtain ⟨b1, b2⟩ := lsF_bd (E := itE I d (trnL I m (begS I d)) (pilL (trnL I m (begS I d))).1 (pilL (trnL I m (begS I d))).2) (lim := I (4848 + 40 * d + 24)) (U := itU I d (trnL I m (begS I d)) (pilL (trnL I m (begS I d))).1 (pilL (trnL I m (begS I d))).2) (n := (pilL (trnL I m (begS I d))).2.length + ((pilL (trnL I m (begS I d))).1.length - 1)) (fun j _ => itU_bd wd) (by omega)
    refine ⟨b1, Int.le_trans b2 ?_⟩
    omega
theorem usd_bd {I : Nat → Int32} {d : Nat} {sort : Int32} (W : WF I) (wd : WFd I d) : 0 ≤ (usdS I d sort).toInt ∧ (usdS I d sort).toInt ≤ 800 * 1441440000000 := by
  obtain ⟨l1, l2⟩ := least_bd W wd
  unfold usdS
  split
  · exact ⟨l1, by omega⟩
  · have g : 0 ≤ (wgA I d).toInt ∧ (wgA I d).toInt ≤ 400 * 1441440000000 := by
      rcases gOf_cases wd with ⟨g0, -⟩ | ⟨m, hm, -, hg, g0⟩
      · unfold wgA; rw [g0]; show 0 ≤ (0 : Int64).toInt ∧ (0 : Int64).toInt ≤ _; decide
      · unfold wgA; rw [g0]
        have hs := spS_le W hm
        have hG := gapF_le I m (begS I d) (spS I m - begS I d)
        have ok := berS_ok wd (bndS_ok (e := I (4848 + 40 * d + 25)) wd).2
        obtain ⟨e1, -⟩ := div_ber ok
        have hb := ok.1
        have d0 : 0 ≤ (1441440000000 : Int) / (berS I d (bndS I d (I (4848 + 40 * d + 25)))).toInt := Int.ediv_nonneg (by omega) (by omega)
        have d1 : (1441440000000 : Int) / (berS I d (bndS I d (I (4848 + 40 * d + 25)))).toInt ≤ 1441440000000 := Int.ediv_le_self _ (by omega)
        have eg : ((Int32.ofNat (gapF I m (begS I d) (spS I m - begS I d))).toInt64).toInt = gapF I m (begS I d) (spS I m - begS I d) := by rw [Int32.toInt_toInt64, i_int (by omega)]
        simp only []
        rw [Int64.toInt_mul, eg, e1]
        generalize (1441440000000 : Int) / (berS I d (bndS I d (I (4848 + 40 * d + 25)))).toInt = q at d0 d1 ⊢
        generalize gapF I m (begS I d) (spS I m - begS I d) = g at hG ⊢
        have m0 : 0 ≤ (g : Int) * q := Int.mul_nonneg (by omega) d0
        have m1 : (g : Int) * q ≤ 400 * 1441440000000 := Int.mul_le_mul (by omega) d1 d0 (by omega)
        rw [Int.bmod_eq_of_le (by omega) (by omega)]
        exact ⟨m0, m1⟩
    rw [add64 rfl rfl (by omega) (by omega)]
    omega
theorem rem64 {a b : Int64} {x y : Nat} (ha : a.toInt = x) (hb : b.toInt = y) (hy : 0 < y) : (a - a / b * b).toInt = ((x % y : Nat) : Int) := by
  have hx := Int64.toInt_lt a
  rw [ha] at hx
  have d0 : (0 : Int) ≤ (x : Int) / y := Int.ediv_nonneg (by omega) (by omega)
  have d1 : (x : Int) / y ≤ x := Int.ediv_le_self _ (by omega)
  have hm := Int.mul_ediv_add_emod x y
  have m0 : (0 : Int) ≤ (x : Int) % y := Int.emod_nonneg _ (by omega)
  rw [Int.mul_comm] at hm
  have p0 : 0 ≤ (x : Int) / y * y := Int.mul_nonneg d0 (by omega)
  have e1 : (a / b).toInt = (x : Int) / y := by
    rw [Int64.toInt_div, ha, hb, Int.tdiv_eq_ediv_of_nonneg (by omega)]
    exact Int.bmod_eq_of_le (by omega) (by omega)
  have e2 : (a / b * b).toInt = (x : Int) / y * y := by
    rw [Int64.toInt_mul, e1, hb]
    exact Int.bmod_eq_of_le (by omega) (by omega)
  rw [Int64.toInt_sub, ha, e2, Int.bmod_eq_of_le (by omega) (by omega), Int.natCast_emod]
  omega
theorem half_mod {y r : Nat} {k : Nat} (h0 : 0 < r) (h1 : r < y) (hy : y < 2 ^ (k + 1)) : y % r < 2 ^ k := by
  rw [Nat.pow_succ] at hy
  by_cases g : r ≤ 2 ^ k
  · have := Nat.mod_lt y h0
    omega
  · rw [Nat.mod_eq_sub_mod (Nat.le_of_lt h1)]
    have := Nat.mod_le (y - r) r
    omega
theorem nz64 {b : Int64} {y : Nat} (hb : b.toInt = y) : (b = 0) = (y = 0) := by
  apply propext
  constructor
  · intro z
    rw [z] at hb
    have e : (0 : Int64).toInt = 0 := by decide
    rw [e] at hb
    omega
  · intro z
    apply Int64.toInt_inj.mp
    rw [hb, z]; decide
section G
variable {h : Hs} {M : Mm}
theorem x_gcd : ∀ (k x y i n : Nat) (a b : Int64), y < 2 ^ k → i + 2 * k ≤ 200 → 200 - i < n → a.toInt = x → b.toInt = y → wp (lp_X8_greatestCommonDivisor_9 h M n a b (Int32.ofNat i)) (fun z => z.1.toInt = Nat.gcd x y) := by
  intro k
  induction k with
  | zero =>
    intro x y i n a b hy hi hn ha hb
    obtain ⟨n, rfl⟩ : ∃ m, n = m + 1 := ⟨n - 1, by omega⟩
    have y0 : y = 0 := by simpa using hy
    subst y0
    have b0 : b = 0 := by rw [nz64 hb]
    simp only [lp_X8_greatestCommonDivisor_9]
    rw [if_pos b0, ite_self, wp_some, Nat.gcd_zero_right]
    exact ha
  | succ k ih =>
    intro x y i n a b hy hi hn ha hb
    obtain ⟨n, rfl⟩ : ∃ m, n = m + 1 := ⟨n - 1, by omega⟩
    simp only [lp_X8_greatestCommonDivisor_9]
    rw [if_neg (show ¬ (200 : Int32) ≤ Int32.ofNat i by rw [i_Lle (by omega) (by simp)]; show ¬ 200 ≤ i; omega)]
    by_cases y0 : y = 0
    · subst y0
      rw [if_pos (by rw [nz64 hb]), wp_some, Nat.gcd_zero_right]
      exact ha
    · have hyp : 0 < y := Nat.pos_of_ne_zero y0
      have hr := Nat.mod_lt x hyp
      have e1 := rem64 ha hb hyp
      have g1 : Nat.gcd x y = Nat.gcd y (x % y) := by rw [Nat.gcd_comm x y, Nat.gcd_rec y x, Nat.gcd_comm]
      rw [if_neg (by rw [nz64 hb]; exact y0), wp_gd]
      refine ⟨by rw [nz64 hb]; exact y0, ?_⟩
      rw [wp_lt, wp_lt, i_addL, show i + (OfNat.ofNat 1 : Nat) = i + 1 from rfl]
      obtain ⟨n, rfl⟩ : ∃ m, n = m + 1 := ⟨n - 1, by omega⟩
      simp only [lp_X8_greatestCommonDivisor_9]
      rw [if_neg (show ¬ (200 : Int32) ≤ Int32.ofNat (i + 1) by rw [i_Lle (by omega) (by simp)]; show ¬ 200 ≤ i + 1; omega)]
      by_cases r0 : x % y = 0
      · rw [if_pos (by rw [nz64 e1]; exact r0), wp_some, g1, r0, Nat.gcd_zero_right]
        exact hb
      · have hrp : 0 < x % y := Nat.pos_of_ne_zero r0
        have e2 := rem64 hb e1 hrp
        have g2 : Nat.gcd y (x % y) = Nat.gcd (x % y) (y % (x % y)) := by rw [Nat.gcd_comm y, Nat.gcd_rec (x % y) y, Nat.gcd_comm]
        rw [if_neg (by rw [nz64 e1]; exact r0), wp_gd]
        refine ⟨by rw [nz64 e1]; exact r0, ?_⟩
        rw [wp_lt, wp_lt, i_addL, show i + 1 + (OfNat.ofNat 1 : Nat) = i + 2 from rfl, g1, g2]
        exact ih (x % y) (y % (x % y)) (i + 2) n _ _ (half_mod hrp hr hy) (by omega) (by omega) e1 e2
theorem r_gcd {w4 : Int64} {w3 : Int32} : ∀ (k x y n : Nat) (a b : Int64), y < 2 ^ k → 2 * k < n → a.toInt = x → b.toInt = y → wp (lp_X9_damage_76 h w4 w3 M n b a) (fun z => z.2.toInt = Nat.gcd x y) := by
  intro k
  induction k with
  | zero =>
    intro x y n a b hy hn ha hb
    obtain ⟨n, rfl⟩ : ∃ m, n = m + 1 := ⟨n - 1, by omega⟩
    have y0 : y = 0 := by simpa using hy
    subst y0
    simp only [lp_X9_damage_76]
    rw [if_pos (by rw [nz64 hb]), wp_some, Nat.gcd_zero_right]
    exact ha
  | succ k ih =>
    intro x y n a b hy hn ha hb
    obtain ⟨n, rfl⟩ : ∃ m, n = m + 1 := ⟨n - 1, by omega⟩
    simp only [lp_X9_damage_76]
    by_cases y0 : y = 0
    · subst y0
      rw [if_pos (by rw [nz64 hb]), wp_some, Nat.gcd_zero_right]
      exact ha
    · have hyp : 0 < y := Nat.pos_of_ne_zero y0
      have hr := Nat.mod_lt x hyp
      have e1 := rem64 ha hb hyp
      have g1 : Nat.gcd x y = Nat.gcd y (x % y) := by rw [Nat.gcd_comm x y, Nat.gcd_rec y x, Nat.gcd_comm]
      rw [if_neg (by rw [nz64 hb]; exact y0), wp_gd]
      refine ⟨by rw [nz64 hb]; exact y0, ?_⟩
      rw [wp_lt]
      obtain ⟨n, rfl⟩ : ∃ m, n = m + 1 := ⟨n - 1, by omega⟩
      simp only [lp_X9_damage_76]
      by_cases r0 : x % y = 0
      · rw [if_pos (by rw [nz64 e1]; exact r0), wp_some, g1, r0, Nat.gcd_zero_right]
        exact hb
      · have hrp : 0 < x % y := Nat.pos_of_ne_zero r0
        have e2 := rem64 hb e1 hrp
        have g2 : Nat.gcd y (x % y) = Nat.gcd (x % y) (y % (x % y)) := by rw [Nat.gcd_comm y, Nat.gcd_rec (x % y) y, Nat.gcd_comm]
        rw [if_neg (by rw [nz64 e1]; exact r0), wp_gd]
        refine ⟨by rw [nz64 e1]; exact r0, ?_⟩
        rw [wp_lt, g1, g2]
        exact ih (x % y) (y % (x % y)) n _ _ (half_mod hrp hr hy) (by omega) e1 e2
/-- both find the same -/
theorem gcd_both {u : Int64} (h0 : 0 ≤ u.toInt) : ∃ g : Int64, (∃ z, lp_X8_greatestCommonDivisor_9 h M fuel u 1441440000000 0 = some z ∧ z.1 = g) ∧ (∀ (h' : Hs) (M' : Mm) (w4 : Int64) (w3 : Int32), ∃ z, lp_X9_damage_76 h' w4 w3 M' fuel u 1441440000000 = some z ∧ z.2 = g) ∧ 1 ≤ g ∧ ¬ g = 0 := by
  obtain ⟨x, hx⟩ : ∃ x : Nat, u.toInt = x := ⟨u.toInt.toNat, by omega⟩
  have hlt := Int64.toInt_lt u
  rw [hx] at hlt
  have eW : (1441440000000 : Int64).toInt = (1441440000000 : Nat) := by decide
  obtain ⟨z, e1, e2⟩ := x_gcd (h := h) (M := M) 41 x 1441440000000 0 fuel u 1441440000000 (by decide) (by decide) (by unfold fuel; omega) hx eW
  have hg : 0 < Nat.gcd x 1441440000000 := Nat.gcd_pos_of_pos_right _ (by decide)
  refine ⟨z.1, ⟨z, e1, rfl⟩, fun h' M' w4 w3 => ?_, ?_, ?_⟩
  · obtain ⟨z', k1, k2⟩ := r_gcd (h := h') (M := M') (w4 := w4) (w3 := w3) 63 1441440000000 x fuel 1441440000000 u (by omega) (by unfold fuel; omega) eW hx
    refine ⟨z', k1, Int64.toInt_inj.mp ?_⟩
    rw [k2, e2, Nat.gcd_comm]
  · rw [Int64.le_iff_toInt_le, e2, show (1 : Int64).toInt = 1 by decide]; omega
  · rw [nz64 e2]; omega
end G
