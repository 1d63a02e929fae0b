/-! EFFECT, BOUND, BEARS on both sides -/
def mnC (I : Nat → Int32) (d : Nat) : Nat := (I (4848 + 40 * d + 15)).toNatClampNeg
def mnT (I : Nat → Int32) (d j : Nat) : Int32 := I (4848 + 40 * d + 15 + 1 + 2 * j)
def mnV (I : Nat → Int32) (d j : Nat) : Int32 := I (4848 + 40 * d + 15 + 2 + 2 * j)
def bdC (I : Nat → Int32) (d : Nat) : Nat := (I (4848 + 40 * d + 2)).toNatClampNeg
def bdT (I : Nat → Int32) (d j : Nat) : Int32 := I (4848 + 40 * d + 2 + 1 + 2 * j)
def bdV (I : Nat → Int32) (d j : Nat) : Int32 := I (4848 + 40 * d + 2 + 2 + 2 * j)
def prcS (I : Nat → Int32) (d : Nat) (mean : Int32) : Int32 := match fnb (mnT I d) mean (mnC I d) 0 with
  | none => 100
  | some i => mnV I d i
def effS (I : Nat → Int32) (d : Nat) (range mean : Int32) : Int32 := (range * prcS I d mean + 99) / 100
def bndS (I : Nat → Int32) (d : Nat) (e : Int32) : Nat := match fnb (bdT I d) e (bdC I d) 0 with
  | none => 6
  | some i => i
def berS (I : Nat → Int32) (d i : Nat) : Int64 := if i = 6 then 1 else (bdV I d i).toInt64
/-- a bound of a detail: its bears are as told -/
def berOk (b : Int64) : Prop := 1 ≤ b.toInt ∧ b.toInt ≤ 10000000 ∧ (720720000000 : Int) % b.toInt = 0
theorem mnC_le {I : Nat → Int32} {d : Nat} (w : WFd I d) : mnC I d ≤ 4 ∧ I (4848 + 40 * d + 15) = Int32.ofNat (mnC I d) ∧ ∀ j, j < mnC I d → 10 ≤ mnV I d j ∧ mnV I d j ≤ 400 := by
  obtain ⟨c, hc, e, hj⟩ := w.2.2.2.1
  have : mnC I d = c := by unfold mnC; rw [e, i_nat (by omega)]
  rw [this]
  exact ⟨hc, e, hj⟩
theorem bdC_le {I : Nat → Int32} {d : Nat} (w : WFd I d) : bdC I d ≤ 6 ∧ I (4848 + 40 * d + 2) = Int32.ofNat (bdC I d) ∧ ∀ j, j < bdC I d → 1 ≤ bdV I d j ∧ bdV I d j ≤ 10000000 ∧ 720720000000 % (bdV I d j).toInt = 0 := by
  obtain ⟨c, hc, e, hj⟩ := w.2.2.1
  have : bdC I d = c := by unfold bdC; rw [e, i_nat (by omega)]
  rw [this]
  exact ⟨hc, e, fun j h => (hj j h).2⟩
theorem prcS_ok {I : Nat → Int32} {d : Nat} {m : Int32} (w : WFd I d) : 10 ≤ prcS I d m ∧ prcS I d m ≤ 400 := by
  obtain ⟨-, -, h⟩ := mnC_le w
  unfold prcS
  split
  · decide
  · next i e => exact h i (by have := fnb_lt e; omega)
theorem bndS_ok {I : Nat → Int32} {d : Nat} {e : Int32} (w : WFd I d) : bndS I d e ≤ 6 ∧ (bndS I d e = 6 ∨ bndS I d e < bdC I d) := by
  obtain ⟨h1, -, -⟩ := bdC_le w
  unfold bndS
  split
  · exact ⟨Nat.le_refl _, Or.inl rfl⟩
  · next i e => have := fnb_lt e; exact ⟨by omega, Or.inr (by omega)⟩
theorem berS_ok {I : Nat → Int32} {d i : Nat} (w : WFd I d) (h : i = 6 ∨ i < bdC I d) : berOk (berS I d i) := by
  obtain ⟨h1, -, hj⟩ := bdC_le w
  unfold berS berOk
  by_cases g : i = 6
  · rw [if_pos g]; decide
  · rw [if_neg g, Int32.toInt_toInt64]
    obtain ⟨a, b, c⟩ := hj i (h.resolve_left g)
    rw [Int32.le_iff_toInt_le] at a b
    exact ⟨a, b, c⟩
theorem berOk.nz {b : Int64} (h : berOk b) : ¬ b = 0 := fun z => by
  have := h.1
  rw [z] at this
  exact absurd this (by decide)
theorem div_ber {b : Int64} (h : berOk b) : ((1441440000000 : Int64) / b).toInt = 1441440000000 / b.toInt ∧ ((720720000000 : Int64) / b).toInt = 720720000000 / b.toInt := by
  obtain ⟨h1, h2, -⟩ := h
  have e1 : (1441440000000 : Int64).toInt = 1441440000000 := by decide
  have e2 : (720720000000 : Int64).toInt = 720720000000 := by decide
  have b1 : 0 ≤ (1441440000000 : Int) / b.toInt := Int.ediv_nonneg (by omega) (by omega)
  have b2 : (1441440000000 : Int) / b.toInt ≤ 1441440000000 := Int.ediv_le_self _ (by omega)
  have b3 : 0 ≤ (720720000000 : Int) / b.toInt := Int.ediv_nonneg (by omega) (by omega)
  have b4 : (720720000000 : Int) / b.toInt ≤ 720720000000 := Int.ediv_le_self _ (by omega)
  constructor
  · rw [Int64.toInt_div, e1, Int.tdiv_eq_ediv_of_nonneg (by omega)]
    exact Int.bmod_eq_of_le (by omega) (by omega)
  · rw [Int64.toInt_div, e2, Int.tdiv_eq_ediv_of_nonneg (by omega)]
    exact Int.bmod_eq_of_le (by omega) (by omega)
theorem half_ber {b : Int64} (h : berOk b) : ((1441440000000 : Int64) / b) / 2 = 720720000000 / b := by
  obtain ⟨e1, e2⟩ := div_ber h
  obtain ⟨h1, h2, h3⟩ := h
  apply Int64.toInt_inj.mp
  have b1 : 0 ≤ (1441440000000 : Int) / b.toInt := Int.ediv_nonneg (by omega) (by omega)
  have b2 : (1441440000000 : Int) / b.toInt ≤ 1441440000000 := Int.ediv_le_self _ (by omega)
  rw [e2, Int64.toInt_div, e1, show (2 : Int64).toInt = 2 by decide, Int.tdiv_eq_ediv_of_nonneg b1, Int.bmod_eq_of_le (by omega) (by omega)]
  have hm := Int.mul_ediv_add_emod 720720000000 b.toInt
  rw [h3, Int.add_zero] at hm
  generalize (720720000000 : Int) / b.toInt = k at hm ⊢
  have : (1441440000000 : Int) = b.toInt * (2 * k) := by
    have : b.toInt * (2 * k) = 2 * (b.toInt * k) := by rw [← Int.mul_assoc, Int.mul_comm b.toInt 2, Int.mul_assoc]
    omega
  rw [this, Int.mul_ediv_cancel_left _ (by omega)]
  omega
theorem div_one64 {x : Int64} : x / 1 = x := by
  apply Int64.toInt_inj.mp
  rw [Int64.toInt_div, show (1 : Int64).toInt = 1 by decide, Int.tdiv_one]
  have h1 := Int64.le_toInt x
  have h2 := Int64.toInt_lt x
  exact Int.bmod_eq_of_le (by omega) (by omega)
/-- an effect, in ints and in longs -/
theorem eff64 {r p : Int32} (hr : 0 ≤ r.toInt ∧ r.toInt ≤ 2000000) (hp : 10 ≤ p ∧ p ≤ 400) : (((r.toInt64 * p.toInt64) + (99 : Int64)) / (100 : Int64)).toInt32 = (r * p + 99) / 100 := by
  obtain ⟨p1, p2⟩ := hp
  rw [Int32.le_iff_toInt_le, show (10 : Int32).toInt = 10 by decide] at p1
  rw [Int32.le_iff_toInt_le, show (400 : Int32).toInt = 400 by decide] at p2
  have hm0 : 0 ≤ r.toInt * p.toInt := Int.mul_nonneg (by omega) (by omega)
  have hm1 : r.toInt * p.toInt ≤ 2000000 * 400 := Int.mul_le_mul (by omega) (by omega) (by omega) (by omega)
  apply Int32.toInt_inj.mp
  have a1 : (r.toInt64 * p.toInt64).toInt = r.toInt * p.toInt := by
    rw [Int64.toInt_mul, Int32.toInt_toInt64, Int32.toInt_toInt64, Int.bmod_eq_of_le (by omega) (by omega)]
  have a2 : (r.toInt64 * p.toInt64 + 99).toInt = r.toInt * p.toInt + 99 := by
    rw [Int64.toInt_add, a1, show (99 : Int64).toInt = 99 by decide, Int.bmod_eq_of_le (by omega) (by omega)]
  have a3 : ((r.toInt64 * p.toInt64 + 99) / 100).toInt = (r.toInt * p.toInt + 99) / 100 := by
    rw [Int64.toInt_div, a2, show (100 : Int64).toInt = 100 by decide, Int.tdiv_eq_ediv_of_nonneg (by omega), Int.bmod_eq_of_le (by omega) (by omega)]
  have b1 : (r * p).toInt = r.toInt * p.toInt := by rw [Int32.toInt_mul, Int.bmod_eq_of_le (by omega) (by omega)]
  have b2 : (r * p + 99).toInt = r.toInt * p.toInt + 99 := by rw [Int32.toInt_add, b1, show (99 : Int32).toInt = 99 by decide, Int.bmod_eq_of_le (by omega) (by omega)]
  rw [Int64.toInt_toInt32, a3, Int32.toInt_div, b2, show (100 : Int32).toInt = 100 by decide, Int.tdiv_eq_ediv_of_nonneg (by omega)]
theorem far_ok {x y : Int32} (hx : rdg x) (hy : rdg y) : 0 ≤ (far x y).toInt ∧ (far x y).toInt ≤ 2000000 := by
  unfold rdg at hx hy
  have e1 : (-1000000 : Int32).toInt = -1000000 := by decide
  have e2 : (1000000 : Int32).toInt = 1000000 := by decide
  simp only [Int32.le_iff_toInt_le, e1, e2] at hx hy
  have s1 : (x - y).toInt = x.toInt - y.toInt := by rw [Int32.toInt_sub, Int.bmod_eq_of_le (by omega) (by omega)]
  have s2 : (y - x).toInt = y.toInt - x.toInt := by rw [Int32.toInt_sub, Int.bmod_eq_of_le (by omega) (by omega)]
  unfold far
  simp only [Int32.le_iff_toInt_le]
  split
  · rw [s2]; omega
  · rw [s1]; omega
section E
variable {h : Hs} {B A : Nat → Nat} {M : Mm} {I : Nat → Int32} {d i j : Nat} {e r m : Int32} {T : List Int32}
theorem DR.lad {i c : Nat} (r : DR M B 0 d I d) (hi : i < 3) (e : I (4848 + 40 * d + oft i) = Int32.ofNat c) (hc : c ≤ 6) : zI M (aL B 0 d i) 2 = Int32.ofNat c ∧ (∀ j, j < c → zI M (aT B 0 d i) j = I (4848 + 40 * d + oft i + 1 + 2 * j)) ∧ ∀ j, j < c → zI M (aV B 0 d i) j = I (4848 + 40 * d + oft i + 2 + 2 * j) := by
  obtain ⟨l1, l2⟩ := r.2.2.2.2.2.2 i hi
  rw [e, i_nat (by omega)] at l2
  exact ⟨l1.trans e, fun j hj => (l2 j hj).1, fun j hj => (l2 j hj).2⟩
theorem x_effectOf (sd : DtA h B 0 d) (s : RwA h B) (w : WFd I d) (dr : DR M B 0 d I d) (hT : stk M (B 5) T) (h4 : T.length ≤ 400) (hi : i < T.length) (hj : j < T.length) (hr : ∀ x ∈ T, rdg x) :
    f_X2_effectOf h (aD B 0 d) (B 3) (Int32.ofNat i) (Int32.ofNat j) M = some (effS I d (far (nth T i) (nth T j)) (nth T i + nth T j)) := by
  obtain ⟨c4, ec, hv⟩ := mnC_le w
  obtain ⟨l1, l2, l3⟩ := dr.lad (i := 1) (by omega) ec (by omega)
  have sl := sd.2.2 1 (by omega)
  unfold f_X2_effectOf effS prcS
  rw [gd, if_pos sd.1, sd.2.1 1 (by omega), dq, gd, if_pos s.1, x_meanOf s hT h4 hi hj, b_some, gd, if_pos sl.1, x_first sl (by decide) l1 c4, b_some, x_rangeOf s hT h4 hi hj hr]
  unfold fnbI
  rw [fnb_cg (T := zI M (aT B 0 d 1)) (T' := mnT I d) fun k _ hk => l2 k (by omega)]
  cases hf : fnb (mnT I d) (nth T i + nth T j) (mnC I d) 0 with
  | none =>
    simp only []
    rw [if_neg (not_not_intro trivial), b_some, b_some]
  | some k =>
    have hk := fnb_lt hf
    simp only []
    rw [if_pos (i_ne1 (by omega)), x_valueAt sl (by decide) (show k < mst 1 by show k < 4; omega), b_some, b_some, b_some, l3 k (by omega)]
    rfl
theorem x_boundFor (sd : DtA h B 0 d) (w : WFd I d) (dr : DR M B 0 d I d) : f_X2_boundFor h (aD B 0 d) e M = some (Int32.ofNat (bndS I d e)) := by
  obtain ⟨c4, ec, hv⟩ := bdC_le w
  obtain ⟨l1, l2, l3⟩ := dr.lad (i := 0) (by omega) ec (by omega)
  have sl := sd.2.2 0 (by omega)
  unfold f_X2_boundFor bndS
  rw [gd, if_pos sd.1, sd.2.1 0 (by omega), dq, gd, if_pos sl.1, x_first sl (by decide) l1 c4, b_some]
  unfold fnbI
  rw [fnb_cg (T := zI M (aT B 0 d 0)) (T' := bdT I d) fun k _ hk => l2 k (by omega)]
  cases hf : fnb (bdT I d) e (bdC I d) 0 with
  | none =>
    simp only []
    rw [if_neg (not_not_intro trivial)]; rfl
  | some k =>
    have hk := fnb_lt hf
    simp only []
    rw [if_pos (i_ne1 (by omega))]
theorem x_useUnder (sd : DtA h B 0 d) (w : WFd I d) (dr : DR M B 0 d I d) (hi : i = 6 ∨ i < bdC I d) : f_X2_useUnder h (aD B 0 d) (Int32.ofNat i) M = some (1441440000000 / berS I d i) := by
  obtain ⟨c4, ec, hv⟩ := bdC_le w
  obtain ⟨l1, l2, l3⟩ := dr.lad (i := 0) (by omega) ec (by omega)
  have sl := sd.2.2 0 (by omega)
  have ok := berS_ok w hi
  have z6 : (Int32.ofNat i = 6) = (i = 6) := by rw [show (6 : Int32) = Int32.ofNat 6 from rfl, i_inj (by omega) (by omega)]
  unfold f_X2_useUnder
  simp only [z6]
  by_cases g : i = 6
  · subst g
    rw [if_neg (not_not_intro rfl), b_some]
    rfl
  · have hlt := hi.resolve_left g
    have hvi := hv i hlt
    have e1 : zI M (aV B 0 d 0) i = bdV I d i := l3 i hlt
    have nz : ¬ (bdV I d i).toInt64 = 0 := by
      have := ok.nz
      unfold berS at this; rwa [if_neg g] at this
    rw [if_pos g, gd, if_pos sd.1, sd.2.1 0 (by omega), dq, gd, if_pos sl.1, x_valueAt sl (by decide) (show i < mst 0 by show i < 6; omega), b_some, b_some, e1, if_pos hvi.1, gd, if_pos nz]
    unfold berS
    rw [if_neg g]
theorem r_effect (S : Sh2 h A) (hd : d < 12) (w : WFd (zI M (A 1)) d) (hr : 0 ≤ r.toInt ∧ r.toInt ≤ 2000000) : f_X9_effect h (A 0) (Int32.ofNat d) r m M = some (effS (zI M (A 1)) d r m) := by
  have s := S.s
  obtain ⟨c4, ec, hv⟩ := mnC_le w
  have f0 : 4848 + 40 * d + 15 < 5328 := by omega
  have K : ∀ (k n : Nat), k ≤ mnC (zI M (A 1)) d → k < n → ∃ v, lp_X9_effect_26 h (Int32.ofNat (4848 + 40 * d + 15)) r m (A 0) (A 1) M n (match fnb (mnT (zI M (A 1)) d) m (mnC (zI M (A 1)) d - k) k with | none => 100 | some i => (mnV (zI M (A 1)) d i).toInt64) (preI k) = some ((prcS (zI M (A 1)) d m).toInt64, v) := by
    intro k
    induction k with
    | zero =>
      intro n _ hn
      obtain ⟨n, rfl⟩ : ∃ q, n = q + 1 := ⟨n - 1, by omega⟩
      refine ⟨-1, ?_⟩
      simp only [lp_X9_effect_26, preI, if_true]
      rw [if_pos (by decide), Nat.sub_zero]
      unfold prcS
      cases fnb (mnT (zI M (A 1)) d) m (mnC (zI M (A 1)) d) 0 <;> rfl
    | succ k ih =>
      intro n hk hn
      obtain ⟨n, rfl⟩ : ∃ q, n = q + 1 := ⟨n - 1, by omega⟩
      obtain ⟨v, hv⟩ := ih n (by omega) (by omega)
      refine ⟨v, ?_⟩
      have e : preI (k + 1) = Int32.ofNat k := rfl
      have e2 : Int32.ofNat k + -1 = preI k := by
        unfold preI
        by_cases e3 : k = 0
        · subst e3; decide
        · rw [if_neg e3, i_dec (by omega)]
      have f1 : 4848 + 40 * d + 15 + 1 + 2 * k < 5328 := by omega
      have f2 : 4848 + 40 * d + 15 + 2 + 2 * k < 5328 := by omega
      rw [e]
      simp only [lp_X9_effect_26]
      rw [if_neg (nlt0 (show k < 2147483648 by omega)), e2]
      simp (disch := omega) only [i_addL, i_mulL, i_add, s, gd, i_inb, f1, f2, if_true, i_nat, lt_]
      rw [← hv]
      have es : mnC (zI M (A 1)) d - k = mnC (zI M (A 1)) d - (k + 1) + 1 := by omega
      rw [es]
      simp only [fnb]
      show ((if mnT (zI M (A 1)) d k < m then _ else some (mnV (zI M (A 1)) d k).toInt64).bind _) = _
      by_cases g : mnT (zI M (A 1)) d k < m
      · rw [if_pos g, if_pos g, b_some]
      · rw [if_neg g, if_neg g, b_some]
  obtain ⟨v, hv2⟩ := K (mnC (zI M (A 1)) d) fuel (Nat.le_refl _) (by unfold fuel; omega)
  rw [Nat.sub_self] at hv2
  have e5 : Int32.ofNat (mnC (zI M (A 1)) d) - 1 = preI (mnC (zI M (A 1)) d) := by
    unfold preI
    by_cases e3 : mnC (zI M (A 1)) d = 0
    · rw [e3]; decide
    · rw [if_neg e3, i_subL (by show 1 ≤ mnC (zI M (A 1)) d; omega)]
  unfold f_X9_effect f_X9_base
  simp (disch := omega) only [gd, ok, dq, s, and_self, if_true, b_some, i_mulL, i_Ladd, i_addL, lt_, i_inb, f0, i_nat, ec, e5]
  rw [show lp_X9_effect_26 h (Int32.ofNat (4848 + 40 * d + 15)) r m (A 0) (A 1) M fuel 100 (preI (mnC (zI M (A 1)) d)) = _ from hv2, b_some]
  show some _ = _
  rw [eff64 hr (prcS_ok w)]
  rfl
theorem r_boundOf (S : Sh2 h A) (hd : d < 12) (w : WFd (zI M (A 1)) d) : f_X9_boundOf h (A 0) (Int32.ofNat d) e M = some (Int32.ofNat (bndS (zI M (A 1)) d e)) := by
  have s := S.s
  obtain ⟨c4, ec, hv⟩ := bdC_le w
  have f0 : 4848 + 40 * d + 2 < 5328 := by omega
  have K : ∀ (k n : Nat), k ≤ bdC (zI M (A 1)) d → k < n → ∃ v, lp_X9_boundOf_22 h (Int32.ofNat (4848 + 40 * d + 2)) e (A 0) (A 1) M n (match fnb (bdT (zI M (A 1)) d) e (bdC (zI M (A 1)) d - k) k with | none => 6 | some i => Int32.ofNat i) (preI k) = some (Int32.ofNat (bndS (zI M (A 1)) d e), v) := by
    intro k
    induction k with
    | zero =>
      intro n _ hn
      obtain ⟨n, rfl⟩ : ∃ q, n = q + 1 := ⟨n - 1, by omega⟩
      refine ⟨-1, ?_⟩
      simp only [lp_X9_boundOf_22, preI, if_true]
      rw [if_pos (by decide), Nat.sub_zero]
      unfold bndS
      cases fnb (bdT (zI M (A 1)) d) e (bdC (zI M (A 1)) d) 0 <;> rfl
    | succ k ih =>
      intro n hk hn
      obtain ⟨n, rfl⟩ : ∃ q, n = q + 1 := ⟨n - 1, by omega⟩
      obtain ⟨v, hv⟩ := ih n (by omega) (by omega)
      refine ⟨v, ?_⟩
      have e0 : preI (k + 1) = Int32.ofNat k := rfl
      have e2 : Int32.ofNat k + -1 = preI k := by
        unfold preI
        by_cases e3 : k = 0
        · subst e3; decide
        · rw [if_neg e3, i_dec (by omega)]
      have f1 : 4848 + 40 * d + 2 + 1 + 2 * k < 5328 := by omega
      rw [e0]
      simp only [lp_X9_boundOf_22]
      rw [if_neg (nlt0 (show k < 2147483648 by omega)), e2]
      simp (disch := omega) only [i_addL, i_mulL, i_add, s, gd, i_inb, f1, if_true, i_nat, lt_]
      rw [← hv]
      have es : bdC (zI M (A 1)) d - k = bdC (zI M (A 1)) d - (k + 1) + 1 := by omega
      rw [es]
      simp only [fnb]
      show ((if bdT (zI M (A 1)) d k < e then _ else some (Int32.ofNat k)).bind _) = _
      by_cases g : bdT (zI M (A 1)) d k < e
      · rw [if_pos g, if_pos g, b_some]
      · rw [if_neg g, if_neg g, b_some]
  obtain ⟨v, hv2⟩ := K (bdC (zI M (A 1)) d) fuel (Nat.le_refl _) (by unfold fuel; omega)
  rw [Nat.sub_self] at hv2
  have e5 : Int32.ofNat (bdC (zI M (A 1)) d) - 1 = preI (bdC (zI M (A 1)) d) := by
    unfold preI
    by_cases e3 : bdC (zI M (A 1)) d = 0
    · rw [e3]; decide
    · rw [if_neg e3, i_subL (by show 1 ≤ bdC (zI M (A 1)) d; omega)]
  unfold f_X9_boundOf f_X9_base
  simp (disch := omega) only [gd, ok, dq, s, and_self, if_true, b_some, i_mulL, i_Ladd, i_addL, lt_, i_inb, f0, i_nat, ec, e5]
  rw [show lp_X9_boundOf_22 h (Int32.ofNat (4848 + 40 * d + 2)) e (A 0) (A 1) M fuel 6 (preI (bdC (zI M (A 1)) d)) = _ from hv2, b_some]
theorem r_bears (S : Sh2 h A) (hd : d < 12) (hi : i ≤ 6) : f_X9_bears h (A 0) (Int32.ofNat d) (Int32.ofNat i) M = some (berS (zI M (A 1)) d i) := by
  have s := S.s
  have z6 : (Int32.ofNat i = 6) = (i = 6) := by rw [show (6 : Int32) = Int32.ofNat 6 from rfl, i_inj (by omega) (by omega)]
  have f0 : 4848 + 40 * d + 2 + 2 + 2 * i < 5328 := by omega
  unfold f_X9_bears f_X9_base berS bdV
  simp only [z6]
  by_cases g : i = 6
  · rw [if_neg (not_not_intro g), if_pos g]
  · rw [if_pos g, if_neg g]
    simp (disch := omega) only [gd, ok, dq, s, and_self, if_true, b_some, i_mulL, i_Ladd, i_addL, i_add, i_inb, f0, i_nat]
end E
