/-! CALLS: bound, mean, step -/
theorem oft_cases {i : Nat} (hi : i < 3) : (i = 0 ∧ oft i = 2 ∧ mst i = 6) ∨ (i = 1 ∧ oft i = 15 ∧ mst i = 4) ∨ (i = 2 ∧ oft i = 28 ∧ mst i = 4) := by
  rcases (show i = 0 ∨ i = 1 ∨ i = 2 by omega) with rfl | rfl | rfl <;> simp [oft, mst]
/-- one more on a ladder, in the reference's row -/
def Add1 (I I' : Nat → Int32) (b c : Nat) (x y : Int32) : Prop := I' b = Int32.ofNat (c + 1) ∧ I' (b + 1 + 2 * c) = x ∧ I' (b + 2 + 2 * c) = y ∧ ∀ k, k ≠ b → k ≠ b + 1 + 2 * c → k ≠ b + 2 + 2 * c → I' k = I k
theorem WFl.add {I I' : Nat → Int32} {b most c : Nat} {x y : Int32} {T T' : Nat → Int32 → Int32 → Prop} (w : WFl I b most T) (hm : most ≤ 6) (e : I b = Int32.ofNat c) (hc : c < most) (a : Add1 I I' b c x y) (hT : ∀ j t v, j < c → T j t v → T' j t v) (hN : T' c x y) : WFl I' b most T' := by
  obtain ⟨c', hc', e', hj⟩ := w
  have : c' = c := by
    rw [e] at e'
    have h1 : (Int32.ofNat c = Int32.ofNat c') = (c = c') := i_inj (by omega) (by omega)
    rw [h1] at e'; exact e'.symm
  subst this
  obtain ⟨a1, a2, a3, a4⟩ := a
  refine ⟨c' + 1, by omega, a1, fun j hjc => ?_⟩
  by_cases g : j = c'
  · subst g; rw [a2, a3]; exact hN
  · rw [a4 _ (by omega) (by omega) (by omega), a4 _ (by omega) (by omega) (by omega)]
    exact hT j _ _ (by omega) (hj j (by omega))
section D
variable {h h1 h2 : Hs} {B A : Nat → Nat} {M M' M1 M2 : Mm} {pic : Prop} {n c i : Nat} {p x y v low : Int32} {I I' : Nat → Int32}
theorem DR.add (hB : ∀ i j, B i = B j → i = j) (hn : n < 12) (r : DR M B 0 n I n) (w : WFd I n) (hi : i < 3) (e : I (4848 + 40 * n + oft i) = Int32.ofNat c) (hc : c < mst i) (a : Add1 I I' (4848 + 40 * n + oft i) c x y) :
    DR (sI (sI (sI M (aT B 0 n i) c x) (aV B 0 n i) c y) (aL B 0 n i) 2 (Int32.ofNat (c + 1))) B 0 n I' n := by
  have q : ∀ i j, (B i = B j) = (i = j) := fun i j => propext ⟨hB i j, fun e => by rw [e]⟩
  generalize hM : sI (sI (sI M (aT B 0 n i) c x) (aV B 0 n i) c y) (aL B 0 n i) 2 (Int32.ofNat (c + 1)) = M'
  have F : FB B (fun k _ => k = 400 + 100 * i + n ∨ k = 700 + 100 * i + n ∨ k = 1000 + 100 * i + n) M M' := by
    rw [← hM]
    exact ((FB.rf.sI (a := 700 + 100 * i + 12 * 0 + n) hB (by omega)).sI (a := 1000 + 100 * i + 12 * 0 + n) hB (by omega)).sI (a := 400 + 100 * i + 12 * 0 + n) hB (by omega)
  obtain ⟨r1, r2, r3, r4, r5, r6, r7⟩ := r
  obtain ⟨a1, a2, a3, a4⟩ := a
  have ho := oft_cases hi
  have g : ∀ j, zI M' (aD B 0 n) j = zI M (aD B 0 n) j := fun j => F.i (by omega)
  unfold DR
  rw [g, g, g, g, g, g, a4 (4848 + 40 * n) (by omega) (by omega) (by omega), a4 (4848 + 40 * n + 1) (by omega) (by omega) (by omega), a4 (4848 + 40 * n + 24) (by omega) (by omega) (by omega), a4 (4848 + 40 * n + 25) (by omega) (by omega) (by omega), a4 (4848 + 40 * n + 26) (by omega) (by omega) (by omega), a4 (4848 + 40 * n + 27) (by omega) (by omega) (by omega)]
  refine ⟨r1, r2, r3, r4, r5, r6, fun k hk => ?_⟩
  by_cases ek : k = i
  · subst ek
    obtain ⟨l1, l2⟩ := r7 k hk
    rw [e, i_nat (by omega)] at l2
    unfold LR
    rw [a1, i_nat (by omega)]
    refine ⟨by rw [← hM]; simp [zI_sI], fun j hj => ?_⟩
    by_cases g : j = c
    · subst g
      rw [a2, a3, ← hM]
      simp only [zI_sI, aT, aV, aL, q]
      rw [if_neg (by omega), if_neg (by omega), if_pos ⟨trivial, trivial⟩, if_neg (by omega), if_pos ⟨trivial, trivial⟩]
      exact ⟨rfl, rfl⟩
    · rw [a4 _ (by omega) (by omega) (by omega), a4 _ (by omega) (by omega) (by omega), ← hM]
      simp only [zI_sI, aT, aV, aL, q]
      rw [if_neg (by omega), if_neg (by omega), if_neg (by omega), if_neg (by omega), if_neg (by omega), if_neg (by omega)]
      exact l2 j (by omega)
  · obtain ⟨c2, hc2, ec2⟩ := w.lad hk
    have ho2 := oft_cases hk
    have l := (r7 k hk).fb F (fun j => by omega)
    unfold LR at l ⊢
    rw [ec2, i_nat (by omega)] at l
    rw [a4 _ (by omega) (by omega) (by omega), ec2, i_nat (by omega)]
    refine ⟨l.1, fun j hj => ?_⟩
    rw [a4 _ (by omega) (by omega) (by omega), a4 _ (by omega) (by omega) (by omega)]
    exact l.2 j hj
theorem t_more (V : Inv h1 M1 h2 M2 B A pic) (hn : n < 12) (hi : i < 3) (e : zI M2 (A 1) (4848 + 40 * n + oft i) = Int32.ofNat c) (hc : c < mst i)
    (hW : ∀ I', Add1 (zI M2 (A 1)) I' (4848 + 40 * n + oft i) c x y → WFd I' n) :
    Sim ((f_X8_keepDetail h1 (B 0) (Int32.ofNat n) (aD B 0 n) M1).bind fun z => (f_X3_add h1 (aL B 0 n i) x y z).bind fun z => some (z.1, z.2)) ((f_X9_act h2 (A 0) M2).bind fun z => some (Int32.ofNat (c + 1), sI (sI (sI z (A 1) (4848 + 40 * n + oft i + 1 + 2 * c) x) (A 1) (4848 + 40 * n + oft i + 2 + 2 * c) y) (A 1) (4848 + 40 * n + oft i) (Int32.ofNat (c + 1)))) h1 h2 B A pic := by
  have S1 := V.1
  have S2 := V.2.1
  have hB := S1.1
  have q : ∀ i j, (B i = B j) = (i = j) := fun i j => propext ⟨hB i j, fun e => by rw [e]⟩
  have sl := (S1.2.2.2.1.2.2.2.2.2.2.2.2.2.2 n hn).2.2 i hi
  have ho := oft_cases hi
  unfold Sim
  rw [wp_bind]
  refine (x_keepD S1 hn (V.2.2.1.2 n hn) (V.2.2.2.2.1 n hn)).mono ?_
  rintro M1' ⟨F1, kd, u9, u8⟩
  obtain ⟨d0, -⟩ := V.detB (M2' := M2) hn F1 FB.rf
  have w := V.2.2.1.2 n hn
  have hcnt : zI M1' (aL B 0 n i) 2 = Int32.ofNat c := ((d0.2.2.2.2.2.2 i hi).1).trans e
  rw [x_addL sl (mst_le i) hcnt hc (by simp only [aT, aL, ne_eq, q]; omega) (by simp only [aV, aL, ne_eq, q]; omega), b_some, wp_some, wp_bind]
  refine (r_act S2).mono ?_
  rintro M2' ⟨F2, hw, hcu⟩
  rw [wp_some]
  refine ⟨rfl, ?_⟩
  have eI : zI M2' (A 1) = zI M2 (A 1) := funext fun j => F2.i (by omega)
  have ad : Add1 (zI M2 (A 1)) (zI (sI (sI (sI M2' (A 1) (4848 + 40 * n + oft i + 1 + 2 * c) x) (A 1) (4848 + 40 * n + oft i + 2 + 2 * c) y) (A 1) (4848 + 40 * n + oft i) (Int32.ofNat (c + 1))) (A 1)) (4848 + 40 * n + oft i) c x y := by
    refine ⟨by rw [zI_sI, if_pos ⟨rfl, rfl⟩], by rw [zI_sI, if_neg (by omega), zI_sI, if_neg (by omega), zI_sI, if_pos ⟨rfl, rfl⟩], by rw [zI_sI, if_neg (by omega), zI_sI, if_pos ⟨rfl, rfl⟩], fun k k1 k2 k3 => ?_⟩
    rw [zI_sI, if_neg (by omega), zI_sI, if_neg (by omega), zI_sI, if_neg (by omega), eI]
  refine V.detF hn F1 kd u9 u8 F2 hw hcu ?_ ?_ (d0.add hB hn w hi e hc ad) (hW _ ad)
  · exact ((FB.rf.sI (a := 700 + 100 * i + 12 * 0 + n) hB (by omega)).sI (a := 1000 + 100 * i + 12 * 0 + n) hB (by omega)).sI (a := 400 + 100 * i + 12 * 0 + n) hB (by omega)
  · exact ((FB.rf.sI S2.2 (by omega)).sI S2.2 (by omega)).sI S2.2 (by omega)
theorem r_more (S : Sh2 h A) (hn : n < 12) (hi : i < 3) (e : zI M (A 1) (4848 + 40 * n + oft i) = Int32.ofNat c) (hc : c ≤ mst i) {z : Int32} (hz : z = 1) :
    f_X9_more h (A 0) (Int32.ofNat n) (Int32.ofNat (oft i)) (Int32.ofNat (mst i)) low x y z M = if c < mst i ∧ (if c = 0 then low ≤ x else zI M (A 1) (4848 + 40 * n + oft i + 2 * c - 1) < x) then
      ((f_X9_act h (A 0) (sI M (A 0) 0 0)).bind fun z => some (Int32.ofNat (c + 1), sI (sI (sI z (A 1) (4848 + 40 * n + oft i + 1 + 2 * c) x) (A 1) (4848 + 40 * n + oft i + 2 + 2 * c) y) (A 1) (4848 + 40 * n + oft i) (Int32.ofNat (c + 1)))) else some (-1, sI M (A 0) 0 0) := by
  subst hz
  have s := S.s
  have q := S.e
  have ho := oft_cases hi
  have e' : zI (sI M (A 0) 0 0) (A 1) (4848 + 40 * n + oft i) = Int32.ofNat c := by simpa [zI_sI, q] using e
  have f0 : 4848 + 40 * n + oft i < 5328 := by omega
  have hm : (Int32.ofNat c = Int32.ofNat (mst i)) = (c = mst i) := i_inj (by omega) (by omega)
  have h0 : (Int32.ofNat c = 0) = (c = 0) := by rw [show (0 : Int32) = Int32.ofNat 0 from rfl, i_inj (by omega) (by omega)]
  have d1 : ¬ (1 : Int32) = 0 := by decide
  unfold f_X9_more f_X9_base
  simp only [gd, ok, dq, s, and_self, if_true, b_some, r_no hn, lt_, not_true_eq_false, if_false, d1, not_false_eq_true]
  simp (disch := omega) only [i_mulL, i_Ladd, i_add, i_inb, f0, if_true, i_nat, e', hm, h0]
  by_cases g : c = mst i
  · rw [if_pos g, if_neg (fun z => by omega)]
  · rw [if_neg g]
    have hlt : c < mst i := by omega
    have f1 : 4848 + 40 * n + oft i + 1 + 2 * c < 5328 := by omega
    have f2 : 4848 + 40 * n + oft i + 2 + 2 * c < 5328 := by omega
    by_cases g0 : c = 0
    · subst g0
      simp (disch := omega) only [not_true_eq_false, if_false, i_addL, i_inb, f1, f2, f0, if_true, i_nat, i_add, i_mulL]
      by_cases g1 : low ≤ x
      · rw [if_pos g1, if_pos ⟨hlt, g1⟩]
      · rw [if_neg g1, if_neg (fun z => g1 z.2)]
    · have f3 : 4848 + 40 * n + oft i + 2 * c - 1 < 5328 := by omega
      have e3 : zI (sI M (A 0) 0 0) (A 1) (4848 + 40 * n + oft i + 2 * c - 1) = zI M (A 1) (4848 + 40 * n + oft i + 2 * c - 1) := by simp [zI_sI, q]
      have l1 : (OfNat.ofNat 1 : Nat) ≤ 4848 + 40 * n + oft i + 2 * c := by show 1 ≤ _; omega
      simp (disch := omega) only [g0, not_false_eq_true, if_true, i_addL, i_subL, l1, i_inb, f1, f2, f3, f0, i_nat, i_add, i_mulL, if_false, e3]
      by_cases g1 : zI M (A 1) (4848 + 40 * n + oft i + 2 * c - 1) < x
      · rw [if_pos g1, if_pos ⟨hlt, g1⟩]
      · rw [if_neg g1, if_neg (fun z => g1 z.2)]
theorem r_moreB (S : Sh2 h A) {o m : Int32} (hp : ¬ (0 ≤ p ∧ p < 12)) : f_X9_more h (A 0) p o m low x y v M = some (-1, sI M (A 0) 0 0) := by
  have s := S.s
  unfold f_X9_more
  simp only [gd, ok, s, and_self, if_true, b_some, r_noB hp, lt_]
  rw [if_pos (by decide)]
theorem r_moreN (S : Sh2 h A) {o m : Int32} {z : Int32} (hz : z = 0) : f_X9_more h (A 0) p o m low x y z M = some (-1, sI M (A 0) 0 0) := by
  subst hz
  have s := S.s
  by_cases hp : 0 ≤ p ∧ p < 12
  · obtain ⟨n, hn, rfl⟩ := good12 hp
    unfold f_X9_more
    simp only [gd, ok, s, and_self, if_true, b_some, r_no hn, lt_, not_true_eq_false, if_false]
  · exact r_moreB S hp
end D
theorem bearE {v : Int32} (h1 : 1 ≤ v) (h2 : v ≤ 10000000) : ((720720000000 : Int64) - (720720000000 : Int64) / v.toInt64 * v.toInt64 = 0) = (720720000000 % v.toInt = 0) := by
  rw [Int32.le_iff_toInt_le] at h1 h2
  have e1 : (1 : Int32).toInt = 1 := by decide
  have e2 : (10000000 : Int32).toInt = 10000000 := by decide
  have e3 : (720720000000 : Int64).toInt = 720720000000 := by decide
  have e0 : (0 : Int64).toInt = 0 := by decide
  rw [e1] at h1; rw [e2] at h2
  generalize hx : v.toInt = x at *
  have hd : ((720720000000 : Int64) / v.toInt64).toInt = 720720000000 / x := by
    rw [Int64.toInt_div, e3, Int32.toInt_toInt64, hx, Int.tdiv_eq_ediv_of_nonneg (by omega)]
    have b1 : 0 ≤ (720720000000 : Int) / x := Int.ediv_nonneg (by omega) (by omega)
    have b2 : (720720000000 : Int) / x ≤ 720720000000 := Int.ediv_le_self _ (by omega)
    exact Int.bmod_eq_of_le (by omega) (by omega)
  have hdm := Int.mul_ediv_add_emod 720720000000 x
  have hm0 : 0 ≤ (720720000000 : Int) % x := Int.emod_nonneg _ (by omega)
  have hm1 : (720720000000 : Int) % x < x := Int.emod_lt_of_pos _ (by omega)
  have hp : ((720720000000 : Int64) / v.toInt64 * v.toInt64).toInt = 720720000000 / x * x := by
    rw [Int64.toInt_mul, hd, Int32.toInt_toInt64, hx]
    rw [Int.mul_comm] at hdm
    exact Int.bmod_eq_of_le (by omega) (by omega)
  rw [Int.mul_comm] at hdm
  have hs : ((720720000000 : Int64) - (720720000000 : Int64) / v.toInt64 * v.toInt64).toInt = 720720000000 % x := by
    rw [Int64.toInt_sub, e3, hp, Int.bmod_eq_of_le (by omega) (by omega)]
    omega
  apply propext
  rw [← Int64.toInt_inj, hs, e0]
section E
variable {h h1 h2 : Hs} {B A : Nat → Nat} {M M' M1 M2 : Mm} {pic : Prop} {n c i : Nat} {p x y v low : Int32} {I I' : Nat → Int32}
theorem x_bears : f_X8_isBearsAsTold h v M = some (if 1 ≤ v ∧ v ≤ 10000000 ∧ 720720000000 % v.toInt = 0 then 1 else 0) := by
  unfold f_X8_isBearsAsTold
  by_cases g1 : v < 1
  · rw [if_pos g1, if_neg fun z => Int32.not_le.mpr g1 z.1]
  · rw [if_neg g1]
    by_cases g2 : 10000000 < v
    · rw [if_pos g2, if_neg fun z => Int32.not_le.mpr g2 z.2.1]
    · have k1 := Int32.not_lt.mp g1
      have k2 := Int32.not_lt.mp g2
      have nz : ¬ v.toInt64 = 0 := fun z => by
        have := congrArg Int64.toInt z
        rw [Int32.toInt_toInt64, show (0 : Int64).toInt = 0 by decide] at this
        rw [Int32.le_iff_toInt_le, this] at k1
        exact absurd k1 (by decide)
      rw [if_neg g2, gd, if_pos nz]
      have e := bearE k1 k2
      by_cases g3 : (720720000000 : Int64) - (720720000000 : Int64) / v.toInt64 * v.toInt64 = 0
      · rw [if_neg (not_not_intro g3), if_pos ⟨k1, k2, by rw [← e]; exact g3⟩]
      · rw [if_pos g3, if_neg fun z => g3 (by rw [e]; exact z.2.2)]
end E
