/-! CALLS: bound, mean, step: done -/
theorem bind_eta (x : Option (Int32 × Mm)) : (x.bind fun z => some (z.1, z.2)) = x := by cases x <;> rfl
theorem pos1 {x : Int32} (h : 0 < x) : 1 ≤ x := by
  rw [Int32.lt_iff_toInt_lt, show (0 : Int32).toInt = 0 by decide] at h
  rw [Int32.le_iff_toInt_le, show (1 : Int32).toInt = 1 by decide]
  omega
section E
variable {h h1 h2 : Hs} {B A : Nat → Nat} {M M' M1 M2 : Mm} {pic : Prop} {n c i : Nat} {p x y v low : Int32} {I I' : Nat → Int32}
theorem WFd.add0 (w : WFd I n) (e : I (4848 + 40 * n + 2) = Int32.ofNat c) (hc : c < 6) (a : Add1 I I' (4848 + 40 * n + 2) c x y) (hT : 1 ≤ x ∧ 1 ≤ y ∧ y ≤ 10000000 ∧ 720720000000 % y.toInt = 0) : WFd I' n := by
  obtain ⟨w1, w2, w3, w4, w5, w6, w7, w8, w9⟩ := w
  have a4 := a.2.2.2
  have h' : ∀ k, (k < 4848 + 40 * n + 2 ∨ 4848 + 40 * n + 15 ≤ k) → I' k = I k := fun k hk => a4 k (by omega) (by omega) (by omega)
  unfold WFd
  rw [h' (4848 + 40 * n) (by omega), h' (4848 + 40 * n + 1) (by omega), h' (4848 + 40 * n + 24) (by omega), h' (4848 + 40 * n + 25) (by omega), h' (4848 + 40 * n + 26) (by omega), h' (4848 + 40 * n + 27) (by omega)]
  refine ⟨w1, w2, w3.add (by omega) e hc a (fun _ _ _ _ z => z) hT, w4.cg (fun i a b => h' i (by omega)) fun _ _ _ _ z => z, w5, w6, w7, w8, w9.cg (fun i a b => h' i (by omega)) fun j t v hj z => ?_⟩
  refine ⟨z.1, z.2.1, z.2.2.1, fun h0 => ?_⟩
  rw [h' _ (by omega)]
  exact z.2.2.2 h0
theorem WFd.add1 (w : WFd I n) (e : I (4848 + 40 * n + 15) = Int32.ofNat c) (hc : c < 4) (a : Add1 I I' (4848 + 40 * n + 15) c x y) (hT : 10 ≤ y ∧ y ≤ 400) : WFd I' n := by
  obtain ⟨w1, w2, w3, w4, w5, w6, w7, w8, w9⟩ := w
  have a4 := a.2.2.2
  have h' : ∀ k, (k < 4848 + 40 * n + 15 ∨ 4848 + 40 * n + 24 ≤ k) → I' k = I k := fun k hk => a4 k (by omega) (by omega) (by omega)
  unfold WFd
  rw [h' (4848 + 40 * n) (by omega), h' (4848 + 40 * n + 1) (by omega), h' (4848 + 40 * n + 24) (by omega), h' (4848 + 40 * n + 25) (by omega), h' (4848 + 40 * n + 26) (by omega), h' (4848 + 40 * n + 27) (by omega)]
  refine ⟨w1, w2, w3.cg (fun i a b => h' i (by omega)) fun _ _ _ _ z => z, w4.add (by omega) e hc a (fun _ _ _ _ z => z) hT, w5, w6, w7, w8, w9.cg (fun i a b => h' i (by omega)) fun j t v hj z => ?_⟩
  refine ⟨z.1, z.2.1, z.2.2.1, fun h0 => ?_⟩
  rw [h' _ (by omega)]
  exact z.2.2.2 h0
theorem WFd.add2 (w : WFd I n) (e : I (4848 + 40 * n + 28) = Int32.ofNat c) (hc : c < 4) (a : Add1 I I' (4848 + 40 * n + 28) c x y) (hT : 0 ≤ x ∧ 0 ≤ y ∧ y ≤ 1000000 ∧ (0 < c → I (4848 + 40 * n + 28 + 1 + 2 * (c - 1)) < x)) : WFd I' n := by
  obtain ⟨w1, w2, w3, w4, w5, w6, w7, w8, w9⟩ := w
  have a4 := a.2.2.2
  have h' : ∀ k, k < 4848 + 40 * n + 28 → I' k = I k := fun k hk => a4 k (by omega) (by omega) (by omega)
  unfold WFd
  rw [h' (4848 + 40 * n) (by omega), h' (4848 + 40 * n + 1) (by omega), h' (4848 + 40 * n + 24) (by omega), h' (4848 + 40 * n + 25) (by omega), h' (4848 + 40 * n + 26) (by omega), h' (4848 + 40 * n + 27) (by omega)]
  refine ⟨w1, w2, w3.cg (fun i a b => h' i (by omega)) fun _ _ _ _ z => z, w4.cg (fun i a b => h' i (by omega)) fun _ _ _ _ z => z, w5, w6, w7, w8, w9.add (by omega) e hc a (fun j t v hj z => ?_) ⟨hT.1, hT.2.1, hT.2.2.1, fun h0 => ?_⟩⟩
  · refine ⟨z.1, z.2.1, z.2.2.1, fun h0 => ?_⟩
    rw [a4 _ (by omega) (by omega) (by omega)]
    exact z.2.2.2 h0
  · rw [a4 _ (by omega) (by omega) (by omega)]
    exact hT.2.2.2 h0
theorem t_bound (V : Inv h1 M1 h2 M2 B A pic) : Sim (f_X8_bound h1 (B 0) p x y M1) (f_X9_bound h2 (A 0) p x y M2) h1 h2 B A pic := by
  have V0 := V.t0
  have S1 := V.1
  have S2 := V.2.1
  have s := S2.s
  obtain ⟨x0, -, x1, -⟩ := S1.2.1
  have sb := S1.2.2.2.1
  have eR : f_X9_bound h2 (A 0) p x y M2 = (f_X9_more h2 (A 0) p 2 6 1 x y (if 1 ≤ y ∧ y ≤ 10000000 ∧ 720720000000 % y.toInt = 0 then 1 else 0) M2) := by
    show ((f_X8_isBearsAsTold h2 y M2).bind fun y5 => gd (ok h2 (A 0) 9) ((f_X9_more h2 (A 0) p 2 6 1 x y y5 M2).bind fun z6 => some (z6.1, z6.2))) = _
    rw [x_bears, b_some, gd, if_pos s.1]
    exact bind_eta _
  rw [eR]
  by_cases hp : 0 ≤ p ∧ p < 12
  · obtain ⟨n, hn, rfl⟩ := good12 hp
    have sd := sb.2.2.2.2.2.2.2.2.2.2 n hn
    have w := V.2.2.1.2 n hn
    obtain ⟨c, hc, ec, hj⟩ := w.2.2.1
    have d := V.2.2.2.2.1 n hn
    have ea := sd.2.1 0 (by omega)
    have sl := sd.2.2 0 (by omega)
    have hcnt : zI M1 (aL B 0 n 0) 2 = Int32.ofNat c := ((d.2.2.2.2.2.2 0 (by omega)).1).trans ec
    unfold f_X8_bound
    simp only [gd, ok, x0, x1, dq, sb.1, and_self, if_true, x_detailAt sb hn, b_some, mq, x_bears, sd.1, ea, sl.1, x_takes sl (by decide) hcnt hc]
    by_cases g2 : 1 ≤ y ∧ y ≤ 10000000 ∧ 720720000000 % y.toInt = 0
    · rw [if_pos g2]
      have R := r_more (i := 0) (low := 1) (x := x) (y := y) S2 hn (by omega) (show zI M2 (A 1) (4848 + 40 * n + oft 0) = Int32.ofNat c from ec) (show c ≤ mst 0 from hc) (z := 1) rfl
      rw [show f_X9_more h2 (A 0) (Int32.ofNat n) 2 6 1 x y 1 M2 = _ from R]
      by_cases g1 : x ≤ 0
      · rw [if_pos g1, if_neg ?_]
        · exact Sim.no V0
        · rintro ⟨k1, k2⟩
          by_cases c0 : c = 0
          · rw [if_pos c0] at k2
            exact absurd (Int32.le_trans k2 g1) (by decide)
          · rw [if_neg c0] at k2
            have t := (hj (c - 1) (by omega)).1
            have ei : 4848 + 40 * n + oft 0 + 2 * c - 1 = 4848 + 40 * n + 2 + 1 + 2 * (c - 1) := by show 4848 + 40 * n + 2 + 2 * c - 1 = _; omega
            rw [ei] at k2
            exact absurd (Int32.lt_of_le_of_lt t (Int32.lt_of_lt_of_le k2 g1)) (by decide)
      · rw [if_neg g1, if_neg (by decide)]
        have lT : ∀ j, j < c → zI M1 (aT B 0 n 0) j = zI M2 (A 1) (4848 + 40 * n + 2 + 1 + 2 * j) := fun j hj => ((d.2.2.2.2.2.2 0 (by omega)).2 j (by rw [show zI M2 (A 1) (4848 + 40 * n + oft 0) = Int32.ofNat c from ec, i_nat (by omega)]; exact hj)).1
        have cond : (c < mst 0 ∧ (c = 0 ∨ zI M1 (aT B 0 n 0) (c - 1) < x)) = (c < mst 0 ∧ (if c = 0 then 1 ≤ x else zI M2 (A 1) (4848 + 40 * n + oft 0 + 2 * c - 1) < x)) := by
          by_cases c0 : c = 0
          · rw [if_pos c0]
            have : 1 ≤ x := pos1 (Int32.not_le.mp g1)
            simp [c0, this]
          · rw [if_neg c0, lT (c - 1) (by omega), show 4848 + 40 * n + oft 0 + 2 * c - 1 = 4848 + 40 * n + 2 + 1 + 2 * (c - 1) by show 4848 + 40 * n + 2 + 2 * c - 1 = _; omega]
            simp [c0]
        simp only [cond]
        by_cases g3 : c < mst 0 ∧ (if c = 0 then 1 ≤ x else zI M2 (A 1) (4848 + 40 * n + oft 0 + 2 * c - 1) < x)
        · rw [if_pos g3, if_pos g3, if_pos (by decide)]
          have V0' : zI (sI M2 (A 0) 0 0) (A 1) = zI M2 (A 1) := funext fun j => by simp [zI_sI, S2.e]
          refine t_more V0 hn (by omega) (by rw [V0']; exact ec) g3.1 (fun I' a => ?_)
          refine WFd.add0 (by rw [← V0'] at w; exact w) (by rw [V0']; exact ec) g3.1 a ⟨?_, g2⟩
          exact pos1 (Int32.not_le.mp g1)
        · rw [if_neg g3, if_neg g3, if_neg (by decide)]
          exact Sim.no V0
    · rw [if_neg g2, r_moreN S2 rfl]
      by_cases g1 : x ≤ 0
      · rw [if_pos g1]; exact Sim.no V0
      · rw [if_neg g1, if_pos rfl]; exact Sim.no V0
  · rw [r_moreB S2 hp]
    unfold f_X8_bound
    simp only [gd, ok, x0, x1, dq, sb.1, and_self, if_true, x_detailB sb hp, b_some, mq]
    exact Sim.no V0
theorem t_mean (V : Inv h1 M1 h2 M2 B A pic) : Sim (f_X8_mean h1 (B 0) p x y M1) (f_X9_mean h2 (A 0) p x y M2) h1 h2 B A pic := by
  have V0 := V.t0
  have S1 := V.1
  have S2 := V.2.1
  have s := S2.s
  obtain ⟨x0, -, x1, -⟩ := S1.2.1
  have sb := S1.2.2.2.1
  have eR : f_X9_mean h2 (A 0) p x y M2 = (f_X9_more h2 (A 0) p 15 4 (-2147483648) x y (if 10 ≤ y ∧ y ≤ 400 then 1 else 0) M2) := by
    unfold f_X9_mean
    have e : (if y < 10 then some (0 : Int32) else if 400 < y then some 0 else some 1) = some (if 10 ≤ y ∧ y ≤ 400 then 1 else 0) := by
      by_cases g1 : y < 10
      · rw [if_pos g1, if_neg fun z => Int32.not_le.mpr g1 z.1]
      · rw [if_neg g1]
        by_cases g2 : 400 < y
        · rw [if_pos g2, if_neg fun z => Int32.not_le.mpr g2 z.2]
        · rw [if_neg g2, if_pos ⟨Int32.not_lt.mp g1, Int32.not_lt.mp g2⟩]
    rw [e, b_some, gd, if_pos s.1]
    exact bind_eta _
  rw [eR]
  by_cases hp : 0 ≤ p ∧ p < 12
  · obtain ⟨n, hn, rfl⟩ := good12 hp
    have sd := sb.2.2.2.2.2.2.2.2.2.2 n hn
    have w := V.2.2.1.2 n hn
    obtain ⟨c, hc, ec, hj⟩ := w.2.2.2.1
    have d := V.2.2.2.2.1 n hn
    have ea := sd.2.1 1 (by omega)
    have sl := sd.2.2 1 (by omega)
    have hcnt : zI M1 (aL B 0 n 1) 2 = Int32.ofNat c := ((d.2.2.2.2.2.2 1 (by omega)).1).trans ec
    unfold f_X8_mean
    simp only [gd, ok, x0, x1, dq, sb.1, and_self, if_true, x_detailAt sb hn, b_some, mq, x_within, sd.1, ea, sl.1, x_takes sl (by decide) hcnt hc]
    by_cases g2 : 10 ≤ y ∧ y ≤ 400
    · rw [if_pos g2]
      have R := r_more (i := 1) (low := -2147483648) (x := x) (y := y) S2 hn (by omega) (show zI M2 (A 1) (4848 + 40 * n + oft 1) = Int32.ofNat c from ec) (show c ≤ mst 1 from hc) (z := 1) rfl
      rw [show f_X9_more h2 (A 0) (Int32.ofNat n) 15 4 (-2147483648) x y 1 M2 = _ from R]
      rw [if_neg (by decide)]
      have lT : ∀ j, j < c → zI M1 (aT B 0 n 1) j = zI M2 (A 1) (4848 + 40 * n + 15 + 1 + 2 * j) := fun j hj => ((d.2.2.2.2.2.2 1 (by omega)).2 j (by rw [show zI M2 (A 1) (4848 + 40 * n + oft 1) = Int32.ofNat c from ec, i_nat (by omega)]; exact hj)).1
      have low1 : (-2147483648 : Int32) ≤ x := by
        rw [Int32.le_iff_toInt_le, show (-2147483648 : Int32).toInt = -2147483648 by decide]
        have := Int32.le_toInt x
        omega
      have cond : (c < mst 1 ∧ (c = 0 ∨ zI M1 (aT B 0 n 1) (c - 1) < x)) = (c < mst 1 ∧ (if c = 0 then -2147483648 ≤ x else zI M2 (A 1) (4848 + 40 * n + oft 1 + 2 * c - 1) < x)) := by
        by_cases c0 : c = 0
        · rw [if_pos c0]
          simp [c0, low1]
        · rw [if_neg c0, lT (c - 1) (by omega), show 4848 + 40 * n + oft 1 + 2 * c - 1 = 4848 + 40 * n + 15 + 1 + 2 * (c - 1) by show 4848 + 40 * n + 15 + 2 * c - 1 = _; omega]
          simp [c0]
      simp only [cond]
      by_cases g3 : c < mst 1 ∧ (if c = 0 then -2147483648 ≤ x else zI M2 (A 1) (4848 + 40 * n + oft 1 + 2 * c - 1) < x)
      · rw [if_pos g3, if_pos g3, if_pos (by decide)]
        have V0' : zI (sI M2 (A 0) 0 0) (A 1) = zI M2 (A 1) := funext fun j => by simp [zI_sI, S2.e]
        refine t_more V0 hn (by omega) (by rw [V0']; exact ec) g3.1 (fun I' a => ?_)
        exact WFd.add1 (by rw [← V0'] at w; exact w) (by rw [V0']; exact ec) g3.1 a g2
      · rw [if_neg g3, if_neg g3, if_neg (by decide)]
        exact Sim.no V0
    · rw [if_neg g2, r_moreN S2 rfl, if_pos rfl]
      exact Sim.no V0
  · rw [r_moreB S2 hp]
    unfold f_X8_mean
    simp only [gd, ok, x0, x1, dq, sb.1, and_self, if_true, x_detailB sb hp, b_some, mq]
    exact Sim.no V0
theorem t_step (V : Inv h1 M1 h2 M2 B A pic) : Sim (f_X8_step h1 (B 0) p x y M1) (f_X9_step h2 (A 0) p x y M2) h1 h2 B A pic := by
  have V0 := V.t0
  have S1 := V.1
  have S2 := V.2.1
  have s := S2.s
  obtain ⟨x0, -, x1, -⟩ := S1.2.1
  have sb := S1.2.2.2.1
  have eR : f_X9_step h2 (A 0) p x y M2 = (f_X9_more h2 (A 0) p 28 4 0 x y (if 0 ≤ y ∧ y ≤ 1000000 then 1 else 0) M2) := by
    unfold f_X9_step
    have e : (if y < 0 then some (0 : Int32) else if 1000000 < y then some 0 else some 1) = some (if 0 ≤ y ∧ y ≤ 1000000 then 1 else 0) := by
      by_cases g1 : y < 0
      · rw [if_pos g1, if_neg fun z => Int32.not_le.mpr g1 z.1]
      · rw [if_neg g1]
        by_cases g2 : 1000000 < y
        · rw [if_pos g2, if_neg fun z => Int32.not_le.mpr g2 z.2]
        · rw [if_neg g2, if_pos ⟨Int32.not_lt.mp g1, Int32.not_lt.mp g2⟩]
    rw [e, b_some, gd, if_pos s.1]
    exact bind_eta _
  rw [eR]
  by_cases hp : 0 ≤ p ∧ p < 12
  · obtain ⟨n, hn, rfl⟩ := good12 hp
    have sd := sb.2.2.2.2.2.2.2.2.2.2 n hn
    have w := V.2.2.1.2 n hn
    obtain ⟨c, hc, ec, hj⟩ := w.2.2.2.2.2.2.2.2
    have d := V.2.2.2.2.1 n hn
    have ea := sd.2.1 2 (by omega)
    have sl := sd.2.2 2 (by omega)
    have hcnt : zI M1 (aL B 0 n 2) 2 = Int32.ofNat c := ((d.2.2.2.2.2.2 2 (by omega)).1).trans ec
    unfold f_X8_step
    simp only [gd, ok, x0, x1, dq, sb.1, and_self, if_true, x_detailAt sb hn, b_some, mq, x_within, sd.1, ea, sl.1, x_takes sl (by decide) hcnt hc]
    by_cases g2 : 0 ≤ y ∧ y ≤ 1000000
    · rw [if_pos g2]
      have R := r_more (i := 2) (low := 0) (x := x) (y := y) S2 hn (by omega) (show zI M2 (A 1) (4848 + 40 * n + oft 2) = Int32.ofNat c from ec) (show c ≤ mst 2 from hc) (z := 1) rfl
      rw [show f_X9_more h2 (A 0) (Int32.ofNat n) 28 4 0 x y 1 M2 = _ from R]
      by_cases g1 : x < 0
      · rw [if_pos g1, if_neg ?_]
        · exact Sim.no V0
        · rintro ⟨k1, k2⟩
          by_cases c0 : c = 0
          · rw [if_pos c0] at k2
            exact Int32.not_le.mpr g1 k2
          · rw [if_neg c0] at k2
            have t := (hj (c - 1) (by omega)).1
            have ei : 4848 + 40 * n + oft 2 + 2 * c - 1 = 4848 + 40 * n + 28 + 1 + 2 * (c - 1) := by show 4848 + 40 * n + 28 + 2 * c - 1 = _; omega
            rw [ei] at k2
            exact absurd (Int32.lt_of_le_of_lt t (Int32.lt_trans k2 g1)) (by decide)
      · rw [if_neg g1, if_neg (by decide)]
        have lT : ∀ j, j < c → zI M1 (aT B 0 n 2) j = zI M2 (A 1) (4848 + 40 * n + 28 + 1 + 2 * j) := fun j hj => ((d.2.2.2.2.2.2 2 (by omega)).2 j (by rw [show zI M2 (A 1) (4848 + 40 * n + oft 2) = Int32.ofNat c from ec, i_nat (by omega)]; exact hj)).1
        have cond : (c < mst 2 ∧ (c = 0 ∨ zI M1 (aT B 0 n 2) (c - 1) < x)) = (c < mst 2 ∧ (if c = 0 then 0 ≤ x else zI M2 (A 1) (4848 + 40 * n + oft 2 + 2 * c - 1) < x)) := by
          by_cases c0 : c = 0
          · rw [if_pos c0]
            have : 0 ≤ x := Int32.not_lt.mp g1
            simp [c0, this]
          · rw [if_neg c0, lT (c - 1) (by omega), show 4848 + 40 * n + oft 2 + 2 * c - 1 = 4848 + 40 * n + 28 + 1 + 2 * (c - 1) by show 4848 + 40 * n + 28 + 2 * c - 1 = _; omega]
            simp [c0]
        simp only [cond]
        by_cases g3 : c < mst 2 ∧ (if c = 0 then 0 ≤ x else zI M2 (A 1) (4848 + 40 * n + oft 2 + 2 * c - 1) < x)
        · rw [if_pos g3, if_pos g3, if_pos (by decide)]
          have V0' : zI (sI M2 (A 0) 0 0) (A 1) = zI M2 (A 1) := funext fun j => by simp [zI_sI, S2.e]
          refine t_more V0 hn (by omega) (by rw [V0']; exact ec) g3.1 (fun I' a => ?_)
          refine WFd.add2 (by rw [← V0'] at w; exact w) (by rw [V0']; exact ec) g3.1 a ⟨Int32.not_lt.mp g1, g2.1, g2.2, fun h0 => ?_⟩
          have g4 := g3.2
          rw [if_neg (by omega), show 4848 + 40 * n + oft 2 + 2 * c - 1 = 4848 + 40 * n + 28 + 1 + 2 * (c - 1) by show 4848 + 40 * n + 28 + 2 * c - 1 = _; omega] at g4
          rw [V0']; exact g4
        · rw [if_neg g3, if_neg g3, if_neg (by decide)]
          exact Sim.no V0
    · rw [if_neg g2, r_moreN S2 rfl]
      by_cases g1 : x < 0
      · rw [if_pos g1]; exact Sim.no V0
      · rw [if_neg g1, if_pos rfl]; exact Sim.no V0
  · rw [r_moreB S2 hp]
    unfold f_X8_step
    simp only [gd, ok, x0, x1, dq, sb.1, and_self, if_true, x_detailB sb hp, b_some, mq]
    exact Sim.no V0
end E
