/-! CALLS: damage, left -/
theorem left_key {W x t : Int} (hx : 0 < x) : ((W - x) * t + x - 1) / x = (W * t + x - 1) / x - t := by
  have e : (W - x) * t + x - 1 = (W * t + x - 1) + x * (-t) := by
    rw [Int.sub_mul, Int.mul_neg]
    generalize W * t = a
    generalize x * t = b
    omega
  rw [e, Int.add_mul_ediv_left _ _ (by omega)]
  generalize (W * t + x - 1) / x = a
  omega
theorem left_le {W x t : Int} (hx : 0 < x) (hW : W ≤ x) (ht : 0 ≤ t) : (W * t + x - 1) / x - t ≤ 0 := by
  have h1 : W * t ≤ x * t := Int.mul_le_mul_of_nonneg_right hW ht
  have h2 : (W * t + x - 1) / x < t + 1 := Int.ediv_lt_of_lt_mul hx (by
    rw [Int.add_mul, Int.one_mul, Int.mul_comm t x]
    generalize W * t = a at h1 ⊢
    generalize x * t = b at h1 ⊢
    omega)
  generalize (W * t + x - 1) / x = a at h2 ⊢
  omega
theorem l64 {m u : Int64} {N x : Int} (hN : m.toInt = N) (hu : u.toInt = x) (h0 : 0 ≤ N) (h1 : N ≤ 200000000000000000) (x0 : 0 < x) (x1 : x ≤ 1000000000000000) : ((m + u - 1) / u).toInt = (N + x - 1) / x := by
  have e1 : (1 : Int64).toInt = 1 := by decide
  have a2 : (m + u).toInt = N + x := by rw [Int64.toInt_add, hN, hu, Int.bmod_eq_of_le (by omega) (by omega)]
  have a3 : (m + u - 1).toInt = N + x - 1 := by rw [Int64.toInt_sub, a2, e1, Int.bmod_eq_of_le (by omega) (by omega)]
  have q0 : 0 ≤ (N + x - 1) / x := Int.ediv_nonneg (by omega) (by omega)
  have q1 : (N + x - 1) / x ≤ N + x - 1 := Int.ediv_le_self _ (by omega)
  rw [Int64.toInt_div, a3, hu, Int.tdiv_eq_ediv_of_nonneg (by omega)]
  generalize (N + x - 1) / x = q at q0 q1 ⊢
  exact Int.bmod_eq_of_le (by omega) (by omega)
theorem left_num {u : Int64} {D : Int32} (h0 : 0 < u.toInt) (h1 : u.toInt ≤ 400 * 1441440000000) (hD : 1 ≤ D ∧ D ≤ 100000) :
    ((((1441440000000 : Int64) * D.toInt64 + u - 1) / u) - D.toInt64).toInt = (1441440000000 * D.toInt + u.toInt - 1) / u.toInt - D.toInt ∧ (u.toInt < 1441440000000 → (((((1441440000000 : Int64) - u) * D.toInt64) + u - 1) / u).toInt = (1441440000000 * D.toInt + u.toInt - 1) / u.toInt - D.toInt ∧ 0 ≤ (1441440000000 * D.toInt + u.toInt - 1) / u.toInt - D.toInt) ∧ (1441440000000 ≤ u.toInt → (1441440000000 * D.toInt + u.toInt - 1) / u.toInt - D.toInt ≤ 0) := by
  obtain ⟨d1, d2⟩ := hD
  rw [Int32.le_iff_toInt_le, show (1 : Int32).toInt = 1 by decide] at d1
  rw [Int32.le_iff_toInt_le, show (100000 : Int32).toInt = 100000 by decide] at d2
  have eD : D.toInt64.toInt = D.toInt := Int32.toInt_toInt64 D
  have eW : (1441440000000 : Int64).toInt = 1441440000000 := by decide
  have a1 : ((1441440000000 : Int64) * D.toInt64).toInt = 1441440000000 * D.toInt := by rw [Int64.toInt_mul, eW, eD, Int.bmod_eq_of_le (by omega) (by omega)]
  have a4 := l64 a1 rfl (by omega) (by omega) h0 (by omega)
  have q0 : 0 ≤ (1441440000000 * D.toInt + u.toInt - 1) / u.toInt := Int.ediv_nonneg (by omega) (by omega)
  have q1 : (1441440000000 * D.toInt + u.toInt - 1) / u.toInt ≤ 1441440000000 * D.toInt + u.toInt - 1 := Int.ediv_le_self _ (by omega)
  refine ⟨?_, fun hx => ?_, fun hx => left_le h0 hx (by omega)⟩
  · rw [Int64.toInt_sub, a4, eD]
    generalize (1441440000000 * D.toInt + u.toInt - 1) / u.toInt = q at q0 q1 ⊢
    exact Int.bmod_eq_of_le (by omega) (by omega)
  · have p0 : 0 ≤ (1441440000000 - u.toInt) * D.toInt := Int.mul_nonneg (by omega) (by omega)
    have p1 : (1441440000000 - u.toInt) * D.toInt ≤ 1441440000000 * 100000 := Int.mul_le_mul (by omega) (by omega) (by omega) (by omega)
    have b1 : ((1441440000000 : Int64) - u).toInt = 1441440000000 - u.toInt := by rw [Int64.toInt_sub, eW, Int.bmod_eq_of_le (by omega) (by omega)]
    have b2 : (((1441440000000 : Int64) - u) * D.toInt64).toInt = (1441440000000 - u.toInt) * D.toInt := by
      rw [Int64.toInt_mul, b1, eD]
      generalize (1441440000000 - u.toInt) * D.toInt = s at p0 p1 ⊢
      exact Int.bmod_eq_of_le (by omega) (by omega)
    have b5 : (((((1441440000000 : Int64) - u) * D.toInt64) + u - 1) / u).toInt = ((1441440000000 - u.toInt) * D.toInt + u.toInt - 1) / u.toInt := l64 b2 rfl p0 (Int.le_trans p1 (by decide)) h0 (Int.le_trans h1 (by decide))
    have r0 : 0 ≤ ((1441440000000 - u.toInt) * D.toInt + u.toInt - 1) / u.toInt := Int.ediv_nonneg (by rw [Int.add_sub_assoc]; exact Int.add_nonneg p0 (by clear p0 p1 b2 b5 a4 q0 q1 a1; omega)) (by clear p0 p1 b2 b5 a4 q0 q1 a1; omega)
    have key := left_key (W := 1441440000000) (t := D.toInt) h0
    rw [b5, key]
    rw [key] at r0
    exact ⟨rfl, r0⟩
section P
variable {h h1 h2 : Hs} {B A : Nat → Nat} {M M1 M2 : Mm} {pic : Prop} {d i : Nat} {p : Nat → Int64} {a k v D : Int32}
theorem t_left (V : Inv h1 M1 h2 M2 B A pic) : Sim (f_X8_left h1 (B 0) a D M1) (f_X9_left h2 (A 0) a D M2) h1 h2 B A pic := by
  have V0 := V.t0
  have S1 := V.1
  have S2 := V.2.1
  have s := S2.s
  have q := S2.e
  obtain ⟨x0, -, x1, x2, x3, -⟩ := S1.2.1
  have o10 := S1.2.1.2.2.2.2.2.2.2.2.2.1.1
  have sb := S1.2.2.2.1
  have W := V.2.2.1
  by_cases ha : 0 ≤ a ∧ a < 12
  · obtain ⟨d, hd, rfl⟩ := good12 ha
    have wd := W.2 d hd
    unfold f_X8_left f_X9_left
    rw [gd, if_pos x0, x1, dq, gd, if_pos sb.1, x_detailAt sb hd, b_some, mq, x_within, b_some, gd, if_pos s.1, lt_, r_no hd, b_some, if_neg (not_not_intro rfl)]
    by_cases g : 1 ≤ D ∧ D ≤ 100000
    · rw [if_pos g, if_pos (show ¬ (1 : Int32) = 0 by decide), if_neg (Int32.not_lt.mpr g.1), if_pos g.2]
      unfold Sim
      rw [wp_bind]
      refine (x_reckonWear V hd).mono ?_
      rintro M1' ⟨F1, p1, l1, l2⟩
      rw [x3, wp_dq, wp_gd]
      refine ⟨o10, ?_⟩
      rw [wp_lt, l1]
      have eI : zI (sI M2 (A 0) 0 0) (A 1) = zI M2 (A 1) := funext fun j => by simp [zI_sI, q]
      have R := r_sum (M := sI M2 (A 0) 0 0) (sort := 0) S2 eI W hd
      rw [if_pos rfl] at R
      obtain ⟨b0, b1⟩ := least_bd W wd
      generalize sum7 0 (wpA (zI M2 (A 1)) d) = u at *
      have fin : ∀ (r : Int32) (M2' : Mm), FB A (fun i j => (i = 0 ∧ 11 ≤ j) ∨ 5 ≤ i) (sI M2 (A 0) 0 0) M2' → ((r, M1') : Int32 × Mm).1 = ((r, M2') : Int32 × Mm).1 ∧ Inv h1 ((r, M1') : Int32 × Mm).2 h2 ((r, M2') : Int32 × Mm).2 B A pic := fun r M2' F2 => ⟨rfl, V0.sc F1 (F2.up fun i j z => by omega)⟩
      have e0 : (0 : Int64).toInt = 0 := by decide
      have e1 : (1 : Int64).toInt = 1 := by decide
      have eW : (1441440000000 : Int64).toInt = 1441440000000 := by decide
      by_cases u0 : u = 0
      · rw [if_neg (show ¬ (1 : Int64) ≤ u by rw [u0]; decide), wp_some, wp_bind]
        refine R.mono ?_
        rintro ⟨v, M2'⟩ ⟨F2, hv⟩
        have hv : v = u := hv
        rw [if_neg (show ¬ ¬ v = 0 by rw [hv, u0]; decide), wp_some]
        exact fin _ _ F2
      · have hu0 : 0 < u.toInt := by
          have : ¬ u.toInt = 0 := fun z => u0 (Int64.toInt_inj.mp (by rw [z, e0]))
          omega
        obtain ⟨n1, n2, n3⟩ := left_num hu0 b1 g
        rw [if_pos (show (1 : Int64) ≤ u by rw [Int64.le_iff_toInt_le, e1]; omega)]
        by_cases gW : u < 1441440000000
        · obtain ⟨n4, n5⟩ := n2 (by rw [Int64.lt_iff_toInt_lt, eW] at gW; exact gW)
          rw [if_pos gW, wp_gd]
          refine ⟨u0, ?_⟩
          rw [wp_lt, wp_some, wp_bind]
          refine R.mono ?_
          rintro ⟨v, M2'⟩ ⟨F2, hv⟩
          have hv : v = u := hv
          subst hv
          rw [if_pos u0, wp_gd]
          refine ⟨u0, ?_⟩
          have same : (((((1441440000000 : Int64) - v) * D.toInt64) + v - 1) / v) = ((((1441440000000 : Int64) * D.toInt64 + v - 1) / v) - D.toInt64) := Int64.toInt_inj.mp (by rw [n4, n1])
          rw [wp_lt, same]
          show wp (if (0 : Int64) ≤ ((((1441440000000 : Int64) * D.toInt64 + v - 1) / v) - D.toInt64) then _ else _) _
          rw [if_pos (show (0 : Int64) ≤ ((((1441440000000 : Int64) * D.toInt64 + v - 1) / v) - D.toInt64) by rw [Int64.le_iff_toInt_le, e0, n1]; exact n5)]
          by_cases gm : ((((1441440000000 : Int64) * D.toInt64 + v - 1) / v) - D.toInt64) ≤ 2147483647
          · rw [if_neg (Int64.not_lt.mpr gm)]
            show wp (if ((((1441440000000 : Int64) * D.toInt64 + v - 1) / v) - D.toInt64) ≤ 2147483647 then _ else _) _
            rw [if_pos gm, wp_some]
            exact fin _ _ F2
          · rw [if_pos (Int64.not_le.mp gm)]
            show wp (if ((((1441440000000 : Int64) * D.toInt64 + v - 1) / v) - D.toInt64) ≤ 2147483647 then _ else _) _
            rw [if_neg gm, wp_some]
            exact fin _ _ F2
        · have n6 := n3 (by have := Int64.not_lt.mp gW; rw [Int64.le_iff_toInt_le, eW] at this; exact this)
          rw [if_neg gW, wp_some, wp_bind]
          refine R.mono ?_
          rintro ⟨v, M2'⟩ ⟨F2, hv⟩
          have hv : v = u := hv
          subst hv
          rw [if_pos u0, wp_gd]
          refine ⟨u0, ?_⟩
          rw [wp_lt]
          by_cases gz : (0 : Int64) ≤ ((((1441440000000 : Int64) * D.toInt64 + v - 1) / v) - D.toInt64)
          · have ez : ((((1441440000000 : Int64) * D.toInt64 + v - 1) / v) - D.toInt64) = 0 := Int64.toInt_inj.mp (by
              rw [Int64.le_iff_toInt_le, e0, n1] at gz
              rw [n1, e0]; omega)
            show wp (if (0 : Int64) ≤ ((((1441440000000 : Int64) * D.toInt64 + v - 1) / v) - D.toInt64) then (if ((((1441440000000 : Int64) * D.toInt64 + v - 1) / v) - D.toInt64) ≤ 2147483647 then some (((((1441440000000 : Int64) * D.toInt64 + v - 1) / v) - D.toInt64).toInt32, M2') else _) else _) _
            rw [ez, if_pos (by decide), if_pos (by decide), wp_some]
            exact fin _ _ F2
          · show wp (if (0 : Int64) ≤ ((((1441440000000 : Int64) * D.toInt64 + v - 1) / v) - D.toInt64) then _ else _) _
            rw [if_neg gz, wp_some]
            exact fin _ _ F2
    · rw [if_neg g, if_neg (show ¬ ¬ (0 : Int32) = 0 by decide)]
      by_cases g1 : D < 1
      · rw [if_pos g1]; exact Sim.no V0
      · rw [if_neg g1, if_neg (fun z => g ⟨Int32.not_lt.mp g1, z⟩)]; exact Sim.no V0
  · unfold f_X8_left f_X9_left
    rw [gd, if_pos x0, x1, dq, gd, if_pos sb.1, x_detailB sb ha, b_some, mq, gd, if_pos s.1, lt_, r_noB ha, b_some, if_pos (by decide)]
    exact Sim.no V0
theorem t_damage (V : Inv h1 M1 h2 M2 B A pic) : SimTJ (f_X8_damage h1 (B 0) a k v M1) (f_X9_damage h2 (A 0) a k v M2) h1 h2 B A pic := by
  have S1 := V.1
  have S2 := V.2.1
  have s := S2.s
  have q := S2.e
  obtain ⟨x0, -, x1, x2, x3, -⟩ := S1.2.1
  have o10 := S1.2.1.2.2.2.2.2.2.2.2.2.1.1
  have sb := S1.2.2.2.1
  have W := V.2.2.1
  have d1 : ¬ (1 : Int32) = 0 := by decide
  have thr : ∀ (v : Int64), SimTJ (some (none, M1)) (some (v, sI M2 (A 0) 0 1)) h1 h2 B A pic := fun v => wp_some.mpr (wp_some.mpr ⟨V.tv, by show zI _ _ _ = _; simp [zI_sI]⟩)
  have bad : SimTJ (some (none, M1)) ((f_X9_throwsIf h2 (A 0) 1 M2).bind fun z8 => if z8.1 = 0 then (f_X9_sum h2 (A 0) a k z8.2).bind fun z10 => (if ¬ v = 2 then (lp_X9_damage_76 h2 z10.1 v z10.2 fuel z10.1 1441440000000).bind fun z15 => Option.bind (if ¬ v = 0 then some (1441440000000 : Int64) else some z10.1) fun y17 => gd (¬ z15.2 = 0) (some (y17 / z15.2, z10.2)) else if z10.1 < 1441440000000 then some ((0 : Int64), z10.2) else some (1, z10.2)) else some (0, z8.2)) h1 h2 B A pic := by
    rw [r_throwsIf S2 (Or.inr rfl), b_some, if_neg d1]
    exact thr _
  by_cases ha : 0 ≤ a ∧ a < 12
  · obtain ⟨d, hd, rfl⟩ := good12 ha
    have wd := W.2 d hd
    unfold f_X8_damage f_X9_damage
    rw [gd, if_pos x0, x1, dq, gd, if_pos sb.1, x_detailAt sb hd, b_some, mq, r_no hd, b_some, if_neg (not_not_intro rfl)]
    by_cases g1 : k < 0
    · rw [if_pos g1, if_pos g1, b_some, gd, if_pos s.1]; exact bad
    · rw [if_neg g1, if_neg g1]
      by_cases g2 : 1 < k
      · rw [if_pos g2, if_pos g2, b_some, gd, if_pos s.1]; exact bad
      · rw [if_neg g2, if_neg g2]
        by_cases g3 : v < 0
        · rw [if_pos g3, if_pos g3, b_some, gd, if_pos s.1]; exact bad
        · rw [if_neg g3, if_neg g3]
          by_cases g4 : v ≤ 2
          · rw [if_pos g4, if_pos g4, b_some, gd, if_pos s.1, r_throwsIf S2 (Or.inl rfl), b_some, if_pos rfl]
            unfold SimTJ
            rw [wp_bind]
            refine (x_reckonWear V hd).mono ?_
            rintro M1' ⟨F1, p1, l1, l2⟩
            have eI : zI (sI M2 (A 0) 0 0) (A 1) = zI M2 (A 1) := funext fun j => by simp [zI_sI, q]
            have R : wp (f_X9_sum h2 (A 0) (Int32.ofNat d) k (sI M2 (A 0) 0 0)) (fun z => FB A (fun i j => (i = 0 ∧ 11 ≤ j) ∨ 5 ≤ i) (sI M2 (A 0) 0 0) z.2 ∧ z.1 = usdS (zI M2 (A 1)) d k) := r_sum S2 eI W hd
            have e12 : (if ¬ k = 0 then dq (zR h1 (B 0) 3) fun q10 => gd (ok h1 q10 7) (some (zJ M1' q10 2)) else dq (zR h1 (B 0) 3) fun q11 => gd (ok h1 q11 7) (some (zJ M1' q11 1))) = some (usdS (zI M2 (A 1)) d k) := by
              unfold usdS
              by_cases z : k = 0
              · rw [if_neg (not_not_intro z), x3, dq, gd, if_pos o10, l1, if_pos z]
              · rw [if_pos z, x3, dq, gd, if_pos o10, l2, if_neg z]
            rw [e12, b_some]
            obtain ⟨b0, -⟩ := usd_bd (sort := k) W wd
            generalize usdS (zI M2 (A 1)) d k = u at *
            have fin : ∀ (r : Int64) (M2' : Mm), FB A (fun i j => (i = 0 ∧ 11 ≤ j) ∨ 5 ≤ i) (sI M2 (A 0) 0 0) M2' → wp (some (r, M2')) (fun z' => Inv h1 ((some r, M1') : Option Int64 × Mm).2 h2 z'.2 B A pic ∧ (match ((some r, M1') : Option Int64 × Mm).1 with | some v => zI z'.2 (A 0) 0 = 0 ∧ z'.1 = v | none => zI z'.2 (A 0) 0 = 1)) := by
              intro r M2' F2
              refine wp_some.mpr ⟨V.sc F1 ((FB.rf.sI S2.2 (by omega)).tr (F2.up fun i j z => by omega)), ?_, rfl⟩
              show zI M2' (A 0) 0 = 0
              rw [F2.i (by omega)]; simp [zI_sI]
            by_cases v2 : v = 2
            · rw [if_neg (not_not_intro v2)]
              by_cases gW : u < 1441440000000
              · rw [if_pos gW, wp_some, wp_bind]
                refine R.mono ?_
                rintro ⟨w, M2'⟩ ⟨F2, hw⟩
                have hw : w = u := hw
                subst hw
                rw [if_neg (not_not_intro v2), if_pos gW]
                exact fin _ _ F2
              · rw [if_neg gW, wp_some, wp_bind]
                refine R.mono ?_
                rintro ⟨w, M2'⟩ ⟨F2, hw⟩
                have hw : w = u := hw
                subst hw
                rw [if_neg (not_not_intro v2), if_neg gW]
                exact fin _ _ F2
            · rw [if_pos v2]
              obtain ⟨g, ⟨z, k1, k2⟩, kr, k3, k4⟩ := gcd_both (h := h1) (M := M1') b0
              unfold f_X8_greatestCommonDivisor
              rw [k1, b_some, b_some, k2, if_pos k3]
              have tail : ∀ (w : Int64) (M2' : Mm), w = u → ∃ z', lp_X9_damage_76 h2 w v M2' fuel w 1441440000000 = some z' ∧ z'.2 = g := fun w M2' hw => by rw [hw]; exact kr _ _ _ _
              by_cases v0 : v = 0
              · rw [if_neg (not_not_intro v0), wp_gd]
                refine ⟨k4, ?_⟩
                rw [wp_some, wp_bind]
                refine R.mono ?_
                rintro ⟨w, M2'⟩ ⟨F2, hw⟩
                have hw : w = u := hw
                obtain ⟨z', m1, m2⟩ := tail w M2' hw
                subst hw
                rw [if_pos v2, m1, b_some, if_neg (not_not_intro v0), b_some, m2, wp_gd]
                exact ⟨k4, fin _ _ F2⟩
              · rw [if_pos v0, wp_gd]
                refine ⟨k4, ?_⟩
                rw [wp_some, wp_bind]
                refine R.mono ?_
                rintro ⟨w, M2'⟩ ⟨F2, hw⟩
                have hw : w = u := hw
                obtain ⟨z', m1, m2⟩ := tail w M2' hw
                rw [if_pos v2, m1, b_some, if_pos v0, b_some, m2, wp_gd]
                exact ⟨k4, fin _ _ F2⟩
          · rw [if_neg g4, if_neg g4, b_some, gd, if_pos s.1]; exact bad
  · unfold f_X8_damage f_X9_damage
    rw [gd, if_pos x0, x1, dq, gd, if_pos sb.1, x_detailB sb ha, b_some, mq, r_noB ha, b_some, if_pos d1, b_some, gd, if_pos s.1]
    exact bad
end P
