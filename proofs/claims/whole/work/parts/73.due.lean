/-! CALLS: due -/
theorem Rch.uniq {I : Nat → Int32} {d L t n m : Nat} (a : Rch I d L t n) (b : Rch I d L t m) : n = m := by
  rcases Nat.lt_trichotomy n m with z | z | z
  · have := b.1 n z; have := a.2; omega
  · exact z
  · have := a.1 m z; have := b.2; omega
theorem Rch.lower {I : Nat → Int32} {d L t t' n : Nat} (a : Rch I d L t n) (h : t' ≤ t) (m : Nat) (b : Rch I d L t' m) : m ≤ n := by
  refine Nat.le_of_not_lt fun z => ?_
  have := b.1 n z; have := a.2; omega
theorem nn_of {v : Int32} (h0 : 0 ≤ v) : ∃ n, n < 2147483648 ∧ v = Int32.ofNat n := by
  have := Int32.cast_toNatClampNeg v h0
  have := Int32.toInt_lt v
  exact ⟨v.toNatClampNeg, by omega, (Int32.ofNat_toNatClampNeg v h0).symm⟩
theorem i_div {a b : Nat} (ha : a < 2147483648) (hb : b < 2147483648) : Int32.ofNat a / Int32.ofNat b = Int32.ofNat (a / b) := (Int32.ofNat_div ha hb).symm
/-- the day before the second, less the days of warning -/
theorem days {a b c : Nat} (ha : a ≤ 101000) (hb : b ≤ 10000) (hc : c ≤ 101000) :
    (if (Int64.ofNat a - Int64.ofNat b) - (1 : Int64) < Int64.ofNat c then (-1 : Int32) else ((Int64.ofNat a - Int64.ofNat b) - (1 : Int64)).toInt32) = (if Int32.ofNat c ≤ (Int32.ofNat a - Int32.ofNat b) - (1 : Int32) then (Int32.ofNat a - Int32.ofNat b) - (1 : Int32) else -1) := by
  by_cases g : b + 1 ≤ a
  · rw [j_sub (by omega), show (1 : Int64) = Int64.ofNat 1 from rfl, j_sub (by omega), i_sub (by omega), i_subL (by show 1 ≤ a - b; omega), show a - b - (OfNat.ofNat 1 : Nat) = a - b - 1 from rfl, Int64.toInt32_ofNat']
    by_cases g2 : c ≤ a - b - 1
    · rw [if_neg (by rw [j_lt (by omega) (by omega)]; omega), if_pos (by rw [i_le (by omega) (by omega)]; exact g2)]
    · rw [if_pos (by rw [j_lt (by omega) (by omega)]; omega), if_neg (by rw [i_le (by omega) (by omega)]; exact g2)]
  · have e1 : (Int64.ofNat a - Int64.ofNat b - 1).toInt = (a : Int) - b - 1 := by
      have z : (Int64.ofNat a - Int64.ofNat b).toInt = (a : Int) - b := by
        rw [Int64.toInt_sub, Int64.toInt_ofNat_of_lt (by omega), Int64.toInt_ofNat_of_lt (by omega)]
        exact Int.bmod_eq_of_le (by omega) (by omega)
      rw [Int64.toInt_sub, z, show (1 : Int64).toInt = 1 by decide]
      exact Int.bmod_eq_of_le (by omega) (by omega)
    have e2 : (Int32.ofNat a - Int32.ofNat b - 1).toInt = (a : Int) - b - 1 := by
      have z : (Int32.ofNat a - Int32.ofNat b).toInt = (a : Int) - b := by
        rw [Int32.toInt_sub, i_int (by omega), i_int (by omega)]
        exact Int.bmod_eq_of_le (by omega) (by omega)
      rw [Int32.toInt_sub, z, show (1 : Int32).toInt = 1 by decide]
      exact Int.bmod_eq_of_le (by omega) (by omega)
    rw [if_pos (by rw [Int64.lt_iff_toInt_lt, e1, Int64.toInt_ofNat_of_lt (by omega)]; omega), if_neg (by rw [Int32.le_iff_toInt_le, e2, i_int (by omega)]; omega)]
section R
variable {h h1 h2 : Hs} {B A : Nat → Nat} {M M1 M2 : Mm} {pic : Prop} {d : Nat} {a p s1 s2 w : Int32}
theorem x_firstDay {n p : Nat} (hn : n ≤ 4000000000) (hp : 1 ≤ p ∧ p ≤ 1000) : f_X8_firstDayWith h (Int64.ofNat n) (Int32.ofNat p) M = some (Int64.ofNat ((n + p - 1) / p)) := by
  unfold f_X8_firstDayWith
  rw [if_pos (show (1 : Int32) ≤ Int32.ofNat p by rw [i_Lle (by omega) (by simp)]; exact hp.1), i64n (by omega), gd, if_pos (by rw [show (0 : Int64) = Int64.ofNat 0 from rfl, j_inj (by omega) (by omega)]; omega), j_add, show (1 : Int64) = Int64.ofNat 1 from rfl, j_sub (by omega), j_div (by omega) (by omega)]
theorem t_due (V : Inv h1 M1 h2 M2 B A pic) : Sim (f_X8_due h1 (B 0) a p s1 s2 w M1) (f_X9_due h2 (A 0) a p s1 s2 w M2) h1 h2 B A pic := by
  have V0 := V.t0
  have S1 := V.1
  have S2 := V.2.1
  have s := S2.s
  have q := S2.e
  obtain ⟨x0, -, x1, -⟩ := S1.2.1
  have sb := S1.2.2.2.1
  have no := Sim.no (r := -1) V0
  by_cases ha : 0 ≤ a ∧ a < 12
  · obtain ⟨d, hd, rfl⟩ := good12 ha
    have sd := sb.2.2.2.2.2.2.2.2.2.2 d hd
    have dr := V.2.2.2.2.1 d hd
    have wd := V.2.2.1.2 d hd
    have e7 : zI M1 (aD B 0 d) 7 = zI M2 (A 1) (4848 + 40 * d + 26) := dr.2.2.2.2.1
    have eI : zI (sI M2 (A 0) 0 0) (A 1) = zI M2 (A 1) := funext fun j => by simp [zI_sI, q]
    unfold f_X8_due f_X9_due
    rw [gd, if_pos x0, x1, dq, gd, if_pos sb.1, x_detailAt sb hd, b_some, mq, gd, if_pos sd.1, gd, if_pos s.1, lt_, r_no hd, b_some, if_neg (show ¬ ¬ (0 : Int32) = 0 by decide), e7, x_within, x_within]
    simp only [b_some]
    by_cases ok : ((0 ≤ s1 ∧ s1 ≤ s2) ∧ (1 ≤ p ∧ p ≤ 1000)) ∧ 1 ≤ w ∧ w ≤ 10000
    · obtain ⟨⟨⟨k1, k2⟩, k3, k4⟩, k5, k6⟩ := ok
      rw [if_neg (Int32.not_lt.mpr k1), if_neg (Int32.not_lt.mpr k2), if_pos (And.intro k3 k4), if_pos (And.intro k5 k6), if_neg (show ¬ (1 : Int32) = 0 by decide), if_pos (show ¬ (1 : Int32) = 0 by decide), if_neg (Int32.not_lt.mpr k3), if_neg (Int32.not_lt.mpr k4), if_neg (Int32.not_lt.mpr k1), if_neg (Int32.not_lt.mpr (Int32.le_trans k1 k2)), if_neg (Int32.not_lt.mpr k2), if_neg (Int32.not_lt.mpr k5), if_pos k6]
      by_cases hc : zI M2 (A 1) (4848 + 40 * d + 26) = -1
      · rw [if_pos hc, r_lengthN S2 hd (by rw [eI]; exact hc), b_some, if_neg (show ¬ (0 : Int32) ≤ -1 by decide)]
        exact no
      · rw [if_neg hc]
        unfold Sim
        rw [wp_bind]
        refine (x_crackLength V hd hc).mono ?_
        rintro ⟨v1, M1'⟩ ⟨F1, e1⟩
        have F1 : FB B (fun i _ => 3 ≤ i ∧ i ≤ 15) M1 M1' := F1
        have e1 : v1 = Int32.ofNat (lenS (zI M2 (A 1)) d) := e1
        subst e1
        have hL := lenS_le wd hc
        obtain ⟨t1, ht1, rfl⟩ := nn_of k1
        obtain ⟨t2, ht2, rfl⟩ := nn_of (Int32.le_trans k1 k2)
        rw [i_le ht1 ht2] at k2
        obtain ⟨p, hp, rfl⟩ := i_of (n := 1001) (v := p) (Int32.le_trans (by decide) k3) (Int32.lt_of_le_of_lt k4 (by decide)) (by omega)
        obtain ⟨w, hw, rfl⟩ := i_of (n := 10001) (v := w) (Int32.le_trans (by decide) k5) (Int32.lt_of_le_of_lt k6 (by decide)) (by omega)
        rw [i_Lle (by omega) (by simp)] at k3
        have k3 : 1 ≤ p := k3
        have dr1 : DR M1' B 0 d (zI M2 (A 1)) d := dr.fb F1 fun i j => by omega
        obtain ⟨v2, u2, u2'⟩ := x_cyclesUntil (tgt := t1) (M := M1') sd wd dr1 hL ht1
        obtain ⟨v3, u3, u3'⟩ := x_cyclesUntil (tgt := t2) (M := M1') sd wd dr1 hL ht2
        have L := r_lengthOf (M := sI M2 (A 0) 0 0) S2 eI V.2.2.1 hd hc
        obtain ⟨⟨v4, M2'⟩, ez, F2, e2⟩ := L
        have F2 : FB A (fun i j => (i = 0 ∧ 11 ≤ j) ∨ 5 ≤ i) (sI M2 (A 0) 0 0) M2' := F2
        have e2 : v4 = Int32.ofNat (lenS (zI M2 (A 1)) d) := e2
        subst e2
        have eI2 : zI M2' (A 1) = zI M2 (A 1) := by rw [← eI]; exact funext fun j => F2.i (by omega)
        obtain ⟨v5, u5, u5'⟩ := r_cyclesTo (tgt := t2) (M := M2') S2 hd (by rw [eI2]; exact wd) hL ht2
        obtain ⟨v6, u6, u6'⟩ := r_cyclesTo (tgt := t1) (M := M2') S2 hd (by rw [eI2]; exact wd) hL ht1
        rw [eI2] at u5' u6'
        have fin : ∀ r : Int32, wp (some (r, M1')) fun z => wp (some (r, M2')) fun z' => z.1 = z'.1 ∧ Inv h1 z.2 h2 z'.2 B A pic := fun r => wp_some.mpr (wp_some.mpr ⟨rfl, V.sc F1 ((FB.rf.sI S2.2 (by omega)).tr (F2.up fun i j z => by omega))⟩)
        rw [ez, b_some]
        rw [if_pos (show (0 : Int32) ≤ Int32.ofNat (lenS (zI M2 (A 1)) d) by rw [i_Lle (by omega) (by simp)]; exact Nat.zero_le _)]
        simp only []
        rw [u2, b_some, u3, b_some, u5, b_some]
        -- whether the second is reached in time
        have m1 : (-1 : Int64) < 0 := by decide
        have m2 : ¬ (0 : Int32) ≤ -1 := by decide
        have nz : ∀ c, c ≤ 4000000000 → ¬ Int64.ofNat c < 0 := fun c hc' => by rw [show (0 : Int64) = Int64.ofNat 0 from rfl, j_lt (by omega) (by omega)]; omega
        rcases u5' with ⟨rfl, no5⟩ | ⟨n4, hn4, rfl, R4⟩
        · rw [if_neg m2]
          rcases u3' with ⟨rfl, -⟩ | ⟨c4, hc4, rfl, R4⟩
          · rw [if_pos m1]
            split <;> exact fin _
          · rw [if_neg (nz c4 hc4), if_neg (show ¬ Int64.ofNat c4 ≤ 100000 by
              rw [show (100000 : Int64) = Int64.ofNat 100000 from rfl, j_le (by omega) (by omega)]
              intro z
              have := no5 c4 z; have := R4.2; omega)]
            split <;> exact fin _
        · have e4 : v3 = Int64.ofNat n4 := by
            rcases u3' with ⟨-, no3⟩ | ⟨c4, hc4, e, R4'⟩
            · have := no3 n4; have := R4.2; omega
            · rw [e, Rch.uniq R4 R4']
          subst e4
          obtain ⟨n3, hn3, e3, e6⟩ : ∃ n3, n3 ≤ 100000 ∧ v2 = Int64.ofNat n3 ∧ v6 = Int32.ofNat n3 := by
            rcases u6' with ⟨-, no6⟩ | ⟨n3, hn3, e6, R3⟩
            · have := no6 n4 hn4; have := R4.2; omega
            · refine ⟨n3, hn3, ?_, e6⟩
              rcases u2' with ⟨-, no2⟩ | ⟨c3, hc3, e, R3'⟩
              · have := no2 n3; have := R3.2; omega
              · rw [e, Rch.uniq R3 R3']
          subst e3 e6
          have k3' : (OfNat.ofNat 1 : Nat) ≤ n3 + p := by show 1 ≤ n3 + p; omega
          have k4' : (OfNat.ofNat 1 : Nat) ≤ n4 + p := by show 1 ≤ n4 + p; omega
          have pz : ¬ Int32.ofNat p = 0 := by rw [show (0 : Int32) = Int32.ofNat 0 from rfl, i_inj (by omega) (by omega)]; omega
          have q3 : (n3 + p - 1) / p ≤ 101000 := Nat.le_trans (Nat.div_le_self _ _) (by omega)
          have q4 : (n4 + p - 1) / p ≤ 101000 := Nat.le_trans (Nat.div_le_self _ _) (by omega)
          rw [if_neg (nz n3 (by omega)), if_neg (nz n4 (by omega)), if_pos (show Int64.ofNat n4 ≤ 100000 by rw [show (100000 : Int64) = Int64.ofNat 100000 from rfl, j_le (by omega) (by omega)]; exact hn4), x_firstDay (by omega) ⟨k3, by omega⟩, b_some, lt_, x_firstDay (by omega) ⟨k3, by omega⟩, b_some, if_pos (show (0 : Int32) ≤ Int32.ofNat n4 by rw [i_Lle (by omega) (by simp)]; exact Nat.zero_le _), u6, b_some]
          simp only [gd, lt_]
          rw [if_pos pz, if_pos pz, i_add, i_add, i_subL k3', i_subL k4', show n3 + p - (OfNat.ofNat 1 : Nat) = n3 + p - 1 from rfl, show n4 + p - (OfNat.ofNat 1 : Nat) = n4 + p - 1 from rfl, i_div (by omega) (by omega), i_div (by omega) (by omega), i64n (show w < 2147483648 by omega)]
          have D := days (a := (n4 + p - 1) / p) (b := w) (c := (n3 + p - 1) / p) q4 (by omega) q3
          generalize (n4 + p - 1) / p = A4 at D q4 ⊢
          generalize (n3 + p - 1) / p = A3 at D q3 ⊢
          rw [show ∀ (c : Prop) [Decidable c] (x y : Int32), (if c then some (x, M1') else some (y, M1')) = some ((if c then x else y), M1') from fun c _ x y => by split <;> rfl, show ∀ (c : Prop) [Decidable c] (x y : Int32), (if c then some (x, M2') else some (y, M2')) = some ((if c then x else y), M2') from fun c _ x y => by split <;> rfl, D]
          exact fin _
    · -- what is out of its bounds
      have e1 : ∀ (K : Option (Int32 × Mm)), (if zI M2 (A 1) (4848 + 40 * d + 26) = -1 then some ((-1 : Int32), M1) else if s1 < 0 then some (-1, M1) else if s2 < s1 then some (-1, M1) else if (if (1 : Int32) ≤ p ∧ p ≤ 1000 then (1 : Int32) else 0) = 0 then some (-1, M1) else if ¬ (if (1 : Int32) ≤ w ∧ w ≤ 10000 then (1 : Int32) else 0) = 0 then K else some (-1, M1)) = some (-1, M1) := by
        intro K
        split
        · rfl
        · split
          · rfl
          · next g1 =>
            split
            · rfl
            · next g2 =>
              by_cases g3 : 1 ≤ p ∧ p ≤ 1000
              · rw [if_pos g3, if_neg (show ¬ (1 : Int32) = 0 by decide)]
                by_cases g4 : 1 ≤ w ∧ w ≤ 10000
                · exact absurd ⟨⟨⟨Int32.not_lt.mp g1, Int32.not_lt.mp g2⟩, g3⟩, g4⟩ ok
                · rw [if_neg g4, if_neg (show ¬ ¬ (0 : Int32) = 0 by decide)]
              · rw [if_neg g3, if_pos rfl]
      have e2 : ∀ (K : Option (Int32 × Mm)), (if p < 1 then some ((-1 : Int32), sI M2 (A 0) 0 0) else if 1000 < p then some (-1, sI M2 (A 0) 0 0) else if s1 < 0 then some (-1, sI M2 (A 0) 0 0) else if s2 < 0 then some (-1, sI M2 (A 0) 0 0) else if s2 < s1 then some (-1, sI M2 (A 0) 0 0) else if w < 1 then some (-1, sI M2 (A 0) 0 0) else if w ≤ 10000 then K else some (-1, sI M2 (A 0) 0 0)) = some (-1, sI M2 (A 0) 0 0) := by
        intro K
        by_cases g1 : p < 1
        · rw [if_pos g1]
        · rw [if_neg g1]
          by_cases g2 : 1000 < p
          · rw [if_pos g2]
          · rw [if_neg g2]
            by_cases g3 : s1 < 0
            · rw [if_pos g3]
            · rw [if_neg g3]
              by_cases g4 : s2 < 0
              · rw [if_pos g4]
              · rw [if_neg g4]
                by_cases g5 : s2 < s1
                · rw [if_pos g5]
                · rw [if_neg g5]
                  by_cases g6 : w < 1
                  · rw [if_pos g6]
                  · rw [if_neg g6]
                    by_cases g7 : w ≤ 10000
                    · exact absurd ⟨⟨⟨Int32.not_lt.mp g3, Int32.not_lt.mp g5⟩, Int32.not_lt.mp g1, Int32.not_lt.mp g2⟩, Int32.not_lt.mp g6, g7⟩ ok
                    · rw [if_neg g7]
      rw [e1, e2]
      exact no
  · unfold f_X8_due f_X9_due
    rw [gd, if_pos x0, x1, dq, gd, if_pos sb.1, x_detailB sb ha, b_some, mq, gd, if_pos s.1, lt_, r_noB ha, b_some, if_pos (show ¬ (1 : Int32) = 0 by decide)]
    exact no
end R
