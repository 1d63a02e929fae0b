/-! CRACKS: both sides count the cycles -/
theorem j_inj {a b : Nat} (ha : a < 9223372036854775808) (hb : b < 9223372036854775808) : (Int64.ofNat a = Int64.ofNat b) = (a = b) := by
  apply propext
  rw [← Int64.toInt_inj, Int64.toInt_ofNat_of_lt ha, Int64.toInt_ofNat_of_lt hb]; omega
def CI (I : Nat → Int32) (d L tgt i r c : Nat) : Prop := r ≤ 1002000000 ∧ c ≤ i * 1000000000 ∧ ((tgt ≤ r ∧ Rch I d L tgt c) ∨ (r < tgt ∧ itL I d L c = r ∧ (∀ j, j < i → tpN I d j < r) ∧ (i < spC I d ∨ spC I d = 0)))
section U
variable {h : Hs} {B A : Nat → Nat} {M : Mm} {I : Nat → Int32} {d L tgt : Nat}
theorem x_cyclesUntil (sd : DtA h B 0 d) (w : WFd I d) (dr : DR M B 0 d I d) (hL : L ≤ 1000000000) (ht : tgt < 2147483648) :
    ∃ v, f_X2_cyclesUntil h (aD B 0 d) (Int32.ofNat L) (Int32.ofNat tgt) M = some v ∧ ((v = -1 ∧ ∀ n, itL I d L n < tgt) ∨ ∃ c, c ≤ 4000000000 ∧ v = Int64.ofNat c ∧ Rch I d L tgt c) := by
  obtain ⟨c4, ec, hv⟩ := spC_le w
  obtain ⟨l1, l2, l3⟩ := dr.lad (i := 2) (by omega) ec (by omega)
  have sl := sd.2.2 2 (by omega)
  unfold f_X2_cyclesUntil
  by_cases t9 : tgt ≤ 1000000000
  · rw [if_pos (show Int32.ofNat tgt ≤ 1000000000 by rw [i_leL (by omega) (by simp)]; exact t9)]
    have ew : (Int32.ofNat tgt).toInt64 = Int64.ofNat tgt := i64n ht
    have never : ∀ c r, itL I d L c = r → r < tgt → spd I d r = 0 → ∀ n, itL I d L n < tgt := by
      intro c r e0 hr hs n
      by_cases g : n ≤ c
      · have := itL_mono (I := I) (d := d) (n := n) hL (c - n)
        rw [show n + (c - n) = c by omega] at this
        omega
      · have := itL_stop (I := I) (d := d) (n := c) hL (by rw [e0]; exact hs) (n - c)
        rw [show c + (n - c) = n by omega] at this
        omega
    have K : wp (lp_X2_cyclesUntil_19 h (Int32.ofNat tgt) (aD B 0 d) M fuel (Int64.ofNat L) (Int64.ofNat 0) (Int32.ofNat 0)) (fun z => (z = .inl (-1) ∧ ∀ n, itL I d L n < tgt) ∨ ∃ r c i, z = .inr (Int64.ofNat r, Int64.ofNat c, i) ∧ CI I d L tgt (spC I d) r c) := by
      refine loopW (fun n k (s : Int64 × Int64) => lp_X2_cyclesUntil_19 h (Int32.ofNat tgt) (aD B 0 d) M n s.1 s.2 (Int32.ofNat k)) (spC I d) (fun k s => ∃ r c, s = (Int64.ofNat r, Int64.ofNat c) ∧ CI I d L tgt k r c) _ ?_ ?_ fuel 0 (Int64.ofNat L, Int64.ofNat 0) (by omega) (by unfold fuel; omega) ⟨L, 0, rfl, by omega, by omega, ?_⟩
      · rintro n k _ hk ⟨r, c, rfl, r1, r2, r3⟩ ih
        obtain ⟨tp1, tp2⟩ := tp_of w hk
        obtain ⟨sv1, sv2⟩ := spV_ok w hk
        have lt2 := l2 k hk
        have lt3 := l3 k hk
        have lt2 : zI M (aT B 0 d 2) k = Int32.ofNat (tpN I d k) := lt2.trans tp2
        have lt3 : zI M (aV B 0 d 2) k = Int32.ofNat (spN I d k) := lt3.trans sv2
        have sv1 : spN I d k ≤ 1000000 := sv1
        obtain ⟨goal, hgoal⟩ : ∃ g, g = (if k + 1 = spC I d then tgt else min (tpN I d k + 1) tgt) := ⟨_, rfl⟩
        have hg1 : goal ≤ tgt := by rw [hgoal]; split <;> omega
        have hg2 : k + 1 = spC I d ∨ goal ≤ tpN I d k + 1 := by rw [hgoal]; split <;> omega
        have hg3 : goal = tgt ∨ (goal = tpN I d k + 1 ∧ k + 1 < spC I d) := by rw [hgoal]; split <;> omega
        have ey : ∀ (K : Int64 → Option (Int64 ⊕ (Int64 × Int64 × Int32))), (Option.bind (if ¬ Int32.ofNat k = Int32.ofNat (spC I d) - 1 then some (0 : Int32) else some (1 : Int32)) fun y5 => Option.bind (if y5 = 0 then (f_X3_topAt h (aL B 0 d 2) (Int32.ofNat k) M).bind fun z7 => some (if (z7.toInt64 + (1 : Int64)) < (Int32.ofNat tgt).toInt64 then z7.toInt64 + (1 : Int64) else (Int32.ofNat tgt).toInt64) else some (Int32.ofNat tgt).toInt64) K) = K (Int64.ofNat goal) := by
          intro K
          rw [i_subL (by show 1 ≤ spC I d; omega), ew]
          by_cases g : k + 1 = spC I d
          · rw [if_neg (not_not_intro (by congr 1; show k = spC I d - 1; omega)), b_some, if_neg (show ¬ (1 : Int32) = 0 by decide), b_some, hgoal, if_pos g]
          · rw [if_pos (by rw [i_inj (by omega) (by show spC I d - 1 < _; omega)]; show ¬ k = spC I d - 1; omega), b_some, if_pos rfl, x_topAt sl (by decide) (show k < mst 2 by show k < 4; omega), b_some, lt2, i64n tp1, show (1 : Int64) = Int64.ofNat 1 from rfl, j_add, b_some, hgoal, if_neg g]
            by_cases g2 : tpN I d k + 1 < tgt
            · rw [if_pos (by rw [j_lt (by omega) (by omega)]; exact g2), Nat.min_eq_left (by omega)]
            · rw [if_neg (by rw [j_lt (by omega) (by omega)]; exact g2), Nat.min_eq_right (by omega)]
        have cs : (k + 1) * 1000000000 = k * 1000000000 + 1000000000 := Nat.succ_mul _ _
        simp only [lp_X2_cyclesUntil_19]
        rw [wp_gd]
        refine ⟨sd.1, ?_⟩
        rw [sd.2.1 2 (by omega), wp_dq, wp_gd]
        refine ⟨sl.1, ?_⟩
        rw [l1, if_neg (by rw [i_le (by omega) (by omega)]; omega), ey, x_valueAt sl (by decide) (show k < mst 2 by show k < 4; omega), b_some, lt3, i64n (by omega)]
        by_cases g : goal ≤ r
        · rw [if_pos (by rw [j_le (by omega) (by omega)]; exact g), wp_lt, i_addL]
          refine ih (_, _) ⟨r, c, rfl, r1, Nat.le_trans r2 (Nat.le_trans (Nat.le_add_right _ _) (Nat.le_of_eq cs.symm)), ?_⟩
          rcases r3 with z | ⟨z1, z2, z3, z4⟩
          · exact Or.inl z
          · refine Or.inr ⟨z1, z2, fun j hj => ?_, by omega⟩
            by_cases e : j = k
            · subst e; omega
            · exact z3 j (by omega)
        · rw [if_neg (by rw [j_le (by omega) (by omega)]; exact g)]
          rcases r3 with z | ⟨z1, z2, z3, z4⟩
          · exact absurd z.1 (by omega)
          have sp : ∀ x, r ≤ x → x < goal → spd I d x = spN I d k := fun x h1 h2 => spd_at w (by omega) hk (fun j hj => by have := z3 j hj; omega) (by omega)
          by_cases v1 : 1 ≤ spN I d k
          · obtain ⟨q1, q2, q3, q4, q5, q6⟩ := stretch (tgt := tgt) hL z2 (by omega) hg1 t9 v1 sp rfl
            rw [if_pos (by rw [show (1 : Int64) = Int64.ofNat 1 from rfl, j_le (by omega) (by omega)]; exact v1), wp_gd]
            refine ⟨by rw [show (0 : Int64) = Int64.ofNat 0 from rfl, j_inj (by omega) (by omega)]; omega, ?_⟩
            rw [wp_lt, wp_lt, wp_lt, wp_lt, j_sub (by omega), j_add, show (1 : Int64) = Int64.ofNat 1 from rfl, j_sub (by omega), j_div (by omega) (by omega), j_mul, j_add, j_add, i_addL]
            generalize (goal - r + spN I d k - 1) / spN I d k = k' at q1 q2 q3 q4 q5 q6 ⊢
            generalize k' * spN I d k = X at q1 q2 q6 ⊢
            refine ih (_, _) ⟨r + X, c + k', rfl, by omega, Nat.le_trans (Nat.add_le_add r2 (show k' ≤ 1000000000 by omega)) (Nat.le_of_eq cs.symm), ?_⟩
            by_cases g3 : tgt ≤ r + X
            · refine Or.inl ⟨g3, fun q hq => ?_, by rw [q6]; omega⟩
              by_cases g4 : q < c
              · have := itL_mono (I := I) (d := d) (n := q) hL (c - q)
                rw [show q + (c - q) = c by omega] at this
                omega
              · have := q5 (q - c) (by omega)
                rw [show c + (q - c) = q by omega] at this
                omega
            · refine Or.inr ⟨by omega, by rw [q6]; omega, fun j hj => ?_, by omega⟩
              by_cases e : j = k
              · subst e; omega
              · have := z3 j (by omega); omega
          · rw [if_neg (by rw [show (1 : Int64) = Int64.ofNat 1 from rfl, j_le (by omega) (by omega)]; exact v1), wp_some]
            refine Or.inl ⟨rfl, never c r z2 z1 ?_⟩
            rw [sp r (by omega) (by omega)]; omega
      · rintro n _ ⟨r, c, rfl, hC⟩
        simp only [lp_X2_cyclesUntil_19]
        rw [wp_gd]
        refine ⟨sd.1, ?_⟩
        rw [sd.2.1 2 (by omega), wp_dq, wp_gd]
        refine ⟨sl.1, ?_⟩
        rw [l1, if_pos (Int32.le_refl _), wp_some]
        exact Or.inr ⟨r, c, _, rfl, hC⟩
      · by_cases g : tgt ≤ L
        · exact Or.inl ⟨g, fun k hk => by omega, g⟩
        · exact Or.inr ⟨by omega, rfl, fun j hj => by omega, by omega⟩
    obtain ⟨z, hz, hK⟩ := K
    have hz' : lp_X2_cyclesUntil_19 h (Int32.ofNat tgt) (aD B 0 d) M fuel (Int32.ofNat L).toInt64 (0 : Int64) (0 : Int32) = some z := by rw [i64n (by omega)]; exact hz
    rw [hz', b_some]
    rcases hK with ⟨rfl, hn⟩ | ⟨r, c, i, rfl, r1, r2, r3⟩
    · exact ⟨-1, rfl, Or.inl ⟨rfl, hn⟩⟩
    · simp only [sm]
      rw [ew]
      rcases r3 with ⟨z1, z2⟩ | ⟨z1, z2, z3, z4⟩
      · rw [if_neg (by rw [j_lt (by omega) (by omega)]; omega)]
        exact ⟨_, rfl, Or.inr ⟨c, by omega, rfl, z2⟩⟩
      · rw [if_pos (by rw [j_lt (by omega) (by omega)]; exact z1)]
        refine ⟨-1, rfl, Or.inl ⟨rfl, never c r z2 z1 ?_⟩⟩
        unfold spd gbyI
        rw [if_pos (by omega)]
        decide
  · rw [if_neg (show ¬ Int32.ofNat tgt ≤ 1000000000 by rw [i_leL (by omega) (by simp)]; exact t9)]
    refine ⟨-1, rfl, Or.inl ⟨rfl, fun n => ?_⟩⟩
    have := itL_le (I := I) (d := d) hL n
    omega
theorem r_cyclesTo (S : Sh2 h A) (hd : d < 12) (w : WFd (zI M (A 1)) d) (hL : L ≤ 1000000000) (ht : tgt < 2147483648) :
    ∃ v, f_X9_cyclesTo h (A 0) (Int32.ofNat d) (Int32.ofNat L) (Int32.ofNat tgt) M = some v ∧ ((v = -1 ∧ ∀ k, k ≤ 100000 → itL (zI M (A 1)) d L k < tgt) ∨ ∃ n, n ≤ 100000 ∧ v = Int32.ofNat n ∧ Rch (zI M (A 1)) d L tgt n) := by
  have s := S.s
  have K : ∀ (j n k : Nat), k + j = 100000 → j < n → (∀ q, q < k → itL (zI M (A 1)) d L q < tgt) → ∃ m, m ≤ 100000 ∧ lp_X9_cyclesTo_6 h (Int32.ofNat d) (Int32.ofNat tgt) (A 0) M n (Int32.ofNat (itL (zI M (A 1)) d L k)) (Int32.ofNat k) = some (Int32.ofNat (itL (zI M (A 1)) d L m), Int32.ofNat m) ∧ (∀ q, q < m → itL (zI M (A 1)) d L q < tgt) ∧ (tgt ≤ itL (zI M (A 1)) d L m ∨ m = 100000) := by
    intro j
    induction j with
    | zero =>
      intro n k hk hn hq
      obtain ⟨n, rfl⟩ : ∃ q, n = q + 1 := ⟨n - 1, by omega⟩
      have le := itL_le (I := zI M (A 1)) (d := d) hL k
      refine ⟨k, by omega, ?_, hq, Or.inr (by omega)⟩
      simp only [lp_X9_cyclesTo_6]
      rw [if_pos (show (100000 : Int32) ≤ Int32.ofNat k by rw [i_Lle (by omega) (by simp)]; show 100000 ≤ k; omega)]
      split <;> rfl
    | succ j ih =>
      intro n k hk hn hq
      obtain ⟨n, rfl⟩ : ∃ q, n = q + 1 := ⟨n - 1, by omega⟩
      have le := itL_le (I := zI M (A 1)) (d := d) hL k
      simp only [lp_X9_cyclesTo_6]
      by_cases g : tgt ≤ itL (zI M (A 1)) d L k
      · rw [if_pos (by rw [i_le ht (by omega)]; exact g)]
        exact ⟨k, by omega, rfl, hq, Or.inl g⟩
      · rw [if_neg (by rw [i_le ht (by omega)]; exact g), if_neg (show ¬ (100000 : Int32) ≤ Int32.ofNat k by rw [i_Lle (by omega) (by simp)]; show ¬ 100000 ≤ k; omega), gd, if_pos s.1, r_grown S hd w le, b_some, lt_, i_addL]
        exact ih n (k + 1) (by omega) (by omega) fun q hq' => by
          by_cases e : q = k
          · subst e; omega
          · exact hq q (by omega)
  obtain ⟨m, hm, e, h1, h2⟩ := K 100000 fuel 0 (by omega) (by unfold fuel; omega) (fun q hq => by omega)
  have e' : lp_X9_cyclesTo_6 h (Int32.ofNat d) (Int32.ofNat tgt) (A 0) M fuel (Int32.ofNat L) (0 : Int32) = _ := e
  have le := itL_le (I := zI M (A 1)) (d := d) hL m
  unfold f_X9_cyclesTo
  rw [e', b_some]
  by_cases g : tgt ≤ itL (zI M (A 1)) d L m
  · rw [if_pos (by rw [i_le ht (by omega)]; exact g)]
    exact ⟨_, rfl, Or.inr ⟨m, hm, rfl, h1, g⟩⟩
  · rw [if_neg (by rw [i_le ht (by omega)]; exact g)]
    refine ⟨_, rfl, Or.inl ⟨rfl, fun k hk => ?_⟩⟩
    by_cases e : k = m
    · subst e; omega
    · exact h1 k (by omega)
end U
