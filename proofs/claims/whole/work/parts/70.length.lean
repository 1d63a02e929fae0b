/-! CALLS: length -/
section R
variable {h h1 h2 : Hs} {B A : Nat → Nat} {M M1 M2 : Mm} {pic : Prop} {d : Nat} {a : Int32}
theorem r_lengthOf (S : Sh2 h A) {I : Nat → Int32} (hI : zI M (A 1) = I) (W : WF I) (hd : d < 12) (hc : ¬ I (4848 + 40 * d + 26) = -1) : wp (f_X9_lengthOf h (A 0) (Int32.ofNat d) M) (fun z => FB A (fun i j => (i = 0 ∧ 11 ≤ j) ∨ 5 ≤ i) M z.2 ∧ z.1 = Int32.ofNat (lenS I d)) := by
  have s := S.s
  have wd := W.2 d hd
  obtain ⟨c1, c2⟩ := crk_ok wd hc
  have f0 : 4848 + 40 * d < 5328 := by omega
  have f1 : 4848 + 40 * d + 1 < 5328 := by omega
  have f26 : 4848 + 40 * d + 26 < 5328 := by omega
  have f27 : 4848 + 40 * d + 27 < 5328 := by omega
  have n26 : ¬ I (4848 + 40 * d + 26) < 0 := by rw [c2, i_neg (a := (I (4848 + 40 * d + 26)).toNatClampNeg) (by omega)]; exact id
  unfold f_X9_lengthOf f_X9_base
  simp (disch := omega) only [dq, gd, ok, s, and_self, if_true, b_some, i_mulL, i_Ladd, i_addL, i_inb, f0, f1, f26, i_nat, lt_, hI, Nat.add_zero]
  rw [if_neg n26]
  rcases gOf_cases wd with ⟨g0, g1⟩ | ⟨m, hm, em, hg, g0⟩
  · have eg : f_X9_isGauge h (A 0) (I (4848 + 40 * d)) M = some 0 := by
      rcases g1 with e | ⟨m, hm, e, ng⟩
      · rw [e]; exact r_isGaugeB S (by decide)
      · rw [e, r_isGauge S hm, hI, if_neg ng]
    rw [eg, b_some, if_neg (not_not_intro rfl), wp_some]
    unfold lenS
    rw [g0]
    exact ⟨FB.rf, c2⟩
  · obtain ⟨hb, eb⟩ := wd.beg
    rw [em, r_isGauge S hm, hI, if_pos hg, b_some, if_pos (show ¬ (1 : Int32) = 0 by decide), eb, wp_bind]
    have L := r_look (M := M) (from_ := begS I d) S (by rw [hI]; exact W) hm hb
    rw [hI] at L
    refine L.mono ?_
    rintro Mc ⟨Fc0, l11, l12, lT, ⟨l16, lA, lB, lC⟩, l19, lR⟩
    have Fc : FB A (fun i j => (i = 0 ∧ 11 ≤ j) ∨ 5 ≤ i) M Mc := Fc0.fb fun i j z => by
      rcases z with ⟨e, z⟩ | ⟨k, k1, k2, e⟩
      · have := S.2 _ _ e; omega
      · have := S.2 _ _ e; omega
    have eIc : zI Mc (A 1) = I := by rw [← hI]; exact funext fun j => Fc.i (by omega)
    obtain ⟨t4, -, p4, c4⟩ := trn400 (from_ := begS I d) W hm
    have hr := trnL_rdg (from_ := begS I d) W hm
    have hC : ∀ y ∈ (pilL (trnL I m (begS I d))).2, y.1 < (trnL I m (begS I d)).length ∧ y.2.1 < (trnL I m (begS I d)).length ∧ y.2.2 < (trnL I m (begS I d)).length := fun y hy => pilN_cyc hy
    unfold lenS
    rw [g0, wp_bind]
    simp only []
    generalize trnL I m (begS I d) = T at *
    refine (loopW (fun n k (s : Int32) => lp_X9_lengthOf_61 h (Int32.ofNat d) (A 0) (A 1) Mc n s (Int32.ofNat k)) (pilL T).2.length (fun k s => s = Int32.ofNat (lenF I d T (pilL T).1 (pilL T).2 k)) (fun z => z.1 = Int32.ofNat (lenF I d T (pilL T).1 (pilL T).2 (pilL T).2.length)) ?_ ?_ fuel 0 _ (by omega) (by unfold fuel; omega) c2).mono ?_
    · rintro n k v hk rfl ih
      obtain ⟨y, hy, y1, y2⟩ := cy_mem hk
      have hyT := hC y hy
      have e8 : zI Mc (A 8) k = Int32.ofNat y.1 := by rw [lA.get (by simpa using hk), y1]; exact nth_map hk
      have e9 : zI Mc (A 9) k = Int32.ofNat y.2.1 := by rw [lB.get (by simpa using hk), y2]; exact nth_map hk
      have eI : effS I d (far (nth T y.1) (nth T y.2.1)) (nth T y.1 + nth T y.2.1) = itE I d T (pilL T).1 (pilL T).2 k := by unfold itE; rw [if_pos hk, y1, y2]
      simp only [lp_X9_lengthOf_61]
      rw [l16, if_neg (by rw [i_le (by omega) (by omega)]; omega), r_rangeOf S lT t4 (by omega) e8 e9 ⟨hyT.1, hyT.2.1⟩, b_some, r_meanOf S lT t4 (by omega) e8 e9 ⟨hyT.1, hyT.2.1⟩, b_some, r_effect S hd (by rw [eIc]; exact wd) (far_ok (hr _ (nth_mem hyT.1)) (hr _ (nth_mem hyT.2.1))), eIc, b_some, eI]
      unfold f_X9_base
      simp (disch := omega) only [b_some, i_mulL, i_Ladd, i_addL, gd, s, i_inb, f27, if_true, i_nat, eIc, lt_]
      by_cases g : itE I d T (pilL T).1 (pilL T).2 k ≤ I (4848 + 40 * d + 27)
      · rw [if_pos g, b_some]
        exact ih _ (by simp only [lenF, g, if_true])
      · rw [if_neg g, r_grown S hd (by rw [eIc]; exact wd) (lenF_le wd hc k), b_some, b_some, eIc]
        refine ih _ ?_
        simp only [lenF, g, if_false]
    · rintro n v rfl
      simp only [lp_X9_lengthOf_61]
      rw [l16, if_pos (Int32.le_refl _), wp_some]
    rintro z hz
    rw [wp_some]
    exact ⟨Fc, hz⟩
theorem r_lengthN (S : Sh2 h A) (hd : d < 12) (hc : zI M (A 1) (4848 + 40 * d + 26) = -1) : f_X9_lengthOf h (A 0) (Int32.ofNat d) M = some (-1, M) := by
  have s := S.s
  have f26 : 4848 + 40 * d + 26 < 5328 := by omega
  have f0 : 4848 + 40 * d + 0 < 5328 := by omega
  unfold f_X9_lengthOf f_X9_base
  simp (disch := omega) only [dq, gd, ok, s, and_self, if_true, b_some, i_mulL, i_Ladd, i_addL, i_inb, f26, f0, i_nat, lt_, hc]
  rw [if_pos (show (-1 : Int32) < 0 by decide)]
theorem t_length (V : Inv h1 M1 h2 M2 B A pic) : Sim (f_X8_length h1 (B 0) a M1) (f_X9_length h2 (A 0) a M2) h1 h2 B A pic := by
  have V0 := V.t0
  have S1 := V.1
  have S2 := V.2.1
  have s := S2.s
  have q := S2.e
  obtain ⟨x0, -, x1, -⟩ := S1.2.1
  have sb := S1.2.2.2.1
  by_cases ha : 0 ≤ a ∧ a < 12
  · obtain ⟨d, hd, rfl⟩ := good12 ha
    have sd := sb.2.2.2.2.2.2.2.2.2.2 d hd
    have dr := V.2.2.2.2.1 d hd
    have e7 : zI M1 (aD B 0 d) 7 = zI M2 (A 1) (4848 + 40 * d + 26) := dr.2.2.2.2.1
    have eI : zI (sI M2 (A 0) 0 0) (A 1) = zI M2 (A 1) := funext fun j => by simp [zI_sI, q]
    unfold f_X8_length f_X9_length
    rw [gd, if_pos x0, x1, dq, gd, if_pos sb.1, x_detailAt sb hd, b_some, mq, gd, if_pos sd.1, gd, if_pos s.1, lt_, r_no hd, b_some, if_pos rfl, e7]
    by_cases hc : zI M2 (A 1) (4848 + 40 * d + 26) = -1
    · rw [if_neg (not_not_intro hc), r_lengthN S2 hd (by rw [eI]; exact hc), b_some]
      exact Sim.no V0
    · rw [if_pos hc]
      unfold Sim
      rw [wp_bind]
      refine (x_crackLength V hd hc).mono ?_
      rintro z1 ⟨F1, e1⟩
      rw [wp_some, wp_bind]
      refine (r_lengthOf S2 eI V.2.2.1 hd hc).mono ?_
      rintro z2 ⟨F2, e2⟩
      rw [wp_some]
      exact ⟨e1.trans e2.symm, V.sc F1 ((FB.rf.sI S2.2 (by omega)).tr (F2.up fun i j z => by omega))⟩
  · unfold f_X8_length f_X9_length
    rw [gd, if_pos x0, x1, dq, gd, if_pos sb.1, x_detailB sb ha, b_some, mq, gd, if_pos s.1, lt_, r_noB ha, b_some, if_neg (by decide)]
    exact Sim.no V0
end R
