/-! ACTS: what is kept for undo, on both sides -/
theorem LR.fb {M M' : Mm} {B : Nat → Nat} {K : Nat → Nat → Prop} {β t i b : Nat} {I : Nat → Int32} (F : FB B K M M') (r : LR M (aL B β t i) (aT B β t i) (aV B β t i) I b) (k : ∀ j, ¬ K (400 + 100 * i + 12 * β + t) j ∧ ¬ K (700 + 100 * i + 12 * β + t) j ∧ ¬ K (1000 + 100 * i + 12 * β + t) j) : LR M' (aL B β t i) (aT B β t i) (aV B β t i) I b := by
  obtain ⟨l1, l2⟩ := r
  refine ⟨(F.i (k 2).1).trans l1, fun j hj => ⟨(F.i (k j).2.1).trans (l2 j hj).1, (F.i (k j).2.2).trans (l2 j hj).2⟩⟩
section AC
variable {h : Hs} {B A : Nat → Nat} {M : Mm} {I : Nat → Int32} {β t β' t' d n : Nat}
theorem x_copyLi (hB : ∀ i j, B i = B j → i = j) (s : DtA h B β t) (s' : DtA h B β' t') (ne : 12 * β + t ≠ 12 * β' + t') (l1 : 12 * β + t < 100) (l2 : 12 * β' + t' < 100) {i c b : Nat} (hi : i < 3) (hc : c ≤ mst i) (ec : I b = Int32.ofNat c) (r : LR M (aL B β' t' i) (aT B β' t' i) (aV B β' t' i) I b) :
    wp (f_X3_copyFrom h (aL B β t i) (aL B β' t' i) M) (fun M' => FB B (fun k _ => k = 400 + 100 * i + 12 * β + t ∨ k = 700 + 100 * i + 12 * β + t ∨ k = 1000 + 100 * i + 12 * β + t) M M' ∧ LR M' (aL B β t i) (aT B β t i) (aV B β t i) I b) := by
  have hm := mst_le i
  have q : ∀ i j, (B i = B j) = (i = j) := fun i j => propext ⟨hB i j, fun e => by rw [e]⟩
  obtain ⟨r1, r2⟩ := r
  refine (x_copyL (c := c) (s.2.2 i hi) (s'.2.2 i hi) hm (r1.trans ec) hc ?_ ?_ ?_ ?_ ?_ ?_ ?_ ?_ ?_ ?_ ?_ ?_).mono ?_
  case refine_13 =>
    rintro M' ⟨F, g1, g2⟩
    have F' : FB B (fun k _ => k = 400 + 100 * i + 12 * β + t ∨ k = 700 + 100 * i + 12 * β + t ∨ k = 1000 + 100 * i + 12 * β + t) M M' := F.fb fun k j z => by
      simp only [aL, aT, aV, q] at z; exact z
    refine ⟨F', by rw [g1, ec], fun j hj => ?_⟩
    rw [ec, i_nat (by omega)] at hj
    have r3 := r2 j (by rw [ec, i_nat (by omega)]; exact hj)
    rw [(g2 j hj).1, (g2 j hj).2]
    exact r3
  all_goals (simp only [aL, aT, aV, ne_eq, q]; omega)
theorem x_copyD (hB : ∀ i j, B i = B j → i = j) (s : DtA h B β t) (s' : DtA h B β' t') (ne : 12 * β + t ≠ 12 * β' + t') (l1 : 12 * β + t < 100) (l2 : 12 * β' + t' < 100) (w : WFd I d) (r : DR M B β' t' I d) :
    wp (f_X2_copyFrom h (aD B β t) (aD B β' t') M) (fun M' => FB B (fun i _ => 300 ≤ i ∧ i % 100 = 12 * β + t) M M' ∧ DR M' B β t I d) := by
  have q : ∀ i j, (B i = B j) = (i = j) := fun i j => propext ⟨hB i j, fun e => by rw [e]⟩
  obtain ⟨c0, hc0, ec0⟩ := w.lad (i := 0) (by omega)
  obtain ⟨c1, hc1, ec1⟩ := w.lad (i := 1) (by omega)
  obtain ⟨c2, hc2, ec2⟩ := w.lad (i := 2) (by omega)
  have a0 := s.2.1 0 (by omega); have a1 := s.2.1 1 (by omega); have a2 := s.2.1 2 (by omega)
  have b0 := s'.2.1 0 (by omega); have b1 := s'.2.1 1 (by omega); have b2 := s'.2.1 2 (by omega)
  have o0 := (s.2.2 0 (by omega)).1; have o1 := (s.2.2 1 (by omega)).1; have o2 := (s.2.2 2 (by omega)).1
  have so := s.1; have so' := s'.1
  obtain ⟨r1, r2, r3, r4, r5, r6, r7⟩ := r
  have up : ∀ i, i < 3 → ∀ k j : Nat, (k = 400 + 100 * i + 12 * β + t ∨ k = 700 + 100 * i + 12 * β + t ∨ k = 1000 + 100 * i + 12 * β + t) → (300 ≤ k ∧ k % 100 = 12 * β + t) := fun i hi k j z => by omega
  unfold f_X2_copyFrom
  simp only [wp_gd, ok, so, so', a0, b0, a1, b1, a2, b2, wp_dq, o0, o1, o2, and_self, true_and]
  rw [wp_bind]
  refine (x_copyLi hB s s' ne l1 l2 (by omega) hc0 ec0 (r7 0 (by omega))).mono ?_
  rintro M1 ⟨F1, g1⟩
  rw [wp_dq, wp_dq, wp_gd]
  refine ⟨o1, ?_⟩
  rw [wp_bind]
  refine (x_copyLi hB s s' ne l1 l2 (by omega) hc1 ec1 ((r7 1 (by omega)).fb F1 (by omega))).mono ?_
  rintro M2 ⟨F2, g2⟩
  rw [wp_dq, wp_dq, wp_gd]
  refine ⟨o2, ?_⟩
  rw [wp_bind]
  refine (x_copyLi hB s s' ne l1 l2 (by omega) hc2 ec2 (((r7 2 (by omega)).fb F1 (by omega)).fb F2 (by omega))).mono ?_
  rintro M3 ⟨F3, g3⟩
  have F3' : FB B (fun i _ => 300 ≤ i ∧ i % 100 = 12 * β + t) M M3 := ((F1.up (up 0 (by omega))).tr (F2.up (up 1 (by omega)))).tr (F3.up (up 2 (by omega)))
  have e : ∀ j, zI M3 (aD B β' t') j = zI M (aD B β' t') j := fun j => F3'.i (by omega)
  have n0 : ∀ j x : Nat, ((aD B β' t' = aD B β t ∧ j = x) : Prop) = False := fun j x => eq_false fun z => by
    have z1 := z.1
    simp only [aD, q] at z1; omega
  simp only [wp_lt, wp_some, zI_sI, n0, if_false, e]
  rw [r1, r2, r3, r4, r5, r6]
  generalize hM4 : sI (sI (sI (sI (sI (sI M3 (aD B β t) 3 (I (4848 + 40 * d))) (aD B β t) 4 (I (4848 + 40 * d + 1))) (aD B β t) 5 (I (4848 + 40 * d + 24))) (aD B β t) 6 (I (4848 + 40 * d + 25))) (aD B β t) 7 (I (4848 + 40 * d + 26))) (aD B β t) 8 (I (4848 + 40 * d + 27)) = M4
  have F4 : FB B (fun i _ => i = 300 + 12 * β + t) M3 M4 := by
    rw [← hM4]
    have go : ∀ {M1 : Mm} {j : Nat} {v : Int32}, FB B (fun i _ => i = 300 + 12 * β + t) M3 M1 → FB B (fun i _ => i = 300 + 12 * β + t) M3 (sI M1 (aD B β t) j v) := fun F => FB.sI (a := 300 + 12 * β + t) hB F rfl
    exact go (go (go (go (go (go FB.rf)))))
  refine ⟨F3'.tr (F4.up fun i j z => by omega), by rw [← hM4]; simp [zI_sI], by rw [← hM4]; simp [zI_sI], by rw [← hM4]; simp [zI_sI], by rw [← hM4]; simp [zI_sI], by rw [← hM4]; simp [zI_sI], by rw [← hM4]; simp [zI_sI], fun i hi => ?_⟩
  rcases (show i = 0 ∨ i = 1 ∨ i = 2 by omega) with rfl | rfl | rfl
  · exact ((g1.fb F2 (by omega)).fb F3 (by omega)).fb F4 (by omega)
  · exact (g2.fb F3 (by omega)).fb F4 (by omega)
  · exact g3.fb F4 (by omega)
theorem x_keepP {pic : Prop} (S : Sh1 h B pic) (hn : n < 12) (w : WFp I n) (r : PR M (aP B 0 n) (aC B 0 n) I n) :
    wp (f_X8_keepPlace h (B 0) (Int32.ofNat n) (aP B 0 n) M) (fun M' => FB B (fun i j => i = 124 ∨ i = 224 ∨ (i = 0 ∧ (j = 8 ∨ j = 9))) M M' ∧ PR M' (aP B 2 0) (aC B 2 0) I n ∧ zI M' (B 0) 8 = Int32.ofNat n ∧ zI M' (B 0) 9 = -1) := by
  obtain ⟨hB, sx, -, sb, sp, -, -⟩ := S
  have q : ∀ i j, (B i = B j) = (i = j) := fun i j => propext ⟨hB i j, fun e => by rw [e]⟩
  unfold f_X8_keepPlace
  rw [wp_gd]
  refine ⟨sx.1, ?_⟩
  rw [sx.2.2.2.2.2.2.1, wp_dq, wp_gd]
  refine ⟨sp.1, ?_⟩
  rw [wp_bind]
  refine (x_copyP (n := n) sp (sb.2.2.2.2.2.2.2.2.2.1 n hn) (by simp only [aP, ne_eq, q]; omega) (by simp only [aC, ne_eq, q]; omega) w r).mono ?_
  rintro M1 ⟨F, p, -, -⟩
  rw [wp_lt, wp_lt, wp_some]
  have F1 : FB B (fun i j => i = 124 ∨ i = 224 ∨ (i = 0 ∧ (j = 8 ∨ j = 9))) M M1 := F.fb fun i j z => by
    simp only [aP, aC, q] at z; omega
  have F2 : FB B (fun i j => i = 0 ∧ (j = 8 ∨ j = 9)) M1 (sI (sI M1 (B 0) 8 (Int32.ofNat n)) (B 0) 9 (-1)) := (FB.rf.sI hB ⟨rfl, Or.inl rfl⟩).sI hB ⟨rfl, Or.inr rfl⟩
  exact ⟨F1.tr (F2.up fun i j z => Or.inr (Or.inr z)), p.fb F2 (fun j => by omega), by simp [zI_sI], by simp [zI_sI]⟩
theorem x_keepD {pic : Prop} (S : Sh1 h B pic) (hn : n < 12) (w : WFd I n) (r : DR M B 0 n I n) :
    wp (f_X8_keepDetail h (B 0) (Int32.ofNat n) (aD B 0 n) M) (fun M' => FB B (fun i j => (300 ≤ i ∧ i % 100 = 24) ∨ (i = 0 ∧ (j = 8 ∨ j = 9))) M M' ∧ DR M' B 2 0 I n ∧ zI M' (B 0) 9 = Int32.ofNat n ∧ zI M' (B 0) 8 = -1) := by
  obtain ⟨hB, sx, -, sb, -, sd, -⟩ := S
  unfold f_X8_keepDetail
  rw [wp_gd]
  refine ⟨sx.1, ?_⟩
  rw [sx.2.2.2.2.2.2.2.1, wp_dq, wp_gd]
  refine ⟨sd.1, ?_⟩
  rw [wp_bind]
  refine (x_copyD (β := 2) (t := 0) (β' := 0) (t' := n) hB sd (sb.2.2.2.2.2.2.2.2.2.2 n hn) (by omega) (by omega) (by omega) w r).mono ?_
  rintro M1 ⟨F, p⟩
  rw [wp_lt, wp_lt, wp_some]
  have F2 : FB B (fun i j => i = 0 ∧ (j = 8 ∨ j = 9)) M1 (sI (sI M1 (B 0) 9 (Int32.ofNat n)) (B 0) 8 (-1)) := (FB.rf.sI hB ⟨rfl, Or.inr rfl⟩).sI hB ⟨rfl, Or.inl rfl⟩
  exact ⟨(F.up fun i j z => Or.inl (by omega)).tr (F2.up fun i j z => Or.inr z), p.fb F2 (fun i j => by omega), by simp [zI_sI], by simp [zI_sI]⟩
theorem r_copy {q1 q2 a0 : Nat} (h1 : ok h q1 11) (h2 : ok h q2 11) (n1 : zN h q1 = 5328) (n2 : zN h q2 = 5328) (ne : q1 ≠ q2) :
    wp (f_X9_copy h a0 q1 q2 M) (fun M' => Fm (fun b j => b = q2) M M' ∧ ∀ i, i < 5328 → zI M' q2 i = zI M q1 i) := by
  unfold f_X9_copy
  rw [wp_bind]
  refine loopW (fun n k s => lp_X9_copy_2 h q1 q2 n (Int32.ofNat k) s) 5328 (fun k M' => Fm (fun b j => b = q2) M M' ∧ ∀ i, i < k → zI M' q2 i = zI M q1 i) _ ?_ ?_ fuel 0 M (by omega) (by unfold fuel; omega) ⟨Fm.rf, by omega⟩
  · intro n k M1 hk ⟨F, hv⟩ ih
    simp only [lp_X9_copy_2]
    rw [if_neg (by rw [i_Lle (by omega) (by simp)]; simp; omega)]
    simp (disch := omega) only [gd, ok, h1, h2, n1, n2, and_self, if_true, i_inb, hk, i_nat, lt_, i_addL]
    refine ih _ ⟨F.sI rfl, fun i hi => ?_⟩
    rw [F.i ne]
    by_cases e : i = k
    · subst e; simp [zI_sI]
    · rw [zI_sI, if_neg (by simp [e])]; exact hv i (by omega)
  · intro n M1 ⟨F, hv⟩
    simp only [lp_X9_copy_2]
    rw [if_pos (by decide), wp_some, wp_some]
    exact ⟨F, hv⟩
theorem r_act (S : Sh2 h A) : wp (f_X9_act h (A 0) M) (fun M' => FB A (fun i j => i = 2 ∨ (i = 0 ∧ j = 4)) M M' ∧ (∀ i, i < 5328 → zI M' (A 2) i = zI M (A 1) i) ∧ zI M' (A 0) 4 = 1) := by
  have s := S.s
  have q := S.e
  have r1 : zR h (A 0) 1 = some (A 1) := by simp only [s]
  have r2 : zR h (A 0) 2 = some (A 2) := by simp only [s]
  have o1 : ok h (A 1) 11 := by simp only [ok, s, and_self]
  have o2 : ok h (A 2) 11 := by simp only [ok, s, and_self]
  unfold f_X9_act
  rw [wp_gd]
  refine ⟨s.1, ?_⟩
  rw [r1, wp_dq, r2, wp_dq, wp_bind]
  refine (r_copy o1 o2 (by simp only [s]) (by simp only [s]) (by simp [q])).mono ?_
  rintro M1 ⟨F, hv⟩
  rw [wp_lt, wp_some]
  refine ⟨(F.fb fun i j z => ?_ : FB A _ M M1).sI S.2 (Or.inr ⟨rfl, rfl⟩), fun i hi => ?_, by simp [zI_sI]⟩
  · simp only [q] at z; exact Or.inl z
  · rw [zI_sI, if_neg (by simp [q])]; exact hv i hi
end AC
