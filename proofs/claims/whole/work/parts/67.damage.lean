/-! CALLS: damage, part, parts, left -/
def ahd (p : Nat → Int64) (i : Nat) : Nat → Nat
  | 0 => 0
  | j + 1 => ahd p i j + if p i < p j ∨ (p j = p i ∧ j < i) then 1 else 0
theorem ahd_le (p : Nat → Int64) (i : Nat) : ∀ j, ahd p i j ≤ j
  | 0 => Nat.le_refl _
  | j + 1 => by have := ahd_le p i j; unfold ahd; split <;> omega
section P
variable {h h1 h2 : Hs} {B A : Nat → Nat} {M M1 M2 : Mm} {pic : Prop} {d i : Nat} {p : Nat → Int64} {a k v : Int32}
theorem x_partOf (sx : ShX h B) (hi : i < 7) (hp : ∀ i, i < 7 → zJ M (B 11) i = p i) : f_X7_partOf h (B 10) (Int32.ofNat i) M = some (p i) := by
  obtain ⟨o10, r0, o11, n11⟩ := sx.2.2.2.2.2.2.2.2.2.1
  have f1 : ¬ 7 ≤ i := by omega
  unfold f_X7_partOf
  simp (disch := omega) only [gd, ok, dq, o10, r0, o11, n11, and_self, if_true, i_neg, if_false, i_le, f1, i_inb, hi, i_nat, hp i hi]
theorem x_ahead (sx : ShX h B) (hi : i < 7) (hp : ∀ i, i < 7 → zJ M (B 11) i = p i) : f_X7_partsAheadOf h (B 10) (Int32.ofNat i) M = some (Int32.ofNat (ahd p i 7)) := by
  obtain ⟨o10, r0, o11, n11⟩ := sx.2.2.2.2.2.2.2.2.2.1
  have K : wp (lp_X7_partsAheadOf_12 h (p i) (Int32.ofNat i) (B 10) M fuel 0 0) (fun z => z.1 = Int32.ofNat (ahd p i 7)) := by
    refine loopW (fun n j (s : Int32) => lp_X7_partsAheadOf_12 h (p i) (Int32.ofNat i) (B 10) M n s (Int32.ofNat j)) 7 (fun j s => s = Int32.ofNat (ahd p i j)) _ ?_ ?_ fuel 0 0 (by omega) (by unfold fuel; omega) rfl
    · rintro n j v hj rfl ih
      have f1 : ¬ 7 ≤ j := by omega
      simp only [lp_X7_partsAheadOf_12]
      simp (disch := omega) only [gd, ok, dq, r0, o11, n11, and_self, if_true, i_le, f1, if_false, i_inb, hj, i_nat, hp j hj]
      by_cases g1 : p i < p j
      · rw [if_pos g1, lt_, b_some, wp_lt, i_addL, i_addL]
        refine ih _ ?_
        simp only [ahd, g1, true_or, if_true]
      · rw [if_neg g1]
        by_cases g2 : p j = p i
        · rw [if_neg (not_not_intro g2)]
          by_cases g3 : i ≤ j
          · rw [if_pos g3, b_some, wp_lt, i_addL]
            refine ih _ ?_
            have : ¬ (p i < p j ∨ (p j = p i ∧ j < i)) := by rintro (z | z); exact g1 z; omega
            simp only [ahd]; rw [if_neg this, Nat.add_zero]
          · rw [if_neg g3, lt_, b_some, wp_lt, i_addL, i_addL]
            refine ih _ ?_
            have : p i < p j ∨ (p j = p i ∧ j < i) := Or.inr ⟨g2, by omega⟩
            simp only [ahd]; rw [if_pos this]
        · rw [if_pos g2, b_some, wp_lt, i_addL]
          refine ih _ ?_
          have : ¬ (p i < p j ∨ (p j = p i ∧ j < i)) := by rintro (z | z); exact g1 z; exact g2 z.1
          simp only [ahd]; rw [if_neg this, Nat.add_zero]
    · rintro n v rfl
      simp only [lp_X7_partsAheadOf_12]
      simp (disch := omega) only [gd, ok, dq, r0, o11, n11, and_self, if_true, Int32.le_refl]
      rw [wp_some]
  obtain ⟨z, e1, e2⟩ := K
  unfold f_X7_partsAheadOf
  rw [gd, if_pos o10, x_partOf sx hi hp, b_some, e1, b_some, e2]
theorem r_ahd (S : Sh2 h A) (hi : i < 7) (hp : ∀ i, i < 7 → zJ M (A 13) i = p i) {w2 : Int32} : wp (lp_X9_parts_32 h (Int32.ofNat i) w2 (A 0) M fuel 0 0) (fun z => z.1 = Int32.ofNat (ahd p i 7)) := by
  have s := S.s
  refine loopW (fun n j (s : Int32) => lp_X9_parts_32 h (Int32.ofNat i) w2 (A 0) M n s (Int32.ofNat j)) 7 (fun j s => s = Int32.ofNat (ahd p i j)) _ ?_ ?_ fuel 0 0 (by omega) (by unfold fuel; omega) rfl
  · rintro n j v hj rfl ih
    simp only [lp_X9_parts_32]
    rw [if_neg (by rw [i_Lle (by omega) (by simp)]; simp; omega)]
    simp (disch := omega) only [gd, ok, dq, s, and_self, if_true, i_inb, hj, hi, i_nat, hp j hj, hp i hi, i_le]
    by_cases g1 : p i < p j
    · rw [if_pos g1, b_some, wp_lt, wp_lt, i_addL, i_addL]
      refine ih _ ?_
      simp only [ahd, g1, true_or, if_true]
    · rw [if_neg g1]
      by_cases g2 : p j = p i
      · rw [if_neg (not_not_intro g2)]
        by_cases g3 : i ≤ j
        · rw [if_pos g3, b_some, wp_lt, wp_lt, i_addL, i_addL]
          refine ih _ ?_
          have : ¬ (p i < p j ∨ (p j = p i ∧ j < i)) := by rintro (z | z); exact g1 z; omega
          simp only [ahd]; rw [if_neg this]
        · rw [if_neg g3, b_some, wp_lt, wp_lt, i_addL, i_addL]
          refine ih _ ?_
          have : p i < p j ∨ (p j = p i ∧ j < i) := Or.inr ⟨g2, by omega⟩
          simp only [ahd]; rw [if_pos this]
      · rw [if_pos g2, b_some, wp_lt, wp_lt, i_addL, i_addL]
        refine ih _ ?_
        have : ¬ (p i < p j ∨ (p j = p i ∧ j < i)) := by rintro (z | z); exact g1 z; exact g2 z.1
        simp only [ahd]; rw [if_neg this]
  · rintro n v rfl
    simp only [lp_X9_parts_32]
    rw [if_pos (by decide), wp_some]
theorem x_partsL (sx : ShX h B) (hp : ∀ i, i < 7 → zJ M (B 11) i = p i) : lp_X8_parts_31 h k (B 0) M fuel 0 = some (match fsb (fun i => ¬ (0 < p i ∧ Int32.ofNat (ahd p i 7) = k)) 7 0 with | none => .inr 7 | some i => .inl (some (Int32.ofNat i), M)) := by
  have K : ∀ (r j n : Nat), r + j = 7 → r < n → lp_X8_parts_31 h k (B 0) M n (Int32.ofNat j) = some (match fsb (fun i => ¬ (0 < p i ∧ Int32.ofNat (ahd p i 7) = k)) r j with | none => .inr 7 | some i => .inl (some (Int32.ofNat i), M)) := by
    intro r
    induction r with
    | zero =>
      intro j n hj hn
      obtain ⟨n, rfl⟩ : ∃ q, n = q + 1 := ⟨n - 1, by omega⟩
      have : j = 7 := by omega
      subst this
      simp only [lp_X8_parts_31]
      rw [if_pos (by decide)]; rfl
    | succ r ih =>
      intro j n hj hn
      obtain ⟨n, rfl⟩ : ∃ q, n = q + 1 := ⟨n - 1, by omega⟩
      have hj7 : j < 7 := by omega
      simp only [lp_X8_parts_31]
      rw [if_neg (show ¬ (6 : Int32) < Int32.ofNat j by rw [i_Llt (by omega) (by simp)]; show ¬ 6 < j; omega), sx.2.2.2.2.1, dq, gd, if_pos sx.2.2.2.2.2.2.2.2.2.1.1, x_partOf sx hj7 hp, b_some]
      simp only [fsb]
      by_cases g1 : 0 < p j
      · rw [if_neg (Int64.not_le.mpr g1), x_ahead sx hj7 hp, b_some]
        by_cases g2 : Int32.ofNat (ahd p j 7) = k
        · rw [if_neg (not_not_intro g2), if_neg (fun z => z ⟨g1, g2⟩)]
        · rw [if_pos g2, if_pos (fun z => g2 z.2), lt_, i_addL]
          exact ih (j + 1) n (by omega) (by omega)
      · rw [if_pos (Int64.not_lt.mp g1), if_pos (fun z => g1 z.1), lt_, i_addL]
        exact ih (j + 1) n (by omega) (by omega)
  exact K 7 0 fuel rfl (by unfold fuel; omega)
theorem r_partsL (S : Sh2 h A) (hp : ∀ i, i < 7 → zJ M (A 13) i = p i) : lp_X9_parts_20 h k (A 0) M fuel 0 = some (match fsb (fun i => ¬ (0 < p i ∧ Int32.ofNat (ahd p i 7) = k)) 7 0 with | none => .inr 7 | some i => .inl (Int32.ofNat i, M)) := by
  have s := S.s
  have K : ∀ (r j n : Nat), r + j = 7 → r < n → lp_X9_parts_20 h k (A 0) M n (Int32.ofNat j) = some (match fsb (fun i => ¬ (0 < p i ∧ Int32.ofNat (ahd p i 7) = k)) r j with | none => .inr 7 | some i => .inl (Int32.ofNat i, M)) := by
    intro r
    induction r with
    | zero =>
      intro j n hj hn
      obtain ⟨n, rfl⟩ : ∃ q, n = q + 1 := ⟨n - 1, by omega⟩
      have : j = 7 := by omega
      subst this
      simp only [lp_X9_parts_20]
      rw [if_pos (by decide)]; rfl
    | succ r ih =>
      intro j n hj hn
      obtain ⟨n, rfl⟩ : ∃ q, n = q + 1 := ⟨n - 1, by omega⟩
      have hj7 : j < 7 := by omega
      obtain ⟨z, e1, e2⟩ := r_ahd (w2 := k) S hj7 hp
      simp only [lp_X9_parts_20]
      rw [if_neg (by rw [i_Lle (by omega) (by simp)]; simp; omega), e1, b_some, e2]
      simp (disch := omega) only [gd, ok, dq, s, and_self, if_true, i_inb, hj7, i_nat, hp j hj7, fsb]
      by_cases g2 : Int32.ofNat (ahd p j 7) = k
      · rw [if_neg (not_not_intro g2)]
        by_cases g1 : 0 < p j
        · rw [if_neg (Int64.not_le.mpr g1), if_neg (fun z => z ⟨g1, g2⟩)]
        · rw [if_pos (Int64.not_lt.mp g1), if_pos (fun z => g1 z.1), lt_, i_addL]
          exact ih (j + 1) n (by omega) (by omega)
      · rw [if_pos g2, if_pos (fun z => g2 z.2), lt_, i_addL]
        exact ih (j + 1) n (by omega) (by omega)
  exact K 7 0 fuel rfl (by unfold fuel; omega)
theorem t_parts (V : Inv h1 M1 h2 M2 B A pic) : SimT (f_X8_parts h1 (B 0) a k M1) (f_X9_parts h2 (A 0) a k M2) h1 h2 B A pic := by
  have S1 := V.1
  have S2 := V.2.1
  have s := S2.s
  have q := S2.e
  obtain ⟨x0, -, x1, x2, x3, -⟩ := S1.2.1
  have sb := S1.2.2.2.1
  have W := V.2.2.1
  by_cases ha : 0 ≤ a ∧ a < 12
  · obtain ⟨d, hd, rfl⟩ := good12 ha
    unfold f_X8_parts f_X9_parts
    rw [gd, if_pos x0, x1, dq, gd, if_pos sb.1, x_detailAt sb hd, b_some, mq, r_no hd, b_some, gd, if_pos s.1, r_throwsIf S2 (Or.inl rfl), b_some, if_pos rfl]
    unfold SimT
    rw [wp_bind]
    refine (x_reckonWear V hd).mono ?_
    rintro M1' ⟨F1, p1, l1, l2⟩
    rw [x_partsL S1.2.1 p1, b_some]
    have eI : zI (sI M2 (A 0) 0 0) (A 1) = zI M2 (A 1) := funext fun j => by simp [zI_sI, q]
    have C := r_count0 (M := sI M2 (A 0) 0 0) S2 eI W hd
    cases hf : fsb (fun i => ¬ (0 < wpA (zI M2 (A 1)) d i ∧ Int32.ofNat (ahd (wpA (zI M2 (A 1)) d) i 7) = k)) 7 0 with
    | none =>
      simp only [sm]
      rw [wp_some, wp_bind]
      refine C.mono ?_
      rintro M2' ⟨F2, c1, c2⟩
      rw [r_partsL S2 c1, b_some, hf]
      simp only [sm]
      refine wp_some.mpr ⟨V.sc F1 ((FB.rf.sI S2.2 (by omega)).tr (F2.up fun i j z => by omega)), ?_, rfl⟩
      show zI M2' (A 0) 0 = 0
      rw [F2.i (by omega)]; simp [zI_sI]
    | some i =>
      simp only [sm]
      rw [wp_some, wp_bind]
      refine C.mono ?_
      rintro M2' ⟨F2, c1, c2⟩
      rw [r_partsL S2 c1, b_some, hf]
      simp only [sm]
      refine wp_some.mpr ⟨V.sc F1 ((FB.rf.sI S2.2 (by omega)).tr (F2.up fun i j z => by omega)), ?_, rfl⟩
      show zI M2' (A 0) 0 = 0
      rw [F2.i (by omega)]; simp [zI_sI]
  · unfold f_X8_parts f_X9_parts
    rw [gd, if_pos x0, x1, dq, gd, if_pos sb.1, x_detailB sb ha, b_some, mq, r_noB ha, b_some, gd, if_pos s.1, r_throwsIf S2 (Or.inr rfl), b_some, if_neg (show ¬ (1 : Int32) = 0 by decide)]
    exact wp_some.mpr (wp_some.mpr ⟨V.tv, by show zI _ _ _ = _; simp [zI_sI]⟩)
theorem t_part (V : Inv h1 M1 h2 M2 B A pic) : SimTJ (f_X8_part h1 (B 0) a k M1) (f_X9_part h2 (A 0) a k M2) h1 h2 B A pic := by
  have S1 := V.1
  have S2 := V.2.1
  have s := S2.s
  have q := S2.e
  obtain ⟨x0, -, x1, x2, x3, -⟩ := S1.2.1
  have o10 := S1.2.1.2.2.2.2.2.2.2.2.2.1.1
  have sb := S1.2.2.2.1
  have W := V.2.2.1
  have d1 : ¬ (1 : Int32) = 0 := by decide
  have thr : ∀ (v : Int64), SimTJ (some (none, M1)) (some (v, sI M2 (A 0) 0 1)) h1 h2 B A pic := fun v => wp_some.mpr (wp_some.mpr ⟨V.tv, by show zI _ _ _ = _; simp [zI_sI]⟩)
  by_cases ha : 0 ≤ a ∧ a < 12
  · obtain ⟨d, hd, rfl⟩ := good12 ha
    have sd := sb.2.2.2.2.2.2.2.2.2.2 d hd
    have wd := W.2 d hd
    obtain ⟨c6, ec, -⟩ := bdC_le wd
    have hcnt := ((V.2.2.2.2.1 d hd).lad (i := 0) (by omega) ec (by omega)).1
    have f2 : 4848 + 40 * d + 2 < 5328 := by omega
    have eI : zI (sI M2 (A 0) 0 0) (A 1) = zI M2 (A 1) := funext fun j => by simp [zI_sI, q]
    have good : ∀ i, i < 7 → SimTJ ((f_X8_reckonWear h1 (B 0) (aD B 0 d) M1).bind fun z6 => dq (zR h1 (B 0) 3) fun q7 => gd (ok h1 q7 7) ((f_X7_partOf h1 q7 (Int32.ofNat i) z6).bind fun z8 => some (some z8, z6)))
        ((f_X9_throwsIf h2 (A 0) 0 M2).bind fun z11 => if z11.1 = 0 then (f_X9_count0 h2 (A 0) (Int32.ofNat d) z11.2).bind fun z13 => dq (zR h2 (A 0) 20) fun q14 => gd (ok h2 q14 12) <| gd (inb (Int32.ofNat i) (zN h2 q14)) <| some (zJ z13 q14 (Int32.ofNat i).toNatClampNeg, z13) else some ((0 : Int64), z11.2)) h1 h2 B A pic := by
      intro i hi
      rw [r_throwsIf S2 (Or.inl rfl), b_some, if_pos rfl]
      unfold SimTJ
      rw [wp_bind]
      refine (x_reckonWear V hd).mono ?_
      rintro M1' ⟨F1, p1, l1, l2⟩
      rw [x3, wp_dq, wp_gd]
      refine ⟨o10, ?_⟩
      rw [x_partOf S1.2.1 hi p1, b_some, wp_some, wp_bind]
      refine (r_count0 (M := sI M2 (A 0) 0 0) S2 eI W hd).mono ?_
      rintro M2' ⟨F2, c1, c2⟩
      simp (disch := omega) only [gd, ok, dq, s, and_self, if_true, i_inb, hi, i_nat, c1 i hi]
      refine wp_some.mpr ⟨V.sc F1 ((FB.rf.sI S2.2 (by omega)).tr (F2.up fun i j z => by omega)), ?_, rfl⟩
      show zI M2' (A 0) 0 = 0
      rw [F2.i (by omega)]; simp [zI_sI]
    unfold f_X8_part f_X9_part f_X9_base
    rw [gd, if_pos x0, x1, dq, gd, if_pos sb.1, x_detailAt sb hd, b_some, mq, r_no hd, b_some, if_neg (not_not_intro rfl)]
    by_cases g1 : k < 0
    · rw [if_pos g1, if_pos g1, b_some, gd, if_pos s.1, r_throwsIf S2 (Or.inr rfl), b_some, if_neg d1]
      exact thr _
    · rw [if_neg g1, if_neg g1]
      have g1' := Int32.not_lt.mp g1
      by_cases g6 : k = 6
      · subst g6
        rw [if_pos rfl, if_neg (by decide), if_pos (by decide), b_some, gd, if_pos s.1]
        exact good 6 (by omega)
      · rw [if_neg g6, gd, if_pos sd.1, sd.2.1 0 (by omega), dq, gd, if_pos (sd.2.2 0 (by omega)).1, hcnt]
        by_cases g7 : k < Int32.ofNat (bdC (zI M2 (A 1)) d)
        · obtain ⟨i, hi, rfl⟩ := i_of g1' g7 (by omega)
          rw [if_pos g7, if_neg (show ¬ (6 : Int32) < Int32.ofNat i by rw [i_Llt (by omega) (by simp)]; show ¬ 6 < i; omega), if_neg (show ¬ (6 : Int32) ≤ Int32.ofNat i by rw [i_Lle (by omega) (by simp)]; show ¬ 6 ≤ i; omega)]
          simp (disch := omega) only [gd, ok, dq, s, and_self, if_true, b_some, i_mulL, i_Ladd, i_addL, i_inb, f2, i_nat, ec]
          rw [if_pos g7, b_some]
          have G := good i (by omega)
          simp (disch := omega) only [gd, ok, dq, s, and_self, if_true, i_inb, i_nat] at G ⊢
          exact G
        · rw [if_neg g7]
          have ey : (if 6 < k then some (1 : Int32) else if 6 ≤ k then some 0 else gd (ok h2 (A 0) 9) (dq (zR h2 (A 0) 1) fun q6 => (some ((4848 : Int32) + 40 * Int32.ofNat d)).bind fun z7 => gd (ok h2 q6 11) (gd (inb (z7 + 2) (zN h2 q6)) (if k < zI M2 q6 (z7 + 2).toNatClampNeg then some 0 else some 1)))) = some 1 := by
            by_cases y1 : 6 < k
            · rw [if_pos y1]
            · rw [if_neg y1]
              have y2 : ¬ 6 ≤ k := fun z => g6 (Int32.le_antisymm (Int32.not_lt.mp y1) z)
              rw [if_neg y2]
              simp (disch := omega) only [gd, ok, dq, s, and_self, if_true, b_some, i_mulL, i_Ladd, i_addL, i_inb, f2, i_nat, ec]
              rw [if_neg g7]
          rw [ey, b_some, gd, if_pos s.1, r_throwsIf S2 (Or.inr rfl), b_some, if_neg d1]
          exact thr _
  · unfold f_X8_part f_X9_part
    rw [gd, if_pos x0, x1, dq, gd, if_pos sb.1, x_detailB sb ha, b_some, mq, r_noB ha, b_some, if_pos d1, b_some, gd, if_pos s.1, r_throwsIf S2 (Or.inr rfl), b_some, if_neg d1]
    exact thr _
end P
