/-! CALLS: cycle -/
section R
variable {h h1 h2 : Hs} {B A : Nat → Nat} {M M1 M2 : Mm} {pic : Prop} {n from_ : Nat} {p a b k v : Int32} {T : List Int32} {C : List Cy} {y : Cy} {i j : Nat}
/-- what the class answers of a cycle -/
theorem x_ofCycle (x0 : ok h (B 0) 8) (x2 : zR h (B 0) 2 = some (B 3)) (s : RwA h B) (hT : stk M (B 5) T) (h4 : T.length ≤ 400) (hr : ∀ x ∈ T, rdg x) (hi : i < 200) (e1 : zI M (B 7) i = Int32.ofNat y.1) (e2 : zI M (B 8) i = Int32.ofNat y.2.1) (e3 : zI M (B 9) i = Int32.ofNat y.2.2) (hy : y.1 < T.length ∧ y.2.1 < T.length) :
    f_X8_ofCycle h (B 0) (Int32.ofNat i) a M = some (if a = 0 then nth T y.1 else if a = 1 then nth T y.2.1 else if a = 2 then Int32.ofNat y.1 else if a = 3 then Int32.ofNat y.2.1 else if a = 4 then Int32.ofNat y.2.2 else if a = 5 then far (nth T y.1) (nth T y.2.1) else nth T y.1 + nth T y.2.1) := by
  unfold f_X8_ofCycle
  rw [gd, if_pos x0, x2, dq, gd, if_pos s.1, x_firstOf s hi, b_some, x_secondOf s hi, b_some, e1, e2, x_turnAt s (show y.1 < 400 by omega), x_turnAt s (show y.2.1 < 400 by omega), x_closerOf s hi, e3, x_rangeOf s hT h4 hy.1 hy.2 hr, x_meanOf s hT h4 hy.1 hy.2, hT.get hy.1, hT.get hy.2]
  simp only [b_some]
  split
  · rfl
  · split
    · rfl
    · split
      · rfl
      · split
        · rfl
        · split
          · rfl
          · split <;> rfl
theorem r_ofCycle (S : Sh2 h A) (hT : stk M (A 6) T) (h4 : T.length ≤ 400) (hi : i < 200) (e1 : zI M (A 8) i = Int32.ofNat y.1) (e2 : zI M (A 9) i = Int32.ofNat y.2.1) (e3 : zI M (A 10) i = Int32.ofNat y.2.2) (hy : y.1 < T.length ∧ y.2.1 < T.length) :
    (if a = 0 then dq (zR h (A 0) 9) fun q15 => dq (zR h (A 0) 13) fun q16 => gd (ok h q16 11) <| gd (inb (Int32.ofNat i) (zN h q16)) <| gd (ok h q15 11) <| gd (inb (zI M q16 (Int32.ofNat i).toNatClampNeg) (zN h q15)) <| some (zI M q15 (zI M q16 (Int32.ofNat i).toNatClampNeg).toNatClampNeg, M)
      else if a = 1 then dq (zR h (A 0) 9) fun q20 => dq (zR h (A 0) 14) fun q21 => gd (ok h q21 11) <| gd (inb (Int32.ofNat i) (zN h q21)) <| gd (ok h q20 11) <| gd (inb (zI M q21 (Int32.ofNat i).toNatClampNeg) (zN h q20)) <| some (zI M q20 (zI M q21 (Int32.ofNat i).toNatClampNeg).toNatClampNeg, M)
      else if a = 2 then dq (zR h (A 0) 13) fun q25 => gd (ok h q25 11) <| gd (inb (Int32.ofNat i) (zN h q25)) <| some (zI M q25 (Int32.ofNat i).toNatClampNeg, M)
      else if a = 3 then dq (zR h (A 0) 14) fun q28 => gd (ok h q28 11) <| gd (inb (Int32.ofNat i) (zN h q28)) <| some (zI M q28 (Int32.ofNat i).toNatClampNeg, M)
      else if a = 4 then dq (zR h (A 0) 15) fun q31 => gd (ok h q31 11) <| gd (inb (Int32.ofNat i) (zN h q31)) <| some (zI M q31 (Int32.ofNat i).toNatClampNeg, M)
      else if a = 5 then (f_X9_rangeOf h (A 0) (Int32.ofNat i) M).bind fun z34 => some (z34, M)
      else (f_X9_meanOf h (A 0) (Int32.ofNat i) M).bind fun z35 => some (z35, M))
    = some ((if a = 0 then nth T y.1 else if a = 1 then nth T y.2.1 else if a = 2 then Int32.ofNat y.1 else if a = 3 then Int32.ofNat y.2.1 else if a = 4 then Int32.ofNat y.2.2 else if a = 5 then far (nth T y.1) (nth T y.2.1) else nth T y.1 + nth T y.2.1), M) := by
  have s := S.s
  have f1 : y.1 < 400 := by omega
  have f2 : y.2.1 < 400 := by omega
  rw [r_rangeOf S hT h4 hi e1 e2 hy, r_meanOf S hT h4 hi e1 e2 hy]
  have g1 : zI M (A 6) y.1 = nth T y.1 := hT.get hy.1
  have g2 : zI M (A 6) y.2.1 = nth T y.2.1 := hT.get hy.2
  simp (disch := omega) only [gd, ok, dq, s, and_self, if_true, i_inb, hi, i_nat, e1, e2, e3, f1, f2, g1, g2, b_some]
  split
  · rfl
  · split
    · rfl
    · split
      · rfl
      · split
        · rfl
        · split
          · rfl
          · split <;> rfl
theorem t_cycle (V : Inv h1 M1 h2 M2 B A pic) : SimT (f_X8_cycle h1 (B 0) p k a M1) (f_X9_cycle h2 (A 0) p k a M2) h1 h2 B A pic := by
  have S1 := V.1
  have S2 := V.2.1
  have s := S2.s
  have q := S2.e
  obtain ⟨x0, -, x1, x2, -⟩ := S1.2.1
  have sb := S1.2.2.2.1
  have sr := S1.2.2.1
  have W := V.2.2.1
  have d1 : ¬ (1 : Int32) = 0 := by decide
  have thr : ∀ (M1' : Mm) (M2' : Mm), Inv h1 M1' h2 M2' B A pic → zI M2' (A 0) 0 = 1 → ∀ v, wp (some ((none : Option Int32), M1')) (fun z => wp (some (v, M2')) (fun z' => Inv h1 z.2 h2 z'.2 B A pic ∧ (match z.1 with
    | some v => zI z'.2 (A 0) 0 = 0 ∧ z'.1 = v
    | none => zI z'.2 (A 0) 0 = 1))) := fun M1' M2' V' e v => wp_some.mpr (wp_some.mpr ⟨V', e⟩)
  by_cases hp : 0 ≤ p ∧ p < 12
  · obtain ⟨n, hn, rfl⟩ := good12 hp
    unfold f_X8_cycle f_X9_cycle
    rw [gd, if_pos x0, x1, dq, gd, if_pos sb.1, x_gaugeAt sb V.2.2.2.1 hn, b_some, gd, if_pos s.1, r_isGauge S2 hn, b_some]
    by_cases g : isG (zI M2 (A 1)) n
    · rw [if_pos g, if_pos g, mq, if_neg d1]
      by_cases g1 : a < 0
      · rw [if_pos g1]
        have : ∃ z, z = (1 : Int32) ∧ (if k < 0 then some (1 : Int32) else if a < 0 then some 1 else if a ≤ 6 then some 0 else some 1) = some z := by
          refine ⟨1, rfl, ?_⟩
          by_cases z : k < 0
          · rw [if_pos z]
          · rw [if_neg z, if_pos g1]
        obtain ⟨z, rfl, ez⟩ := this
        rw [ez, b_some, r_throwsIf S2 (Or.inr rfl), b_some, if_neg d1]
        exact thr _ _ V.tv (by simp [zI_sI]) _
      · rw [if_neg g1]
        by_cases g2 : a ≤ 6
        · rw [if_pos g2, x2, dq, gd, if_pos sr.1]
          unfold SimT
          rw [wp_bind]
          refine (both1 (from_ := 0) V hn g (by omega)).mono ?_
          rintro M1' ⟨F1, l6, l7, l8, l9, lT, l10, l11, lP, lA, lB, lC⟩
          obtain ⟨t4, -, p4, c4⟩ := trn400 (from_ := 0) W hn
          have hC : ∀ y ∈ (pilL (trnL (zI M2 (A 1)) n 0)).2, y.1 < (trnL (zI M2 (A 1)) n 0).length ∧ y.2.1 < (trnL (zI M2 (A 1)) n 0).length ∧ y.2.2 < (trnL (zI M2 (A 1)) n 0).length := fun y hy => pilN_cyc hy
          have hr := trnL_rdg (from_ := 0) W hn
          have V1 : Inv h1 M1' h2 M2 B A pic := V.sc F1 FB.rf
          by_cases g3 : k < 0
          · rw [if_pos g3, if_pos g3, b_some, r_throwsIf S2 (Or.inr rfl), b_some, if_neg d1]
            exact thr _ _ V1.tv (by simp [zI_sI]) _
          · have g3' := Int32.not_lt.mp g3
            rw [if_neg g3, if_neg g3, if_neg g1, if_pos g2, b_some, r_throwsIf S2 (Or.inl rfl), b_some, if_pos rfl, l11]
            have V2 : Inv h1 M1' h2 (sI M2 (A 0) 0 0) B A pic := V1.tv
            have eI : zI (sI M2 (A 0) 0 0) (A 1) = zI M2 (A 1) := funext fun j => by simp [zI_sI, q]
            have b2 := both2 (from_ := 0) V2 hn (by omega)
            rw [eI] at b2
            by_cases g4 : k < Int32.ofNat (pilL (trnL (zI M2 (A 1)) n 0)).2.length
            · obtain ⟨i, hi, rfl⟩ := i_of g3' g4 (by omega)
              obtain ⟨y, hy, y1, y2, y3⟩ := stkC_get lA lB lC hi
              have hy' := hC y hy
              rw [if_pos g4, x_ofCycle x0 x2 sr lT t4 hr (show i < 200 by omega) y1 y2 y3 ⟨hy'.1, hy'.2.1⟩, b_some, wp_some, wp_bind]
              refine b2.mono ?_
              rintro M2' ⟨F2, m11, m12, mT, ⟨m16, mA, mB, mC⟩, m19, mR⟩
              have hl : ∀ f : Cy → Int32, i < ((pilL (trnL (zI M2 (A 1)) n 0)).2.map f).length := fun f => by simpa using hi
              have F3 : FB A (fun i j => i = 0 ∧ j = 0) M2' (sI M2' (A 0) 0 0) := FB.rf.sI S2.2 ⟨rfl, rfl⟩
              rw [m16, if_pos g4, b_some, r_throwsIf S2 (Or.inl rfl), b_some, if_pos rfl]
              have R := r_ofCycle (a := a) (M := sI M2' (A 0) 0 0) (y := y) (i := i) S2 (mT.congr fun i _ => F3.i (by omega)) t4 (by omega) (by rw [F3.i (by omega), ← y1]; exact (mA.two lA (hl _))) (by rw [F3.i (by omega), ← y2]; exact (mB.two lB (hl _))) (by rw [F3.i (by omega), ← y3]; exact (mC.two lC (hl _))) ⟨hy'.1, hy'.2.1⟩
              refine (wp_eqv R).mpr ?_
              rw [wp_some]
              exact ⟨V2.sc (M1' := M1') FB.rf ((F2.up fun i j z => by omega).tr (F3.up fun i j z => by omega)), by simp [zI_sI], rfl⟩
            · rw [if_neg g4, wp_some, wp_bind]
              refine b2.mono ?_
              rintro M2' ⟨F2, m11, m12, mT, ⟨m16, mA, mB, mC⟩, m19, mR⟩
              rw [m16, if_neg g4, b_some, r_throwsIf S2 (Or.inr rfl), b_some, if_neg d1, wp_some]
              exact ⟨V2.sc (M1' := M1') FB.rf ((F2.up fun i j z => by omega).tr (FB.rf.sI S2.2 (by omega))), by show zI _ _ _ = _; simp [zI_sI]⟩
        · rw [if_neg g2]
          have : (if k < 0 then some (1 : Int32) else if a < 0 then some 1 else some 1) = some 1 := by split <;> (try split) <;> rfl
          rw [if_neg g2, this, b_some, r_throwsIf S2 (Or.inr rfl), b_some, if_neg d1]
          exact thr _ _ V.tv (by simp [zI_sI]) _
    · rw [if_neg g, if_neg g, mq, if_pos rfl, b_some, r_throwsIf S2 (Or.inr rfl), b_some, if_neg d1]
      exact thr _ _ V.tv (by simp [zI_sI]) _
  · unfold f_X8_cycle f_X9_cycle
    rw [gd, if_pos x0, x1, dq, gd, if_pos sb.1, x_gaugeB sb hp, b_some, gd, if_pos s.1, r_isGaugeB S2 hp, b_some, mq, if_pos rfl, b_some, r_throwsIf S2 (Or.inr rfl), b_some, if_neg d1]
    exact thr _ _ V.tv (by simp [zI_sI]) _
end R
