/-! CALLS that may throw: span, turn, cycle -/
def SimT (x : Option (Option Int32 × Mm)) (y : Option (Int32 × Mm)) (h1 h2 : Hs) (B A : Nat → Nat) (pic : Prop) : Prop := wp x (fun z => wp y (fun z' => Inv h1 z.2 h2 z'.2 B A pic ∧ (match z.1 with
  | some v => zI z'.2 (A 0) 0 = 0 ∧ z'.1 = v
  | none => zI z'.2 (A 0) 0 = 1)))
def SimTJ (x : Option (Option Int64 × Mm)) (y : Option (Int64 × Mm)) (h1 h2 : Hs) (B A : Nat → Nat) (pic : Prop) : Prop := wp x (fun z => wp y (fun z' => Inv h1 z.2 h2 z'.2 B A pic ∧ (match z.1 with
  | some v => zI z'.2 (A 0) 0 = 0 ∧ z'.1 = v
  | none => zI z'.2 (A 0) 0 = 1)))
theorem stk2_get {M M' : Mm} {a a' : Nat} {f : Nat → Int32} : ∀ {P : List Nat} {k : Nat}, stk M a (P.map Int32.ofNat) → stk M' a' (P.map f) → k < P.length → ∃ x ∈ P, zI M a k = Int32.ofNat x ∧ zI M' a' k = f x
  | x :: r, k, ⟨e1, s1⟩, ⟨e2, s2⟩, hk => by
    simp only [List.length_map] at e1 e2
    by_cases g : k = r.length
    · subst g
      exact ⟨x, List.mem_cons_self, e1, e2⟩
    · obtain ⟨y, hy, h⟩ := stk2_get s1 s2 (show k < r.length by simp at hk; omega)
      exact ⟨y, List.mem_cons_of_mem _ hy, h⟩
section R
variable {h h1 h2 : Hs} {B A : Nat → Nat} {M M1 M2 : Mm} {pic : Prop} {n from_ : Nat} {p a b k v : Int32} {T : List Int32} {C : List Cy} {y : Cy} {i j : Nat}
theorem Inv.tv (V : Inv h1 M1 h2 M2 B A pic) : Inv h1 M1 h2 (sI M2 (A 0) 0 v) B A pic := V.sc FB.rf (FB.rf.sI V.2.1.2 (by omega))
theorem r_throwsIf (S : Sh2 h A) (hv : v = 0 ∨ v = 1) : f_X9_throwsIf h (A 0) v M = some (v, sI M (A 0) 0 v) := by
  have s := S.s
  unfold f_X9_throwsIf
  rcases hv with rfl | rfl
  · simp only [gd, ok, s, and_self, if_true, b_some, lt_, true_or]
  · rw [if_neg (by decide)]
    simp only [gd, ok, s, and_self, if_true, b_some, lt_, or_true]
theorem x_rangeOf (s : RwA h B) (hT : stk M (B 5) T) (h4 : T.length ≤ 400) (hi : i < T.length) (hj : j < T.length) (hr : ∀ x ∈ T, rdg x) : f_X5_rangeOf h (B 3) (Int32.ofNat i) (Int32.ofNat j) M = some (far (nth T i) (nth T j)) := by
  unfold f_X5_rangeOf
  rw [gd, if_pos s.1, x_turnAt s (show i < 400 by omega), b_some, x_turnAt s (show j < 400 by omega), b_some, hT.get hi, hT.get hj]
  show some (if 0 ≤ nth T i - nth T j then nth T i - nth T j else 0 - (nth T i - nth T j)) = _
  rw [far_eq (hr _ (nth_mem hi)) (hr _ (nth_mem hj))]
theorem x_meanOf (s : RwA h B) (hT : stk M (B 5) T) (h4 : T.length ≤ 400) (hi : i < T.length) (hj : j < T.length) : f_X5_meanOf h (B 3) (Int32.ofNat i) (Int32.ofNat j) M = some (nth T i + nth T j) := by
  unfold f_X5_meanOf
  rw [gd, if_pos s.1, x_turnAt s (show i < 400 by omega), b_some, x_turnAt s (show j < 400 by omega), b_some, hT.get hi, hT.get hj]
  rfl
theorem r_rangeOf (S : Sh2 h A) (hT : stk M (A 6) T) (h4 : T.length ≤ 400) (hi : i < 200) (e1 : zI M (A 8) i = Int32.ofNat y.1) (e2 : zI M (A 9) i = Int32.ofNat y.2.1) (hy : y.1 < T.length ∧ y.2.1 < T.length) : f_X9_rangeOf h (A 0) (Int32.ofNat i) M = some (far (nth T y.1) (nth T y.2.1)) := by
  have s := S.s
  have f1 : y.1 < 400 := by omega
  have f2 : y.2.1 < 400 := by omega
  unfold f_X9_rangeOf far
  simp (disch := omega) only [gd, ok, dq, s, and_self, if_true, i_inb, hi, i_nat, e1, e2, f1, f2, lt_, hT.get hy.1, hT.get hy.2]
  show (if nth T y.1 ≤ nth T y.2.1 then some (nth T y.2.1 - nth T y.1) else some (nth T y.1 - nth T y.2.1)) = _
  split <;> rfl
theorem r_meanOf (S : Sh2 h A) (hT : stk M (A 6) T) (h4 : T.length ≤ 400) (hi : i < 200) (e1 : zI M (A 8) i = Int32.ofNat y.1) (e2 : zI M (A 9) i = Int32.ofNat y.2.1) (hy : y.1 < T.length ∧ y.2.1 < T.length) : f_X9_meanOf h (A 0) (Int32.ofNat i) M = some (nth T y.1 + nth T y.2.1) := by
  have s := S.s
  have f1 : y.1 < 400 := by omega
  have f2 : y.2.1 < 400 := by omega
  unfold f_X9_meanOf
  simp (disch := omega) only [gd, ok, dq, s, and_self, if_true, i_inb, hi, i_nat, e1, e2, f1, f2, hT.get hy.1, hT.get hy.2]
  rfl
theorem t_span (V : Inv h1 M1 h2 M2 B A pic) : SimT (f_X8_span h1 (B 0) p a M1) (f_X9_span h2 (A 0) p a M2) h1 h2 B A pic := by
  have S1 := V.1
  have S2 := V.2.1
  have s := S2.s
  have q := S2.e
  obtain ⟨x0, -, x1, x2, -⟩ := S1.2.1
  have sb := S1.2.2.2.1
  have W := V.2.2.1
  have thr : ∀ (x : Option (Option Int32 × Mm)) (y : Option (Int32 × Mm)), x = some (none, M1) → y = some (0, sI M2 (A 0) 0 1) → SimT x y h1 h2 B A pic := by
    rintro x y rfl rfl
    exact wp_some.mpr (wp_some.mpr ⟨V.tv, by show zI _ _ _ = _; simp [zI_sI]⟩)
  by_cases hp : 0 ≤ p ∧ p < 12
  · obtain ⟨n, hn, rfl⟩ := good12 hp
    have hs := spS_le W hn
    unfold f_X8_span f_X9_span
    simp only [gd, ok, x0, x1, dq, sb.1, s, and_self, if_true, x_gaugeAt sb V.2.2.2.1 hn, b_some, r_isGauge S2 hn, (r_spans S2 hn W).1]
    by_cases g : isG (zI M2 (A 1)) n
    · simp only [if_pos g, mq, x_spansOf sb V.2.2.2.1 W hn g, b_some]
      rw [if_neg (show ¬ (1 : Int32) = 0 by decide)]
      by_cases g1 : a < 0
      · rw [if_pos g1, if_pos g1, b_some, r_throwsIf S2 (Or.inr rfl), b_some, if_neg (show ¬ (1 : Int32) = 0 by decide)]
        exact thr _ _ rfl rfl
      · rw [if_neg g1, if_neg g1]
        by_cases g2 : a < Int32.ofNat (spS (zI M2 (A 1)) n)
        · obtain ⟨k, hk, rfl⟩ := i_of (Int32.not_lt.mp g1) g2 (by omega)
          have eI : zI (sI M2 (A 0) 0 0) (A 1) = zI M2 (A 1) := funext fun j => by simp [zI_sI, q]
          have ra := r_at (M := sI M2 (A 0) 0 0) S2 hn (by rw [eI]; exact W) (show k < 400 by omega)
          rw [eI] at ra
          rw [if_pos g2, if_pos g2, (x_cellOf sb V.2.2.2.1 W hn g hk).1, b_some, b_some, r_throwsIf S2 (Or.inl rfl), b_some, if_pos rfl, ra, b_some]
          exact wp_some.mpr (wp_some.mpr ⟨V.tv, by simp [zI_sI], rfl⟩)
        · rw [if_neg g2, if_neg g2, b_some, r_throwsIf S2 (Or.inr rfl), b_some, if_neg (show ¬ (1 : Int32) = 0 by decide)]
          exact thr _ _ rfl rfl
    · simp only [if_neg g, mq, if_true]
      rw [b_some, r_throwsIf S2 (Or.inr rfl), b_some, if_neg (show ¬ (1 : Int32) = 0 by decide)]
      exact thr _ _ rfl rfl
  · unfold f_X8_span f_X9_span
    simp only [gd, ok, x0, x1, dq, sb.1, s, and_self, if_true, x_gaugeB sb hp, b_some, mq, r_isGaugeB S2 hp]
    rw [r_throwsIf S2 (Or.inr rfl), b_some, if_neg (show ¬ (1 : Int32) = 0 by decide)]
    exact thr _ _ rfl rfl
theorem t_turn (V : Inv h1 M1 h2 M2 B A pic) : SimT (f_X8_turn h1 (B 0) p a k M1) (f_X9_turn h2 (A 0) p a k M2) h1 h2 B A pic := by
  have S1 := V.1
  have S2 := V.2.1
  have s := S2.s
  have q := S2.e
  obtain ⟨x0, -, x1, x2, -⟩ := S1.2.1
  have sb := S1.2.2.2.1
  have sr := S1.2.2.1
  have W := V.2.2.1
  have d1 : ¬ (1 : Int32) = 0 := by decide
  have thr : ∀ (M1' : Mm) (M2' : Mm), Inv h1 M1' h2 M2' B A pic → zI M2' (A 0) 0 = 1 → ∀ v, wp (some ((none : Option Int32), M1')) (fun z => wp (some (v, M2')) (fun z' => Inv h1 z.2 h2 z'.2 B A pic ∧ (match z.1 with
    | some v => zI z'.2 (A 0) 0 = 0 ∧ z'.1 = v
    | none => zI z'.2 (A 0) 0 = 1))) := fun M1' M2' V' e v => wp_some.mpr (wp_some.mpr ⟨V', e⟩)
  by_cases hp : 0 ≤ p ∧ p < 12
  · obtain ⟨n, hn, rfl⟩ := good12 hp
    unfold f_X8_turn f_X9_turn
    simp only [gd, ok, x0, x1, x2, dq, sb.1, sr.1, s, and_self, if_true, x_gaugeAt sb V.2.2.2.1 hn, b_some, r_isGauge S2 hn]
    by_cases g : isG (zI M2 (A 1)) n
    · simp only [if_pos g, mq]
      rw [if_neg d1]
      by_cases g1 : a < 0
      · rw [if_pos g1, if_pos g1, b_some, r_throwsIf S2 (Or.inr rfl), b_some, if_neg d1]
        exact thr _ _ V.tv (by simp [zI_sI]) _
      · rw [if_neg g1, if_neg g1]
        by_cases g2 : a ≤ 1
        · rw [if_pos g2, if_neg (Int32.not_lt.mpr g2)]
          unfold SimT
          rw [wp_bind]
          refine (both1 (from_ := 0) V hn g (by omega)).mono ?_
          rintro M1' ⟨F1, l6, l7, l8, l9, lT, l10, l11, lP, -⟩
          obtain ⟨t4, -, p4, -⟩ := trn400 (from_ := 0) W hn
          have hP : ∀ x ∈ (pilL (trnL (zI M2 (A 1)) n 0)).1, x < (trnL (zI M2 (A 1)) n 0).length := fun x hx => pilN_mem hx
          have V1 : Inv h1 M1' h2 M2 B A pic := V.sc F1 FB.rf
          by_cases g3 : k < 0
          · have e9 : ∃ v, (if ¬a = 0 then some (zI M1' (B 3) 10) else some (zI M1' (B 3) 9)) = some v := by by_cases z : a = 0 <;> simp [z]
            obtain ⟨v9, e9⟩ := e9
            rw [if_neg (Int32.not_le.mpr g3), e9, wp_bind, wp_some, if_pos g3, b_some, r_throwsIf S2 (Or.inr rfl), b_some, if_neg d1]
            exact thr _ _ V1.tv (by simp [zI_sI]) _
          · have g3' := Int32.not_lt.mp g3
            rw [if_pos g3', b_some, r_throwsIf S2 (Or.inl rfl), b_some, if_pos rfl]
            have V2 : Inv h1 M1' h2 (sI M2 (A 0) 0 0) B A pic := V1.tv
            have eI : zI (sI M2 (A 0) 0 0) (A 1) = zI M2 (A 1) := funext fun j => by simp [zI_sI, q]
            have b2 := both2 (from_ := 0) V2 hn (by omega)
            rw [eI] at b2
            generalize trnL (zI M2 (A 1)) n 0 = T at *
            generalize (pilL T).1 = P at *
            by_cases a0 : a = 0
            · subst a0
              rw [if_neg (not_not_intro rfl), wp_bind, wp_some, if_neg g3, l9]
              by_cases g4 : k < Int32.ofNat T.length
              · obtain ⟨i, hi, rfl⟩ := i_of g3' g4 (by omega)
                rw [if_pos g4, if_neg (not_not_intro rfl), b_some, x_turnAt sr (show i < 400 by omega), b_some, lT.get hi, wp_some, wp_bind]
                refine b2.mono ?_
                rintro M2' ⟨F2, m11, m12, mT, mC, m19, mR⟩
                rw [if_neg (not_not_intro rfl), b_some, m12, if_pos g4, b_some, r_throwsIf S2 (Or.inl rfl), b_some, if_pos rfl, if_neg (not_not_intro rfl)]
                have f1 : i < 400 := by omega
                rw [if_pos (show inb (Int32.ofNat i) 400 by rw [i_inb (by omega)]; exact f1), i_nat (by omega), wp_some]
                refine ⟨V2.sc (M1' := M1') FB.rf ((F2.up fun i j z => by omega).tr (FB.rf.sI S2.2 (by omega))), by simp [zI_sI], ?_⟩
                have := mT.get hi
                simp [zI_sI, q, this]
              · rw [if_neg g4, wp_some, wp_bind]
                refine b2.mono ?_
                rintro M2' ⟨F2, m11, m12, mT, mC, m19, mR⟩
                rw [if_neg (not_not_intro rfl), b_some, m12, if_neg g4, b_some, r_throwsIf S2 (Or.inr rfl), b_some, if_neg d1, wp_some]
                exact ⟨V2.sc (M1' := M1') FB.rf ((F2.up fun i j z => by omega).tr (FB.rf.sI S2.2 (by omega))), by show zI _ _ _ = _; simp [zI_sI]⟩
            · rw [if_pos a0, wp_bind, wp_some, if_neg g3, l10]
              by_cases g4 : k < Int32.ofNat P.length
              · obtain ⟨i, hi, rfl⟩ := i_of g3' g4 (by omega)
                rw [if_pos g4, if_pos a0, x_restAt sr (show i < 400 by omega), b_some, b_some]
                obtain ⟨x, hx, ex⟩ := stkN_get lP hi
                have hx' := hP x hx
                rw [ex, x_turnAt sr (show x < 400 by omega), b_some, lT.get hx', wp_some, wp_bind]
                refine b2.mono ?_
                rintro M2' ⟨F2, m11, m12, mT, mC, m19, mR⟩
                obtain ⟨x2, hx2, ex2, ey2⟩ := stk2_get lP mR hi
                have : x2 = x := by
                  rw [ex] at ex2
                  have z : (Int32.ofNat x = Int32.ofNat x2) = (x = x2) := i_inj (by omega) (by have := hP x2 hx2; omega)
                  rw [z] at ex2; exact ex2.symm
                subst this
                rw [if_pos a0, b_some, m19, if_pos g4, b_some, r_throwsIf S2 (Or.inl rfl), b_some, if_pos rfl, if_pos a0]
                have f1 : i < 400 := by omega
                rw [if_pos (show inb (Int32.ofNat i) 400 by rw [i_inb (by omega)]; exact f1), i_nat (by omega), wp_some]
                refine ⟨V2.sc (M1' := M1') FB.rf ((F2.up fun i j z => by omega).tr (FB.rf.sI S2.2 (by omega))), by simp [zI_sI], ?_⟩
                simp [zI_sI, q, ey2]
                rfl
              · rw [if_neg g4, wp_some, wp_bind]
                refine b2.mono ?_
                rintro M2' ⟨F2, m11, m12, mT, mC, m19, mR⟩
                rw [if_pos a0, b_some, m19, if_neg g4, b_some, r_throwsIf S2 (Or.inr rfl), b_some, if_neg d1, wp_some]
                exact ⟨V2.sc (M1' := M1') FB.rf ((F2.up fun i j z => by omega).tr (FB.rf.sI S2.2 (by omega))), by show zI _ _ _ = _; simp [zI_sI]⟩
        · rw [if_neg g2, if_pos (Int32.not_le.mp g2), b_some, r_throwsIf S2 (Or.inr rfl), b_some, if_neg d1]
          exact thr _ _ V.tv (by simp [zI_sI]) _
    · simp only [if_neg g, mq, if_true]
      rw [b_some, r_throwsIf S2 (Or.inr rfl), b_some, if_neg d1]
      exact thr _ _ V.tv (by simp [zI_sI]) _
  · unfold f_X8_turn f_X9_turn
    simp only [gd, ok, x0, x1, dq, sb.1, s, and_self, if_true, x_gaugeB sb hp, b_some, mq, r_isGaugeB S2 hp]
    rw [r_throwsIf S2 (Or.inr rfl), b_some, if_neg d1]
    exact thr _ _ V.tv (by simp [zI_sI]) _
end R
