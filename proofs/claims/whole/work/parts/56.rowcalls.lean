/-! CALLS: row, span, turn, cycle -/
theorem nth_mem {R : List Int32} {i : Nat} (h : i < R.length) : nth R i ∈ R := by
  unfold nth
  rw [List.getD_eq_getElem?_getD, List.getElem?_eq_getElem (by simpa using h)]
  simpa using List.mem_reverse.mp (List.getElem_mem (l := R.reverse) (by simpa using h))
theorem tStep_mem {R : List Int32} {v x : Int32} (h : x ∈ tStep R v) : x = v ∨ x ∈ R := by
  unfold tStep at h
  repeat' split at h
  all_goals (simp only [List.mem_cons, List.not_mem_nil, or_false] at h ⊢; grind)
theorem tOn_mem {f : Nat → Int32} : ∀ {k : Nat} {x : Int32}, x ∈ tOn f k → ∃ i, i < k ∧ x = f i
  | 0, x, h => nomatch h
  | k + 1, x, h => by
    rcases tStep_mem h with e | m
    · exact ⟨k, by omega, e⟩
    · obtain ⟨i, hi, e⟩ := tOn_mem m
      exact ⟨i, by omega, e⟩
theorem redu_cyc {t : Nat → Int32} {N : Nat} : ∀ {n : Nat} {P : List Nat} {C : List Cy}, (∀ x ∈ P, x < N) → (∀ y ∈ C, y.1 < N ∧ y.2.1 < N ∧ y.2.2 < N) → ∀ y ∈ (redu t n P C).2, y.1 < N ∧ y.2.1 < N ∧ y.2.2 < N
  | 0, P, C, _, hC => hC
  | n + 1, P, C, hP, hC => by
    unfold redu
    split
    · split
      · refine redu_cyc (n := n) (fun x hx => hP x ?_) (fun y hy => ?_)
        · simp only [List.mem_cons] at hx ⊢
          rcases hx with z | z | z <;> simp [z]
        · rcases List.mem_cons.mp hy with rfl | z
          · exact ⟨hP _ (by simp), hP _ (by simp), hP _ (by simp)⟩
          · exact hC y z
      · exact hC
    · exact hC
theorem pilN_cyc {t : Nat → Int32} : ∀ {k : Nat} {y : Cy}, y ∈ (pilN t k).2 → y.1 < k ∧ y.2.1 < k ∧ y.2.2 < k
  | 0, y, h => nomatch h
  | k + 1, y, h => by
    refine redu_cyc (t := t) (N := k + 1) (n := k + 1) (P := k :: (pilN t k).1) (C := (pilN t k).2) (fun x hx => ?_) (fun y hy => ?_) y h
    · rcases List.mem_cons.mp hx with rfl | z
      · omega
      · have := pilN_mem z; omega
    · have := pilN_cyc hy; omega
section F
variable {I : Nat → Int32} {p from_ : Nat}
theorem rowL_rdg (w : WF I) (hn : p < 12) : ∀ x ∈ rowL I p from_, rdg x := by
  have h := rowF_rdg (I := I) (p := p) (from_ := from_) (n := spS I p - from_) (fun k hk => celS_lgl w hn (by omega))
  intro x hx
  unfold rowL at hx
  split at hx
  · obtain ⟨i, hi, e⟩ := tOn_mem hx
    rw [e]; exact h _ (nth_mem hi)
  · exact h x hx
theorem trnL_rdg (w : WF I) (hn : p < 12) : ∀ x ∈ trnL I p from_, rdg x := by
  intro x hx
  obtain ⟨i, hi, e⟩ := tOn_mem hx
  rw [e]; exact rowL_rdg w hn _ (nth_mem hi)
theorem trn400 (w : WF I) (hn : p < 12) : (trnL I p from_).length ≤ 400 ∧ (rowL I p from_).length ≤ 400 ∧ (pilL (trnL I p from_)).1.length ≤ 400 ∧ (pilL (trnL I p from_)).2.length ≤ 200 := by
  have h1 := trnL_len I p from_
  have h2 := rowL_len I p from_
  have h3 := spS_le w hn
  have h4 : (pilL (trnL I p from_)).1.length + 2 * (pilL (trnL I p from_)).2.length = (trnL I p from_).length := pilN_len _ _
  omega
end F
/-- a row of numbers on both sides -/
theorem stkN_get {M : Mm} {a : Nat} {P : List Nat} {i : Nat} (h : stk M a (P.map Int32.ofNat)) (hi : i < P.length) : ∃ x ∈ P, zI M a i = Int32.ofNat x := by
  have hl : i < (P.map Int32.ofNat).length := by simpa using hi
  have := nth_mem hl
  obtain ⟨x, hx, e⟩ := List.mem_map.mp this
  exact ⟨x, hx, by rw [h.get hl]; exact e.symm⟩
theorem stkC_get {M : Mm} {a1 a2 a3 : Nat} : ∀ {C : List Cy} {k : Nat}, stk M a1 (C.map fun c => Int32.ofNat c.1) → stk M a2 (C.map fun c => Int32.ofNat c.2.1) → stk M a3 (C.map fun c => Int32.ofNat c.2.2) → k < C.length → ∃ y ∈ C, zI M a1 k = Int32.ofNat y.1 ∧ zI M a2 k = Int32.ofNat y.2.1 ∧ zI M a3 k = Int32.ofNat y.2.2
  | y :: r, k, ⟨e1, s1⟩, ⟨e2, s2⟩, ⟨e3, s3⟩, hk => by
    simp only [List.length_map] at e1 e2 e3
    by_cases g : k = r.length
    · subst g
      exact ⟨y, List.mem_cons_self, e1, e2, e3⟩
    · obtain ⟨y', hy, h⟩ := stkC_get s1 s2 s3 (show k < r.length by simp at hk; omega)
      exact ⟨y', List.mem_cons_of_mem _ hy, h⟩
section R
variable {h1 h2 : Hs} {B A : Nat → Nat} {M1 M2 : Mm} {pic : Prop} {n from_ : Nat} {p a b k v : Int32}
theorem both1 (V : Inv h1 M1 h2 M2 B A pic) (hn : n < 12) (g : isG (zI M2 (A 1)) n) (hf : from_ ≤ 400) :
    wp (f_X5_reckon h1 (B 3) (aB B 0) (aP B 0 n) (Int32.ofNat from_) M1) (fun M1' => FB B (fun i _ => 3 ≤ i ∧ i ≤ 15) M1 M1' ∧ LKc M1' B (rowL (zI M2 (A 1)) n from_) (trnL (zI M2 (A 1)) n from_) (pilL (trnL (zI M2 (A 1)) n from_)).1 (pilL (trnL (zI M2 (A 1)) n from_)).2 (gapF (zI M2 (A 1)) n from_ (spS (zI M2 (A 1)) n - from_)) (redF (zI M2 (A 1)) n from_ (spS (zI M2 (A 1)) n - from_))) := by
  refine (x_reckon V.1.1 V.1.2.2.1 V.1.2.2.2.1 V.2.2.1 hn g V.2.2.2.1 hf).mono ?_
  rintro M1' ⟨F, l⟩
  refine ⟨F.fb fun i j z => ?_, l⟩
  obtain ⟨k, h1, h2, e⟩ := z
  have := V.1.1 _ _ e
  omega
theorem both2 (V : Inv h1 M1 h2 M2 B A pic) (hn : n < 12) (hf : from_ ≤ 400) :
    wp (f_X9_look h2 (A 0) (Int32.ofNat n) (Int32.ofNat from_) M2) (fun M2' => FB A (fun i j => (i = 0 ∧ 11 ≤ j) ∨ 5 ≤ i) M2 M2' ∧ LKr M2' A (rowL (zI M2 (A 1)) n from_) (trnL (zI M2 (A 1)) n from_) (pilL (trnL (zI M2 (A 1)) n from_)).1 (pilL (trnL (zI M2 (A 1)) n from_)).2) := by
  refine (r_look V.2.1 V.2.2.1 hn hf).mono ?_
  rintro M2' ⟨F, l⟩
  refine ⟨F.fb fun i j z => ?_, l⟩
  rcases z with ⟨e, z⟩ | ⟨k, h1, h2, e⟩
  · have := V.2.1.2 _ _ e; omega
  · have := V.2.1.2 _ _ e; omega
theorem Inv.sc {M1' M2' : Mm} (V : Inv h1 M1 h2 M2 B A pic) (F1 : FB B (fun i _ => 3 ≤ i ∧ i ≤ 15) M1 M1') (F2 : FB A (fun i j => (i = 0 ∧ (j = 0 ∨ 11 ≤ j)) ∨ 5 ≤ i) M2 M2') : Inv h1 M1' h2 M2' B A pic :=
  V.scr (F1.up fun i j z => by omega) (F2.up fun i j z => by omega) (V.2.2.2.2.2.1.cg F1 F2 (fun j => by omega) (fun j => by omega))
theorem r_rowCnt (S : Sh2 h2 A) (w : WF (zI M2 (A 1))) (hn : n < 12) :
    (a = 1 → wp (lp_X9_row_48 h2 (Int32.ofNat (spS (zI M2 (A 1)) n)) (Int32.ofNat n) a (A 0) M2 fuel 0 0) (fun z => z.1 = Int32.ofNat (gapF (zI M2 (A 1)) n 0 (spS (zI M2 (A 1)) n)))) ∧
    (a = 2 → wp (lp_X9_row_48 h2 (Int32.ofNat (spS (zI M2 (A 1)) n)) (Int32.ofNat n) a (A 0) M2 fuel 0 0) (fun z => z.1 = Int32.ofNat (redF (zI M2 (A 1)) n 0 (spS (zI M2 (A 1)) n)))) := by
  have hs := spS_le w hn
  constructor
  · rintro rfl
    refine loopW (fun m j (s : Int32) => lp_X9_row_48 h2 (Int32.ofNat (spS (zI M2 (A 1)) n)) (Int32.ofNat n) 1 (A 0) M2 m s (Int32.ofNat j)) (spS (zI M2 (A 1)) n) (fun j s => s = Int32.ofNat (gapF (zI M2 (A 1)) n 0 j)) _ ?_ ?_ fuel 0 0 (by omega) (by unfold fuel; omega) rfl
    · rintro m j v hj rfl ih
      simp only [lp_X9_row_48]
      rw [if_neg (by rw [i_le (by omega) (by omega)]; omega), if_neg (not_not_intro trivial), r_at S hn w (show j < 400 by omega), b_some, wp_bind]
      by_cases g : celS (zI M2 (A 1)) n j = 2000000
      · rw [if_neg (not_not_intro g), wp_some, wp_lt, wp_lt, i_addL, i_addL]
        refine ih _ ?_
        simp only [gapF, Nat.zero_add, g, if_true]
      · rw [if_pos g, wp_some, wp_lt, wp_lt, i_addL, i_addL]
        refine ih _ ?_
        simp only [gapF, Nat.zero_add, g, if_false]
    · rintro m v rfl
      simp only [lp_X9_row_48]
      rw [if_pos (Int32.le_refl _), wp_some]
  · rintro rfl
    refine loopW (fun m j (s : Int32) => lp_X9_row_48 h2 (Int32.ofNat (spS (zI M2 (A 1)) n)) (Int32.ofNat n) 2 (A 0) M2 m s (Int32.ofNat j)) (spS (zI M2 (A 1)) n) (fun j s => s = Int32.ofNat (redF (zI M2 (A 1)) n 0 j)) _ ?_ ?_ fuel 0 0 (by omega) (by unfold fuel; omega) rfl
    · rintro m j v hj rfl ih
      simp only [lp_X9_row_48]
      rw [if_neg (by rw [i_le (by omega) (by omega)]; omega), if_pos (show ¬ (2 : Int32) = 1 by decide), r_at S hn w (show j < 400 by omega), b_some, wp_bind]
      by_cases g : celS (zI M2 (A 1)) n j < 2000000
      · rw [if_neg (Int32.not_le.mpr g), wp_some, wp_lt, wp_lt, i_addL, i_addL]
        refine ih _ ?_
        simp only [redF, Nat.zero_add, g, if_true]
      · rw [if_pos (Int32.not_lt.mp g), wp_some, wp_lt, wp_lt, i_addL, i_addL]
        refine ih _ ?_
        simp only [redF, Nat.zero_add, g, if_false]
    · rintro m v rfl
      simp only [lp_X9_row_48]
      rw [if_pos (Int32.le_refl _), wp_some]
theorem t_row (V : Inv h1 M1 h2 M2 B A pic) : Sim (f_X8_row h1 (B 0) p a M1) (f_X9_row h2 (A 0) p a M2) h1 h2 B A pic := by
  have V0 := V.t0
  have S1 := V.1
  have S2 := V.2.1
  have s := S2.s
  have q := S2.e
  obtain ⟨x0, -, x1, x2, -⟩ := S1.2.1
  have sb := S1.2.2.2.1
  have sr := S1.2.2.1
  have eI : zI (sI M2 (A 0) 0 0) (A 1) = zI M2 (A 1) := funext fun j => by simp [zI_sI, q]
  by_cases hp : 0 ≤ p ∧ p < 12
  · obtain ⟨n, hn, rfl⟩ := good12 hp
    unfold f_X8_row f_X9_row
    simp only [gd, ok, x0, x1, x2, dq, sb.1, s, sr.1, and_self, if_true, x_gaugeAt sb V.2.2.2.1 hn, b_some, lt_, r_isGauge S2 hn, eI]
    by_cases g : isG (zI M2 (A 1)) n
    · simp only [if_pos g, mq]
      have d1 : ¬ (1 : Int32) = 0 := by decide
      rw [if_neg d1]
      unfold Sim
      rw [wp_bind]
      refine (both1 (from_ := 0) V hn g (by omega)).mono ?_
      rintro M1' ⟨F1, l6, l7, l8, l9, lT, l10, l11, -⟩
      rw [Nat.sub_zero] at l6 l7
      have W := V.2.2.1
      have rs := (r_spans (M := sI M2 (A 0) 0 0) S2 hn (by rw [eI]; exact W)).1
      rw [eI] at rs
      have P1 : PRs M1' B 0 (zI M2 (A 1)) := fun m hm => (V.2.2.2.1 m hm).fb F1 fun j => by omega
      have V1 : Inv h1 M1' h2 (sI M2 (A 0) 0 0) B A pic := V0.sc F1 FB.rf
      have no : ∀ r : Int32, wp (some (r, M1')) (fun z => wp (some (r, sI M2 (A 0) 0 0)) fun z' => z.1 = z'.1 ∧ Inv h1 z.2 h2 z'.2 B A pic) := fun r => wp_some.mpr (wp_some.mpr ⟨rfl, V1⟩)
      by_cases a0 : a < 0
      · have n0 : ¬ a = 0 := fun z => by rw [z] at a0; exact absurd a0 (by decide)
        have n1 : ¬ a = 1 := fun z => by rw [z] at a0; exact absurd a0 (by decide)
        have n2 : ¬ a = 2 := fun z => by rw [z] at a0; exact absurd a0 (by decide)
        have n3 : ¬ a = 3 := fun z => by rw [z] at a0; exact absurd a0 (by decide)
        have n4 : ¬ a = 4 := fun z => by rw [z] at a0; exact absurd a0 (by decide)
        have n5 : ¬ a = 5 := fun z => by rw [z] at a0; exact absurd a0 (by decide)
        have n6 : ¬ a = 6 := fun z => by rw [z] at a0; exact absurd a0 (by decide)
        rw [if_neg n0, if_neg n1, if_neg n2, if_neg n3, if_neg n4, if_neg n5, if_neg n6, if_pos a0]
        exact no _
      · rw [if_neg a0]
        by_cases a6 : a ≤ 6
        · rw [if_pos a6, rs, b_some]
          by_cases e0 : a = 0
          · subst e0
            rw [if_pos rfl, if_neg (show ¬ ¬ (0 : Int32) = 0 by decide), x_spansOf sb P1 W hn g, b_some]
            exact no _
          · rw [if_neg e0, if_pos e0]
            by_cases e1 : a = 1
            · subst e1
              rw [if_pos rfl, if_neg (by decide), l6]
              obtain ⟨z, k1, k2⟩ := (r_rowCnt (a := 1) (M2 := sI M2 (A 0) 0 0) S2 (by rw [eI]; exact W) hn).1 rfl
              rw [eI] at k1 k2
              rw [k1, b_some, k2]
              exact no _
            · rw [if_neg e1]
              by_cases e2 : a = 2
              · subst e2
                rw [if_pos rfl, if_neg (by decide), l7]
                obtain ⟨z, k1, k2⟩ := (r_rowCnt (a := 2) (M2 := sI M2 (A 0) 0 0) S2 (by rw [eI]; exact W) hn).2 rfl
                rw [eI] at k1 k2
                rw [k1, b_some, k2]
                exact no _
              · rw [if_neg e2]
                have e3' : 3 ≤ a := by
                  have h0 := Int32.not_lt.mp a0
                  rw [Int32.le_iff_toInt_le] at h0 ⊢
                  rw [show (0 : Int32).toInt = 0 by decide] at h0
                  rw [show (3 : Int32).toInt = 3 by decide]
                  have i0 : ¬ a.toInt = 0 := fun z => e0 (Int32.toInt_inj.mp (by rw [z]; decide))
                  have i1 : ¬ a.toInt = 1 := fun z => e1 (Int32.toInt_inj.mp (by rw [z]; decide))
                  have i2 : ¬ a.toInt = 2 := fun z => e2 (Int32.toInt_inj.mp (by rw [z]; decide))
                  omega
                have L : ∀ (x : Int32) (f : Mm → Int32), (∀ M2', FB A (fun i j => (i = 0 ∧ 11 ≤ j) ∨ 5 ≤ i) (sI M2 (A 0) 0 0) M2' → LKr M2' A (rowL (zI M2 (A 1)) n 0) (trnL (zI M2 (A 1)) n 0) (pilL (trnL (zI M2 (A 1)) n 0)).1 (pilL (trnL (zI M2 (A 1)) n 0)).2 → f M2' = x) → wp (some (x, M1')) (fun z => wp ((f_X9_look h2 (A 0) (Int32.ofNat n) 0 (sI M2 (A 0) 0 0)).bind fun z9 => some (f z9, z9)) fun z' => z.1 = z'.1 ∧ Inv h1 z.2 h2 z'.2 B A pic) := by
                  intro x f hx
                  rw [wp_some, wp_bind]
                  have b2 := both2 (from_ := 0) V0 hn (by omega)
                  rw [eI] at b2
                  refine b2.mono ?_
                  rintro M2' ⟨F2, l⟩
                  rw [wp_some]
                  exact ⟨(hx M2' F2 l).symm, V0.sc F1 (F2.up fun i j z => by omega)⟩
                rw [if_pos e3']
                by_cases e3 : a = 3
                · subst e3
                  rw [if_pos rfl, l8]
                  simp only [not_true_eq_false, if_false]
                  exact L _ (fun z9 => zI z9 (A 0) 11) fun M2' _ l => l.1
                · rw [if_neg e3]
                  simp only [e3, not_false_eq_true, if_true]
                  by_cases e4 : a = 4
                  · subst e4
                    rw [if_pos rfl, l9]
                    simp only [not_true_eq_false, if_false]
                    exact L _ (fun z9 => zI z9 (A 0) 12) fun M2' _ l => l.2.1
                  · rw [if_neg e4]
                    simp only [e4, not_false_eq_true, if_true]
                    by_cases e5 : a = 5
                    · subst e5
                      rw [if_pos rfl, l11]
                      simp only [not_true_eq_false, if_false]
                      exact L _ (fun z9 => zI z9 (A 0) 16) fun M2' _ l => l.2.2.2.1.1
                    · rw [if_neg e5]
                      simp only [e5, not_false_eq_true, if_true]
                      have e6 : a = 6 := by
                        rw [Int32.le_iff_toInt_le] at e3' a6
                        rw [show (3 : Int32).toInt = 3 by decide] at e3'
                        rw [show (6 : Int32).toInt = 6 by decide] at a6
                        have i3 : ¬ a.toInt = 3 := fun z => e3 (Int32.toInt_inj.mp (by rw [z]; decide))
                        have i4 : ¬ a.toInt = 4 := fun z => e4 (Int32.toInt_inj.mp (by rw [z]; decide))
                        have i5 : ¬ a.toInt = 5 := fun z => e5 (Int32.toInt_inj.mp (by rw [z]; decide))
                        exact Int32.toInt_inj.mp (by rw [show (6 : Int32).toInt = 6 by decide]; omega)
                      rw [if_pos e6, l10]
                      exact L _ (fun z9 => zI z9 (A 0) 19) fun M2' _ l => l.2.2.2.2.1
        · have h6 := Int32.not_le.mp a6
          have n0 : ¬ a = 0 := fun z => by rw [z] at h6; exact absurd h6 (by decide)
          have n1 : ¬ a = 1 := fun z => by rw [z] at h6; exact absurd h6 (by decide)
          have n2 : ¬ a = 2 := fun z => by rw [z] at h6; exact absurd h6 (by decide)
          have n3 : ¬ a = 3 := fun z => by rw [z] at h6; exact absurd h6 (by decide)
          have n4 : ¬ a = 4 := fun z => by rw [z] at h6; exact absurd h6 (by decide)
          have n5 : ¬ a = 5 := fun z => by rw [z] at h6; exact absurd h6 (by decide)
          have n6 : ¬ a = 6 := fun z => by rw [z] at h6; exact absurd h6 (by decide)
          rw [if_neg n0, if_neg n1, if_neg n2, if_neg n3, if_neg n4, if_neg n5, if_neg n6, if_neg a6]
          exact no _
    · simp only [if_neg g, mq, if_true]
      exact Sim.no V0
  · unfold f_X8_row f_X9_row
    simp only [gd, ok, x0, x1, dq, sb.1, s, and_self, if_true, x_gaugeB sb hp, b_some, mq, lt_, r_isGaugeB S2 hp]
    exact Sim.no V0
end R
