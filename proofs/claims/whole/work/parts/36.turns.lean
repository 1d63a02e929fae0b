/-! TURNS: the class takes them one by one; the reference looks at each run's neighbours -/
theorem i_dec {a : Nat} (h : 1 ≤ a) : Int32.ofNat a + (-1 : Int32) = Int32.ofNat (a - 1) := by
  obtain ⟨b, rfl⟩ : ∃ b, a = b + 1 := ⟨a - 1, by omega⟩
  rw [Nat.add_sub_cancel, Int32.ofNat_add, Int32.add_assoc]
  have : (Int32.ofNat 1 + -1 : Int32) = 0 := by decide
  rw [this, Int32.add_zero]
theorem x_passed {h : Hs} {M : Mm} {a b v : Int32} : f_X5_isPassedOver h a b v M = some (if (if a < b then b < v else v < b) then 1 else 0) := by
  unfold f_X5_isPassedOver
  by_cases h1 : a < b
  · have g1 : ¬ b ≤ a := Int32.not_le.mpr h1
    by_cases h2 : b < v
    · have g2 : ¬ v ≤ b := Int32.not_le.mpr h2
      simp [h1, h2, g1, g2]
    · have g2 : v ≤ b := Int32.not_lt.mp h2
      simp [h1, h2, g1, g2]
  · have g1 : b ≤ a := Int32.not_lt.mp h1
    by_cases h2 : v < b
    · have g2 : ¬ b ≤ v := Int32.not_le.mpr h2
      simp [h1, h2, g1, g2]
    · have g2 : b ≤ v := Int32.not_lt.mp h2
      simp [h1, h2, g1, g2]
section T
variable {h : Hs} {p q c : Nat} {M : Mm} {f : Nat → Int32}
theorem x_copyTurns (k1 : ok h p 11) (k3 : ok h q 11) (n1 : zN h p = 400) (n3 : zN h q = 400) (hc : c ≤ 400) (hf : ∀ i, i < c → zI M p i = f i) :
    wp (f_X5_copyTurns h p (Int32.ofNat c) q M) (fun z => z.1 = Int32.ofNat (tOn f c).length ∧ Fm (fun b _ => b = q) M z.2 ∧ stk z.2 q (tOn f c)) := by
  unfold f_X5_copyTurns
  rw [wp_bind]
  refine loopW (fun n k (s : Int32 × Mm) => lp_X5_copyTurns_5 h (Int32.ofNat c) p q n s.1 (Int32.ofNat k) s.2) c (fun k s => s.1 = Int32.ofNat (tOn f k).length ∧ Fm (fun b _ => b = q) M s.2 ∧ stk s.2 q (tOn f k) ∧ ∀ j, k ≤ j → j < c → zI s.2 p j = f j) _ ?_ ?_ fuel 0 (0, M) (by omega) (by unfold fuel; omega) ⟨rfl, Fm.rf, trivial, fun j _ hj => hf j hj⟩
  · rintro n k ⟨v, M1⟩ hk ⟨hv, F, hS, hR⟩ ih
    have hv : v = Int32.ofNat (tOn f k).length := hv
    have F : Fm (fun b _ => b = q) M M1 := F
    have hS : stk M1 q (tOn f k) := hS
    have hR : ∀ j, k ≤ j → j < c → zI M1 p j = f j := hR
    subst hv
    have hL := tOn_len f k
    have ek := hR k (Nat.le_refl k) hk
    have f1 : ¬ c ≤ k := by omega
    have f2 : ¬ 400 ≤ k := by omega
    have f3 : k < 400 := by omega
    have go : ∀ (w : Nat), w ≤ k → (∀ R, tStep (tOn f k) (f k) = f k :: R → R.length = w → stk M1 q R → wp (lp_X5_copyTurns_5 h (Int32.ofNat c) p q n (Int32.ofNat (w + 1)) (Int32.ofNat (k + 1)) (sI M1 q w (f k))) (fun z => wp (some (z.1, z.2.2)) (fun z => z.1 = Int32.ofNat (tOn f c).length ∧ Fm (fun b _ => b = q) M z.2 ∧ stk z.2 q (tOn f c)))) := by
      intro w hw R hR2 hRl hRs
      refine ih (Int32.ofNat (w + 1), sI M1 q w (f k)) ⟨?_, F.sI rfl, ?_, fun j h1 h2 => ?_⟩
      · show Int32.ofNat (w + 1) = Int32.ofNat (tStep (tOn f k) (f k)).length
        rw [hR2, List.length_cons, hRl]
      · show stk _ q (tStep (tOn f k) (f k))
        rw [hR2]
        refine ⟨by rw [hRl, zI_sI]; simp, hRs.congr fun i hi => ?_⟩
        rw [zI_sI, if_neg (by omega)]
      · rw [zI_sI, if_neg (by omega)]; exact hR j (by omega) h2
    have stay : ∀ (R : List Int32), tStep (tOn f k) (f k) = R → R.length ≤ k → stk M1 q R → wp (lp_X5_copyTurns_5 h (Int32.ofNat c) p q n (Int32.ofNat R.length) (Int32.ofNat (k + 1)) M1) (fun z => wp (some (z.1, z.2.2)) (fun z => z.1 = Int32.ofNat (tOn f c).length ∧ Fm (fun b _ => b = q) M z.2 ∧ stk z.2 q (tOn f c))) := by
      intro R hR2 hRl hRs
      refine ih (Int32.ofNat R.length, M1) ⟨?_, F, ?_, fun j h1 h2 => hR j (by omega) h2⟩
      · show Int32.ofNat R.length = Int32.ofNat (tStep (tOn f k) (f k)).length
        rw [hR2]
      · show stk _ q (tStep (tOn f k) (f k))
        rw [hR2]; exact hRs
    simp only [lp_X5_copyTurns_5, gd, ok, k1, k3, n1, n3, and_self, if_true, lt_, x_passed]
    simp (disch := omega) only [i_le, f1, f2, f3, if_false, if_true, i_inb, i_nat, ek, i_addL]
    rcases hT : tOn f k with _ | ⟨b, _ | ⟨a, r⟩⟩
    · rw [hT] at go stay hL
      have g := go 0 (by omega) [] rfl rfl trivial
      simp (disch := omega) only [List.length_nil, i_leL, Nat.zero_le, if_true, Option.bind_some, Nat.le_refl, not_true_eq_false, if_false, i_inb, i_nat, i_le, i_addL] at g ⊢
      simpa using g
    · rw [hT] at go stay hL hS
      have hb : zI M1 q 0 = b := hS.1
      simp (disch := omega) only [List.length_cons, List.length_nil, i_leL, i_le, i_lt, i_subL, i_inb, i_nat, i_addL, Nat.zero_add, Nat.le_refl, if_true, Option.bind_some, Nat.sub_self, hb]
      by_cases e : b = f k
      · have g := stay [b] (by simp [tStep, e]) (by simpa using hL) hS
        simpa [e] using g
      · have g := go 1 (by simpa using hL) [b] (by simp [tStep, e]) rfl hS
        simp only [List.length_cons, List.length_nil] at hL
        have f4 : 1 < 400 := by omega
        simpa [e] using g
    · rw [hT] at go stay hL hS
      have hb : zI M1 q (r.length + 1) = b := hS.1
      have ha : zI M1 q r.length = a := hS.2.1
      simp only [List.length_cons] at hL
      have f4 : ¬ r.length + 1 + 1 ≤ 1 := by omega
      have f5 : ¬ 400 < r.length + 1 + 1 := by omega
      have f6 : r.length + 1 + 1 - 2 = r.length := by omega
      have f7 : r.length + 1 + 1 - 1 = r.length + 1 := by omega
      have f8 : r.length < 400 := by omega
      have f9 : r.length + 1 < 400 := by omega
      have f10 : ¬ r.length + 1 + 1 ≤ 0 := by omega
      have f11 : ¬ r.length + 1 ≤ 0 := by omega
      have f12 : ¬ 400 < r.length + 1 := by omega
      have f13 : r.length + 1 - 1 = r.length := by omega
      have f14 : ¬ 400 ≤ r.length + 1 := by omega
      simp (disch := omega) only [List.length_cons, i_leL, i_lt, i_subL, i_inb, i_nat, f4, f5, f6, f7, f8, f9, if_false, if_true, Option.bind_some, ha, hb]
      by_cases e : (if a < b then b < f k else f k < b)
      · have d1 : ¬ (1 : Int32) = 0 := by decide
        simp (disch := omega) only [e, if_true, d1, if_false, Option.bind_some, i_dec, f7, i_leL, f11, i_lt, f12, i_subL, f13, i_inb, f8, i_nat, ha]
        by_cases e2 : a = f k
        · have g := stay (a :: r) (by simp only [tStep]; rw [if_pos e, if_pos e2]) (by simpa using Nat.le_of_succ_le hL) hS.2
          simp only [e2, not_true_eq_false, if_false, Option.bind_some]
          simpa [e2] using g
        · have g := go (r.length + 1) (by omega) (a :: r) (by simp only [tStep, e, e2, if_true, if_false]) rfl hS.2
          simp (disch := omega) only [e2, not_false_eq_true, if_true, if_false, Option.bind_some, i_le, f14, not_true_eq_false, i_inb, f9, i_nat, i_addL]
          exact g
      · simp (disch := omega) only [e, if_false, Option.bind_some, i_leL, f10, i_lt, f5, i_subL, f7, i_inb, f9, i_nat, hb, if_true]
        by_cases e2 : b = f k
        · have g := stay (b :: a :: r) (by simp only [tStep]; rw [if_neg e, if_pos e2]) (by simpa using hL) hS
          simp only [e2, not_true_eq_false, if_false, Option.bind_some]
          simpa [e2] using g
        · have f15 : r.length + 1 + 1 < 400 := by omega
          have f16 : ¬ 400 ≤ r.length + 1 + 1 := by omega
          have g := go (r.length + 1 + 1) (by omega) (b :: a :: r) (by simp only [tStep, e, e2, if_false]) rfl hS
          simp (disch := omega) only [e2, not_false_eq_true, if_true, if_false, Option.bind_some, i_le, f16, not_true_eq_false, i_inb, f15, i_nat, i_addL]
          exact g
  · rintro n ⟨v, M1⟩ ⟨hv, F, hS, -⟩
    simp only [lp_X5_copyTurns_5, Int32.le_refl, if_true, wp_some]
    exact ⟨hv, F, hS⟩
end T
