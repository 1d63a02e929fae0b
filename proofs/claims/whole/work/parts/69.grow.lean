/-! CRACKS: how they grow, on both sides -/
def spC (I : Nat → Int32) (d : Nat) : Nat := (I (4848 + 40 * d + 28)).toNatClampNeg
def spT (I : Nat → Int32) (d j : Nat) : Int32 := I (4848 + 40 * d + 28 + 1 + 2 * j)
def spV (I : Nat → Int32) (d j : Nat) : Int32 := I (4848 + 40 * d + 28 + 2 + 2 * j)
def gbyI (I : Nat → Int32) (d : Nat) (x : Int32) : Int32 := if spC I d = 0 then 0 else match fnb (spT I d) x (spC I d) 0 with
  | none => spV I d (spC I d - 1)
  | some i => spV I d i
def grw (I : Nat → Int32) (d L : Nat) : Nat := min (L + (gbyI I d (Int32.ofNat L)).toNatClampNeg) 1000000000
theorem spC_le {I : Nat → Int32} {d : Nat} (w : WFd I d) : spC I d ≤ 4 ∧ I (4848 + 40 * d + 28) = Int32.ofNat (spC I d) ∧ ∀ j, j < spC I d → 0 ≤ spT I d j ∧ 0 ≤ spV I d j ∧ spV I d j ≤ 1000000 ∧ (0 < j → spT I d (j - 1) < spT I d j) := by
  obtain ⟨c, hc, e, hj⟩ := w.2.2.2.2.2.2.2.2
  have : spC I d = c := by unfold spC; rw [e, i_nat (by omega)]
  rw [this]
  exact ⟨hc, e, hj⟩
theorem nat_of {v : Int32} (h0 : 0 ≤ v) {n : Nat} (h1 : v.toInt ≤ n) : v.toNatClampNeg ≤ n ∧ v = Int32.ofNat v.toNatClampNeg := by
  refine ⟨?_, (Int32.ofNat_toNatClampNeg v h0).symm⟩
  have := Int32.cast_toNatClampNeg v h0
  omega
theorem spV_ok {I : Nat → Int32} {d j : Nat} (w : WFd I d) (hj : j < spC I d) : (spV I d j).toNatClampNeg ≤ 1000000 ∧ spV I d j = Int32.ofNat (spV I d j).toNatClampNeg := by
  obtain ⟨-, -, h⟩ := spC_le w
  obtain ⟨-, a, b, -⟩ := h j hj
  rw [Int32.le_iff_toInt_le, show (1000000 : Int32).toInt = 1000000 by decide] at b
  exact nat_of a (by omega)
theorem gbyI_ok {I : Nat → Int32} {d : Nat} {x : Int32} (w : WFd I d) : (gbyI I d x).toNatClampNeg ≤ 1000000 ∧ gbyI I d x = Int32.ofNat (gbyI I d x).toNatClampNeg := by
  unfold gbyI
  split
  · decide
  · split
    · exact spV_ok w (by omega)
    · next i e => exact spV_ok w (by have := fnb_lt e; omega)
theorem grw_le {I : Nat → Int32} {d L : Nat} : grw I d L ≤ 1000000000 := Nat.min_le_right _ _
theorem add_grw {I : Nat → Int32} {d L : Nat} (w : WFd I d) (hL : L ≤ 1000000000) : (if (1000000000 : Int32) < Int32.ofNat L + gbyI I d (Int32.ofNat L) then (1000000000 : Int32) else Int32.ofNat L + gbyI I d (Int32.ofNat L)) = Int32.ofNat (grw I d L) := by
  obtain ⟨h1, h2⟩ := gbyI_ok (x := Int32.ofNat L) w
  unfold grw
  generalize (gbyI I d (Int32.ofNat L)).toNatClampNeg = g at h1 h2 ⊢
  rw [h2, i_add]
  by_cases z : 1000000000 < L + g
  · rw [if_pos (show (1000000000 : Int32) < Int32.ofNat (L + g) by rw [i_Llt (by omega) (by simp)]; exact z), Nat.min_eq_right (by omega)]
    rfl
  · rw [if_neg (show ¬ (1000000000 : Int32) < Int32.ofNat (L + g) by rw [i_Llt (by omega) (by simp)]; exact z), Nat.min_eq_left (by omega)]
section G
variable {h : Hs} {B A : Nat → Nat} {M : Mm} {I : Nat → Int32} {d L : Nat} {x : Int32}
theorem x_growthAt (sd : DtA h B 0 d) (w : WFd I d) (dr : DR M B 0 d I d) : f_X2_growthAt h (aD B 0 d) x M = some (gbyI I d x) := by
  obtain ⟨c4, ec, hv⟩ := spC_le w
  obtain ⟨l1, l2, l3⟩ := dr.lad (i := 2) (by omega) ec (by omega)
  have sl := sd.2.2 2 (by omega)
  unfold f_X2_growthAt gbyI
  rw [gd, if_pos sd.1, sd.2.1 2 (by omega), dq, gd, if_pos sl.1, x_first sl (by decide) l1 c4, b_some, l1]
  unfold fnbI
  rw [fnb_cg (T := zI M (aT B 0 d 2)) (T' := spT I d) fun k _ hk => l2 k (by omega)]
  cases hf : fnb (spT I d) x (spC I d) 0 with
  | none =>
    simp only []
    rw [if_neg (not_not_intro trivial), b_some]
    by_cases z : spC I d = 0
    · rw [if_pos z, z, show Int32.ofNat 0 - 1 = (-1 : Int32) by decide, x_valueN, b_some]
    · rw [if_neg z, i_subL (by show 1 ≤ spC I d; omega), x_valueAt sl (by decide) (show spC I d - 1 < mst 2 by show _ < 4; omega), b_some, l3 (spC I d - 1) (by omega)]
      rfl
  | some k =>
    have hk := fnb_lt hf
    simp only []
    rw [if_pos (i_ne1 (by omega)), b_some, if_neg (by omega), x_valueAt sl (by decide) (show k < mst 2 by show k < 4; omega), b_some, l3 k (by omega)]
    rfl
theorem r_grown (S : Sh2 h A) (hd : d < 12) (w : WFd (zI M (A 1)) d) (hL : L ≤ 1000000000) : f_X9_grown h (A 0) (Int32.ofNat d) (Int32.ofNat L) M = some (Int32.ofNat (grw (zI M (A 1)) d L)) := by
  have s := S.s
  obtain ⟨c4, ec, hv⟩ := spC_le w
  have f0 : 4848 + 40 * d + 28 < 5328 := by omega
  have z0 : (Int32.ofNat (spC (zI M (A 1)) d) = 0) = (spC (zI M (A 1)) d = 0) := by rw [show (0 : Int32) = Int32.ofNat 0 from rfl, i_inj (by omega) (by omega)]
  have ag := add_grw w hL
  have key : spC (zI M (A 1)) d ≠ 0 → ∃ v, lp_X9_grown_43 h (Int32.ofNat (4848 + 40 * d + 28)) (Int32.ofNat L) (A 0) (A 1) M fuel (spV (zI M (A 1)) d (spC (zI M (A 1)) d - 1)) (Int32.ofNat (spC (zI M (A 1)) d - 1)) = some (gbyI (zI M (A 1)) d (Int32.ofNat L), v) := by
    intro hc
    have K : ∀ (k n : Nat), k ≤ spC (zI M (A 1)) d → k < n → ∃ v, lp_X9_grown_43 h (Int32.ofNat (4848 + 40 * d + 28)) (Int32.ofNat L) (A 0) (A 1) M n (match fnb (spT (zI M (A 1)) d) (Int32.ofNat L) (spC (zI M (A 1)) d - k) k with | none => spV (zI M (A 1)) d (spC (zI M (A 1)) d - 1) | some i => spV (zI M (A 1)) d i) (preI k) = some (gbyI (zI M (A 1)) d (Int32.ofNat L), v) := by
      intro k
      induction k with
      | zero =>
        intro n _ hn
        obtain ⟨n, rfl⟩ : ∃ q, n = q + 1 := ⟨n - 1, by omega⟩
        refine ⟨-1, ?_⟩
        simp only [lp_X9_grown_43, preI, if_true]
        rw [if_pos (by decide), Nat.sub_zero]
        unfold gbyI
        rw [if_neg hc]
      | succ k ih =>
        intro n hk hn
        obtain ⟨n, rfl⟩ : ∃ q, n = q + 1 := ⟨n - 1, by omega⟩
        obtain ⟨v, hv⟩ := ih n (by omega) (by omega)
        refine ⟨v, ?_⟩
        have e0 : preI (k + 1) = Int32.ofNat k := rfl
        have e2 : Int32.ofNat k + -1 = preI k := by
          unfold preI
          by_cases e3 : k = 0
          · subst e3; decide
          · rw [if_neg e3, i_dec (by omega)]
        have f1 : 4848 + 40 * d + 28 + 1 + 2 * k < 5328 := by omega
        have f2 : 4848 + 40 * d + 28 + 2 + 2 * k < 5328 := by omega
        rw [e0]
        simp only [lp_X9_grown_43]
        rw [if_neg (nlt0 (show k < 2147483648 by omega)), e2]
        simp (disch := omega) only [i_addL, i_mulL, i_add, s, gd, i_inb, f1, f2, if_true, i_nat, lt_]
        rw [← hv]
        have es : spC (zI M (A 1)) d - k = spC (zI M (A 1)) d - (k + 1) + 1 := by omega
        rw [es]
        simp only [fnb]
        show ((if spT (zI M (A 1)) d k < Int32.ofNat L then _ else some (spV (zI M (A 1)) d k)).bind _) = _
        by_cases g : spT (zI M (A 1)) d k < Int32.ofNat L
        · rw [if_pos g, if_pos g, b_some]
        · rw [if_neg g, if_neg g, b_some]
    obtain ⟨v, hv2⟩ := K (spC (zI M (A 1)) d) fuel (Nat.le_refl _) (by unfold fuel; omega)
    rw [Nat.sub_self] at hv2
    have e5 : preI (spC (zI M (A 1)) d) = Int32.ofNat (spC (zI M (A 1)) d - 1) := by unfold preI; rw [if_neg hc]
    rw [e5] at hv2
    exact ⟨v, hv2⟩
  unfold f_X9_grown f_X9_base
  simp (disch := omega) only [gd, ok, dq, s, and_self, if_true, b_some, i_mulL, i_Ladd, i_addL, lt_, i_inb, f0, i_nat, ec, z0]
  by_cases z : spC (zI M (A 1)) d = 0
  · rw [if_neg (not_not_intro z)]
    unfold grw gbyI
    rw [if_pos z]
    show some (Int32.ofNat L) = some (Int32.ofNat (min (L + 0) 1000000000))
    rw [Nat.add_zero, Nat.min_eq_left hL]
  · obtain ⟨v, hv2⟩ := key z
    have f1 : 4848 + 40 * d + 28 + 2 * spC (zI M (A 1)) d < 5328 := by omega
    have l1 : (OfNat.ofNat 1 : Nat) ≤ spC (zI M (A 1)) d := by show 1 ≤ _; omega
    have ev : zI M (A 1) (4848 + 40 * d + 28 + 2 * spC (zI M (A 1)) d) = spV (zI M (A 1)) d (spC (zI M (A 1)) d - 1) := by
      unfold spV
      congr 1; omega
    simp (disch := omega) only [z, not_false_eq_true, if_true, i_add, i_inb, f1, i_nat, i_subL, l1]
    rw [ev, show lp_X9_grown_43 h (Int32.ofNat (4848 + 40 * d + 28)) (Int32.ofNat L) (A 0) (A 1) M fuel (spV (zI M (A 1)) d (spC (zI M (A 1)) d - 1)) (Int32.ofNat (spC (zI M (A 1)) d - (OfNat.ofNat 1 : Nat))) = _ from hv2, b_some]
    rw [← ag]
    by_cases g : 1000000000 < Int32.ofNat L + gbyI (zI M (A 1)) d (Int32.ofNat L)
    · rw [if_pos g]
      show (if Int32.ofNat L + gbyI (zI M (A 1)) d (Int32.ofNat L) ≤ 1000000000 then _ else _) = _
      rw [if_neg (Int32.not_le.mpr g)]
    · rw [if_neg g]
      show (if Int32.ofNat L + gbyI (zI M (A 1)) d (Int32.ofNat L) ≤ 1000000000 then _ else _) = _
      rw [if_pos (Int32.not_lt.mp g)]
end G
/-- how long a crack is behind k cycles -/
def lenF (I : Nat → Int32) (d : Nat) (T : List Int32) (P : List Nat) (C : List Cy) : Nat → Nat
  | 0 => (I (4848 + 40 * d + 26)).toNatClampNeg
  | k + 1 => if itE I d T P C k ≤ I (4848 + 40 * d + 27) then lenF I d T P C k else grw I d (lenF I d T P C k)
def lenS (I : Nat → Int32) (d : Nat) : Nat := match gOf I d with
  | none => (I (4848 + 40 * d + 26)).toNatClampNeg
  | some m => lenF I d (trnL I m (begS I d)) (pilL (trnL I m (begS I d))).1 (pilL (trnL I m (begS I d))).2 (pilL (trnL I m (begS I d))).2.length
theorem crk_ok {I : Nat → Int32} {d : Nat} (w : WFd I d) (h : ¬ I (4848 + 40 * d + 26) = -1) : (I (4848 + 40 * d + 26)).toNatClampNeg ≤ 1000000 ∧ I (4848 + 40 * d + 26) = Int32.ofNat (I (4848 + 40 * d + 26)).toNatClampNeg := by
  obtain ⟨a, b⟩ := w.2.2.2.2.2.2.1
  rw [Int32.le_iff_toInt_le] at a b
  rw [show (-1 : Int32).toInt = -1 by decide] at a
  rw [show (1000000 : Int32).toInt = 1000000 by decide] at b
  have n1 : ¬ (I (4848 + 40 * d + 26)).toInt = -1 := fun z => h (Int32.toInt_inj.mp (by rw [z]; decide))
  exact nat_of (by rw [Int32.le_iff_toInt_le, show (0 : Int32).toInt = 0 by decide]; omega) (by omega)
theorem lenF_le {I : Nat → Int32} {d : Nat} {T : List Int32} {P : List Nat} {C : List Cy} (w : WFd I d) (h : ¬ I (4848 + 40 * d + 26) = -1) : ∀ k, lenF I d T P C k ≤ 1000000000
  | 0 => by have := (crk_ok w h).1; simp only [lenF]; omega
  | k + 1 => by
    simp only [lenF]
    split
    · exact lenF_le w h k
    · exact grw_le
theorem lenS_le {I : Nat → Int32} {d : Nat} (w : WFd I d) (h : ¬ I (4848 + 40 * d + 26) = -1) : lenS I d ≤ 1000000000 := by
  unfold lenS
  split
  · have := (crk_ok w h).1; omega
  · exact lenF_le w h _
section L
variable {h h1 h2 : Hs} {B A : Nat → Nat} {M M1 M2 : Mm} {pic : Prop} {d : Nat} {a : Int32}
theorem x_crackLength (V : Inv h1 M1 h2 M2 B A pic) (hd : d < 12) (hc : ¬ zI M2 (A 1) (4848 + 40 * d + 26) = -1) : wp (f_X8_crackLength h1 (B 0) (aD B 0 d) M1) (fun z => FB B (fun i _ => 3 ≤ i ∧ i ≤ 15) M1 z.2 ∧ z.1 = Int32.ofNat (lenS (zI M2 (A 1)) d)) := by
  have S1 := V.1
  have S1' := S1
  obtain ⟨hB, sx, sr, sb, -⟩ := S1'
  have W := V.2.2.1
  have wd := W.2 d hd
  have sd := sb.2.2.2.2.2.2.2.2.2.2 d hd
  have dr := V.2.2.2.2.1 d hd
  have P1 := V.2.2.2.1
  obtain ⟨c1, c2⟩ := crk_ok wd hc
  have e7 : zI M1 (aD B 0 d) 7 = zI M2 (A 1) (4848 + 40 * d + 26) := dr.2.2.2.2.1
  unfold f_X8_crackLength
  rw [wp_gd]
  refine ⟨sd.1, ?_⟩
  rw [wp_lt, wp_gd]
  refine ⟨sx.1, ?_⟩
  rw [sx.2.2.1, wp_dq, wp_gd]
  refine ⟨sb.1, ?_⟩
  rw [dr.1, e7]
  rcases gOf_cases wd with ⟨g0, g1⟩ | ⟨m, hm, em, hg, g0⟩
  · have eg : f_X0_gaugeAt h1 (aB B 0) (zI M2 (A 1) (4848 + 40 * d)) M1 = some none := by
      rcases g1 with e | ⟨m, hm, e, ng⟩
      · rw [e]; exact x_gaugeB sb (by decide)
      · rw [e, x_gaugeAt sb P1 hm, if_neg ng]
    rw [eg, b_some, wp_mqN, wp_some]
    unfold lenS
    rw [g0]
    exact ⟨FB.rf, c2⟩
  · rw [em, x_gaugeAt sb P1 hm, if_pos hg, b_some, wp_mqS, sx.2.2.2.1, wp_dq, wp_gd]
    refine ⟨sr.1, ?_⟩
    obtain ⟨hb, eb⟩ := wd.beg
    rw [wp_bind, dr.2.1, eb]
    refine (both1 (from_ := begS (zI M2 (A 1)) d) V hm hg hb).mono ?_
    rintro Mb ⟨Fb, l6, l7, l8, l9, lT, l10, l11, lP, lA, lB, lC⟩
    obtain ⟨t4, -, p4, c4⟩ := trn400 (from_ := begS (zI M2 (A 1)) d) W hm
    have hr := trnL_rdg (from_ := begS (zI M2 (A 1)) d) W hm
    have hC : ∀ y ∈ (pilL (trnL (zI M2 (A 1)) m (begS (zI M2 (A 1)) d))).2, y.1 < (trnL (zI M2 (A 1)) m (begS (zI M2 (A 1)) d)).length ∧ y.2.1 < (trnL (zI M2 (A 1)) m (begS (zI M2 (A 1)) d)).length ∧ y.2.2 < (trnL (zI M2 (A 1)) m (begS (zI M2 (A 1)) d)).length := fun y hy => pilN_cyc hy
    have drb : DR Mb B 0 d (zI M2 (A 1)) d := dr.fb Fb fun i j => by omega
    have e8 : zI Mb (aD B 0 d) 8 = zI M2 (A 1) (4848 + 40 * d + 27) := drb.2.2.2.2.2.1
    unfold lenS
    rw [g0, c2, wp_bind]
    simp only []
    generalize hT : trnL (zI M2 (A 1)) m (begS (zI M2 (A 1)) d) = T at *
    refine (loopW (fun n k (s : Int32) => lp_X8_crackLength_42 h1 (aD B 0 d) (B 0) (B 3) Mb n s (Int32.ofNat k)) (pilL T).2.length (fun k s => s = Int32.ofNat (lenF (zI M2 (A 1)) d T (pilL T).1 (pilL T).2 k)) (fun z => z.1 = Int32.ofNat (lenF (zI M2 (A 1)) d T (pilL T).1 (pilL T).2 (pilL T).2.length)) ?_ ?_ fuel 0 _ (by omega) (by unfold fuel; omega) rfl).mono ?_
    · rintro n k v hk rfl ih
      obtain ⟨y, hy, y1, y2⟩ := cy_mem hk
      have hyT := hC y hy
      have e7 : zI Mb (B 7) k = Int32.ofNat (cyF (pilL T).2 k) := by rw [lA.get (by simpa using hk)]; exact nth_map hk
      have e8' : zI Mb (B 8) k = Int32.ofNat (cyS (pilL T).2 k) := by rw [lB.get (by simpa using hk)]; exact nth_map hk
      have eE := x_effectOf (M := Mb) (i := cyF (pilL T).2 k) (j := cyS (pilL T).2 k) sd sr wd drb lT t4 (by rw [← y1]; exact hyT.1) (by rw [← y2]; exact hyT.2.1) hr
      have eI : effS (zI M2 (A 1)) d (far (nth T (cyF (pilL T).2 k)) (nth T (cyS (pilL T).2 k))) (nth T (cyF (pilL T).2 k) + nth T (cyS (pilL T).2 k)) = itE (zI M2 (A 1)) d T (pilL T).1 (pilL T).2 k := by unfold itE; rw [if_pos hk]
      simp only [lp_X8_crackLength_42]
      rw [l11, if_neg (by rw [i_le (by omega) (by omega)]; omega), x_firstOf sr (by omega), b_some, x_secondOf sr (by omega), b_some, e7, e8', eE, b_some, eI, e8]
      by_cases g : itE (zI M2 (A 1)) d T (pilL T).1 (pilL T).2 k ≤ zI M2 (A 1) (4848 + 40 * d + 27)
      · rw [if_pos g, b_some, wp_lt, i_addL]
        exact ih _ (by simp only [lenF, g, if_true])
      · rw [if_neg g, x_growthAt sd wd drb, b_some, wp_bind, wp_lt, wp_some, wp_lt, i_addL]
        refine ih _ ?_
        simp only [lenF, g, if_false]
        exact add_grw wd (lenF_le wd hc k)
    · rintro n v rfl
      simp only [lp_X8_crackLength_42]
      rw [l11, if_pos (Int32.le_refl _), wp_some]
    rintro z hz
    rw [wp_some]
    exact ⟨Fb, hz⟩
end L
