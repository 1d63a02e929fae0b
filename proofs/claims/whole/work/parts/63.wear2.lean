section W
variable {h : Hs} {B A : Nat → Nat} {M : Mm} {I : Nat → Int32} {d c n g r : Nat} {e : Int32} {L T : List Int32} {P : List Nat} {C : List Cy} {w : Bool} {ls : Int64} {pt : Nat → Int64}
theorem x_wbegin (hB : ∀ i j, B i = B j → i = j) (sx : ShX h B) : wp (f_X7_begin h (B 10) M) (fun M' => FB B (fun i _ => i = 10 ∨ i = 11) M M' ∧ WS M' B false 0 (fun _ => 0) ∧ zJ M' (B 10) 2 = 0) := by
  obtain ⟨o10, r0, o11, n11⟩ := sx.2.2.2.2.2.2.2.2.2.1
  have qB : ∀ i j, (B i = B j) = (i = j) := fun i j => propext ⟨hB i j, fun e => by rw [e]⟩
  unfold f_X7_begin
  rw [wp_bind]
  refine loopW (fun n k s => lp_X7_begin_2 h (B 10) n (Int32.ofNat k) s) 7 (fun k M' => FB B (fun i _ => i = 10 ∨ i = 11) M M' ∧ ∀ i, i < k → zJ M' (B 11) i = 0) _ ?_ ?_ fuel 0 M (by omega) (by unfold fuel; omega) ⟨FB.rf, by omega⟩
  · intro n k M1 hk ⟨F, hv⟩ ih
    have f1 : ¬ 7 ≤ k := by omega
    simp only [gd, ok, o10, and_self, if_true, lt_] at ih
    simp only [lp_X7_begin_2]
    simp (disch := omega) only [gd, ok, dq, o10, r0, o11, n11, and_self, if_true, i_le, f1, if_false, i_inb, hk, i_nat, lt_, i_addL]
    refine ih _ ⟨F.sJ hB (Or.inr rfl), fun i hi => ?_⟩
    by_cases e : i = k
    · subst e; simp [zJ_sJ]
    · rw [zJ_sJ, if_neg (by simp [e])]; exact hv i (by omega)
  · intro n M1 ⟨F, hv⟩
    simp only [lp_X7_begin_2]
    simp only [gd, ok, dq, o10, r0, o11, n11, and_self, if_true, Int32.le_refl, lt_]
    rw [wp_some, wp_some]
    refine ⟨((F.sJ hB (Or.inl rfl)).sJ hB (Or.inl rfl)).sI hB (Or.inl rfl), ⟨by simp [zI_sI], by simp [zJ_sI2, zJ_sJ], fun i hi => ?_⟩, by simp [zJ_sI2, zJ_sJ]⟩
    simp only [zJ_sI2, zJ_sJ, qB]
    simpa using hv i hi
theorem x_wear (hB : ∀ i j, B i = B j → i = j) (sx : ShX h B) (sr : RwA h B) (sd : DtA h B 0 d) (wd : WFd I d) (dr : DR M B 0 d I d) (hd : d < 12) (lk : LKc M B L T P C g r) (h4 : T.length ≤ 400) (hP4 : P.length ≤ 400) (hC2 : C.length ≤ 200) (hr : ∀ x ∈ T, rdg x) (hP : ∀ x ∈ P, x < T.length) (hC : ∀ y ∈ C, y.1 < T.length ∧ y.2.1 < T.length ∧ y.2.2 < T.length) (ws : WS M B false 0 (fun _ => 0)) :
    wp (f_X7_reckon h (B 10) (aD B 0 d) (B 3) M) (fun M' => FB B (fun i _ => i = 10 ∨ i = 11) M M' ∧ (∀ i, i < 7 → zJ M' (B 11) i = wpt I d T P C (C.length + (P.length - 1)) i) ∧ zJ M' (B 10) 1 = wls I d T P C (C.length + (P.length - 1)) ∧ zJ M' (B 10) 2 = wls I d T P C (C.length + (P.length - 1)) + (Int32.ofNat g).toInt64 * (1441440000000 / berS I d (bndS I d (I (4848 + 40 * d + 25))))) := by
  obtain ⟨l6, l7, l8, l9, lT, l10, l11, lP, lA, lB, lC⟩ := lk
  have o10 := sx.2.2.2.2.2.2.2.2.2.1.1
  have step : ∀ (j : Nat) (M1 : Mm) (q : Int32), FB B (fun i _ => i = 10 ∨ i = 11) M M1 → WS M1 B (wwk I d T P C j) (wls I d T P C j) (wpt I d T P C j) → ((q = 1 ∧ j < C.length) ∨ (q = 2 ∧ ¬ j < C.length)) →
      wp (f_X7_use h (B 10) (aD B 0 d) (itE I d T P C j) q M1) (fun M' => FB B (fun i _ => i = 10 ∨ i = 11) M M' ∧ WS M' B (wwk I d T P C (j + 1)) (wls I d T P C (j + 1)) (wpt I d T P C (j + 1))) := by
    intro j M1 q F ws1 hq
    have hu : (q = 1 ∧ itU I d T P C j = 1441440000000 / berS I d (bndS I d (itE I d T P C j))) ∨ (q = 2 ∧ itU I d T P C j = 720720000000 / berS I d (bndS I d (itE I d T P C j))) := by
      unfold itU itB
      rcases hq with ⟨e, g⟩ | ⟨e, g⟩
      · rw [if_pos g]; exact Or.inl ⟨e, rfl⟩
      · rw [if_neg g]; exact Or.inr ⟨e, rfl⟩
    refine (x_use hB sx sd wd (dr.fb F fun i j => by omega) hd ws1 hu).mono ?_
    rintro M' ⟨F', a1, a2, a3⟩
    exact ⟨F.tr F', a1, a2, a3⟩
  unfold f_X7_reckon
  rw [wp_bind]
  refine (loopW (fun n k s => lp_X7_reckon_2 h (B 10) (aD B 0 d) (B 3) n (Int32.ofNat k) s) C.length (fun k M' => FB B (fun i _ => i = 10 ∨ i = 11) M M' ∧ WS M' B (wwk I d T P C k) (wls I d T P C k) (wpt I d T P C k)) (fun z => FB B (fun i _ => i = 10 ∨ i = 11) M z.2 ∧ WS z.2 B (wwk I d T P C C.length) (wls I d T P C C.length) (wpt I d T P C C.length)) ?_ ?_ fuel 0 M (by omega) (by unfold fuel; omega) ⟨FB.rf, ws⟩).mono ?_
  · intro n k M1 hk ⟨F, w1⟩ ih
    obtain ⟨y, hy, y1, y2⟩ := cy_mem hk
    have hyT := hC y hy
    have e7 : zI M1 (B 7) k = Int32.ofNat (cyF C k) := by rw [F.i (by omega), lA.get (by simpa using hk)]; exact nth_map hk
    have e8 : zI M1 (B 8) k = Int32.ofNat (cyS C k) := by rw [F.i (by omega), lB.get (by simpa using hk)]; exact nth_map hk
    have e11 : zI M1 (B 3) 11 = Int32.ofNat C.length := (F.i (by omega)).trans l11
    have eE := x_effectOf (M := M1) (i := cyF C k) (j := cyS C k) sd sr wd (dr.fb F fun i j => by omega) (lT.congr fun i _ => F.i (by omega)) h4 (by rw [← y1]; exact hyT.1) (by rw [← y2]; exact hyT.2.1) hr
    have eI : effS I d (far (nth T (cyF C k)) (nth T (cyS C k))) (nth T (cyF C k) + nth T (cyS C k)) = itE I d T P C k := by unfold itE; rw [if_pos hk]
    simp only [lp_X7_reckon_2]
    rw [wp_gd]
    refine ⟨sr.1, ?_⟩
    rw [e11, if_neg (by rw [i_le (by omega) (by omega)]; omega), x_firstOf sr (by omega), b_some, x_secondOf sr (by omega), b_some, e7, e8, wp_gd]
    refine ⟨sd.1, ?_⟩
    rw [eE, b_some, eI, wp_gd]
    refine ⟨o10, ?_⟩
    rw [wp_bind]
    refine (step k M1 1 F w1 (Or.inl ⟨rfl, hk⟩)).mono ?_
    rintro M2 ⟨F2, w2⟩
    rw [wp_lt, i_addL]
    exact ih M2 ⟨F2, w2⟩
  · intro n M1 ⟨F, w1⟩
    have e11 : zI M1 (B 3) 11 = Int32.ofNat C.length := (F.i (by omega)).trans l11
    simp only [lp_X7_reckon_2]
    rw [wp_gd]
    refine ⟨sr.1, ?_⟩
    rw [e11, if_pos (Int32.le_refl _), wp_some]
    exact ⟨F, w1⟩
  rintro ⟨v, M1⟩ ⟨F1, w1⟩
  rw [wp_bind]
  refine (loopW (fun n k s => lp_X7_reckon_39 h (B 10) (aD B 0 d) (B 3) n (Int32.ofNat k) s) (P.length - 1) (fun k M' => FB B (fun i _ => i = 10 ∨ i = 11) M M' ∧ WS M' B (wwk I d T P C (C.length + k)) (wls I d T P C (C.length + k)) (wpt I d T P C (C.length + k))) (fun z => FB B (fun i _ => i = 10 ∨ i = 11) M z.2 ∧ WS z.2 B (wwk I d T P C (C.length + (P.length - 1))) (wls I d T P C (C.length + (P.length - 1))) (wpt I d T P C (C.length + (P.length - 1)))) ?_ ?_ fuel 0 M1 (by omega) (by unfold fuel; omega) ⟨F1, w1⟩).mono ?_
  · intro n k M1 hk ⟨F, w1⟩ ih
    have h1 : k < P.length := by omega
    have h2 : k + 1 < P.length := by omega
    have e6 : zI M1 (B 6) k = Int32.ofNat (pG P k) := by rw [F.i (by omega), lP.get (by simpa using h1)]; exact nth_mapP h1
    have e6' : zI M1 (B 6) (k + 1) = Int32.ofNat (pG P (k + 1)) := by rw [F.i (by omega), lP.get (by simpa using h2)]; exact nth_mapP h2
    have e10 : zI M1 (B 3) 10 = Int32.ofNat P.length := (F.i (by omega)).trans l10
    have eE := x_effectOf (M := M1) (i := pG P k) (j := pG P (k + 1)) sd sr wd (dr.fb F fun i j => by omega) (lT.congr fun i _ => F.i (by omega)) h4 (hP _ (pG_mem h1)) (hP _ (pG_mem h2)) hr
    have eI : effS I d (far (nth T (pG P k)) (nth T (pG P (k + 1)))) (nth T (pG P k) + nth T (pG P (k + 1))) = itE I d T P C (C.length + k) := by unfold itE; rw [if_neg (by omega), Nat.add_sub_cancel_left]
    simp only [lp_X7_reckon_39]
    rw [wp_gd]
    refine ⟨sr.1, ?_⟩
    rw [e10, if_neg (by rw [i_addL, i_le (by omega) (by show k + 1 < _; omega)]; show ¬ P.length ≤ k + 1; omega), x_restAt sr (by omega), b_some, i_addL, show Int32.ofNat (k + (OfNat.ofNat 1 : Nat)) = Int32.ofNat (k + 1) from rfl, x_restAt sr (show k + 1 < 400 by omega), b_some, e6, e6', wp_gd]
    refine ⟨sd.1, ?_⟩
    rw [eE, b_some, eI, wp_gd]
    refine ⟨o10, ?_⟩
    rw [wp_bind]
    refine (step (C.length + k) M1 2 F w1 (Or.inr ⟨rfl, by omega⟩)).mono ?_
    rintro M2 ⟨F2, w2⟩
    rw [wp_lt]
    exact ih M2 ⟨F2, w2⟩
  · intro n M1 ⟨F, w1⟩
    have e10 : zI M1 (B 3) 10 = Int32.ofNat P.length := (F.i (by omega)).trans l10
    simp only [lp_X7_reckon_39]
    rw [wp_gd]
    refine ⟨sr.1, ?_⟩
    rw [e10, if_pos (by rw [i_addL, i_le (by omega) (by show P.length - 1 + 1 < _; omega)]; show P.length ≤ P.length - 1 + 1; omega), wp_some]
    exact ⟨F, w1⟩
  rintro ⟨v2, M2⟩ ⟨F2, w3, w1', w11⟩
  have F2 : FB B (fun i _ => i = 10 ∨ i = 11) M M2 := F2
  have dr2 : DR M2 B 0 d I d := dr.fb F2 fun i j => by omega
  have e25 : zI M2 (aD B 0 d) 6 = I (4848 + 40 * d + 25) := dr2.2.2.2.1
  have e6 : zI M2 (B 3) 6 = Int32.ofNat g := (F2.i (by omega)).trans l6
  have qB : ∀ i j, (B i = B j) = (i = j) := fun i j => propext ⟨hB i j, fun e => by rw [e]⟩
  rw [wp_gd]
  refine ⟨o10, ?_⟩
  rw [wp_gd]
  refine ⟨sr.1, ?_⟩
  rw [wp_gd]
  refine ⟨sd.1, ?_⟩
  rw [wp_bind]
  show wp (f_X2_boundFor h (aD B 0 d) (zI M2 (aD B 0 d) 6) M2) _
  rw [e25, x_boundFor sd wd dr2, wp_some, wp_bind, x_useUnder sd wd dr2 (bndS_ok wd).2, wp_some, wp_lt, wp_some]
  show FB B _ M (sJ M2 (B 10) 2 (zJ M2 (B 10) 1 + (zI M2 (B 3) 6).toInt64 * _)) ∧ _
  rw [e6, show zJ M2 (B 10) 1 = _ from w1']
  refine ⟨F2.sJ hB (Or.inl rfl), fun i hi => ?_, ?_, ?_⟩
  · rw [zJ_sJ, if_neg (by simp [qB])]; exact w11 i hi
  · rw [zJ_sJ, if_neg (by simp)]; exact w1'
  · rw [zJ_sJ, if_pos ⟨rfl, rfl⟩]
end W
