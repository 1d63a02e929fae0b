/-! CALLS: feed, end, count -/
def shf (j : Nat) : Int32 := if j = 0 then 24 else if j = 1 then 16 else if j = 2 then 8 else if j = 3 then 0 else -8
def byt (w v : Int32) : Int32 := ((w >>> (v &&& 31)).toInt8.toInt32).toInt8.toInt32
def ext (f : Nat → Int32) (u : Nat) (w : Int32) (i : Nat) : Int32 := if i < u then f i else byt w (shf (i - u))
theorem i_ne1 {n : Nat} (h : n < 2147483648) : ¬ Int32.ofNat n = -1 := fun z => by
  have e := congrArg Int32.toInt z
  rw [i_int h, show (-1 : Int32).toInt = -1 from by decide] at e
  omega
theorem shf_nn {j : Nat} (h : j < 4) : ¬ shf j < 0 := by
  rcases (show j = 0 ∨ j = 1 ∨ j = 2 ∨ j = 3 by omega) with rfl | rfl | rfl | rfl <;> decide
theorem shf_next {j : Nat} (h : j < 4) : shf j + -8 = shf (j + 1) := by
  rcases (show j = 0 ∨ j = 1 ∨ j = 2 ∨ j = 3 by omega) with rfl | rfl | rfl | rfl <;> decide
section TPs
variable {h : Hs} {B A : Nat → Nat} {M : Mm} {f : Nat → Int32} {u : Nat} {w : Int32}
theorem x_append {pic : Prop} (S : Sh1 h B pic) (hu : u + 4 ≤ 400) (e : zI M (B 1) 1 = Int32.ofNat u) (hf : ∀ i, i < u → zI M (B 2) i = f i) :
    wp (f_X6_append h (B 1) w M) (fun M' => FB B (fun i j => (i = 1 ∧ j = 1) ∨ i = 2) M M' ∧ zI M' (B 1) 1 = Int32.ofNat (u + 4) ∧ ∀ i, i < u + 4 → zI M' (B 2) i = ext f u w i) := by
  obtain ⟨hB, sx, -⟩ := S
  obtain ⟨o1, r1, o2, n2⟩ := sx.2.2.2.2.2.2.2.2.1
  have q : ∀ i j, (B i = B j) = (i = j) := fun i j => propext ⟨hB i j, fun e => by rw [e]⟩
  unfold f_X6_append
  rw [wp_bind]
  refine loopW (fun n k s => lp_X6_append_3 h w (B 1) n (shf k) s) 4 (fun k M' => FB B (fun i j => (i = 1 ∧ j = 1) ∨ i = 2) M M' ∧ zI M' (B 1) 1 = Int32.ofNat (u + k) ∧ ∀ i, i < u + k → zI M' (B 2) i = ext f u w i) _ ?_ ?_ fuel 0 M (by omega) (by unfold fuel; omega) ⟨FB.rf, e, fun i hi => by unfold ext; rw [if_pos (by omega)]; exact hf i (by omega)⟩
  · intro n k M1 hk ⟨F, h1, h2⟩ ih
    simp only [lp_X6_append_3]
    rw [if_neg (shf_nn hk), shf_next hk]
    have f1 : ¬ 400 ≤ u + k := by omega
    have f2 : u + k < 400 := by omega
    simp (disch := omega) only [gd, ok, dq, o1, r1, o2, n2, and_self, if_true, h1, i_neg, if_false, i_le, f1, i_inb, f2, i_nat]
    rw [wp_bind, wp_lt, wp_lt, wp_some, wp_lt]
    have c1 : zI (sI M1 (B 2) (u + k) (((w >>> (shf k &&& 31)).toInt8.toInt32).toInt8.toInt32)) (B 1) 1 = Int32.ofNat (u + k) := by simpa [zI_sI, q] using h1
    rw [c1, i_addL]
    refine ih _ ⟨(F.sI hB (Or.inr rfl)).sI hB (Or.inl ⟨rfl, rfl⟩), by rw [zI_sI, if_pos ⟨rfl, rfl⟩]; rfl, fun i hi => ?_⟩
    by_cases g : i = u + k
    · subst g
      simp only [zI_sI, q]
      unfold ext byt
      simp
      intro z; omega
    · simp [zI_sI, q, g]; exact h2 i (by omega)
  · intro n M1 ⟨F, h1, h2⟩
    simp only [lp_X6_append_3]
    rw [if_pos (by decide), wp_some, wp_some]
    exact ⟨F, h1, h2⟩
theorem r_four (S : Sh2 h A) (hu : u + 4 ≤ 400) (e : zI M (A 0) 7 = Int32.ofNat u) (hf : ∀ i, i < u → zI M (A 4) i = f i) :
    wp (f_X9_four h (A 0) w M) (fun M' => FB A (fun i j => (i = 0 ∧ j = 7) ∨ i = 4) M M' ∧ zI M' (A 0) 7 = Int32.ofNat (u + 4) ∧ ∀ i, i < u + 4 → zI M' (A 4) i = ext f u w i) := by
  have s := S.s
  have q := S.e
  unfold f_X9_four
  rw [wp_bind]
  refine loopW (fun n k s => lp_X9_four_3 h w (A 0) n (shf k) s) 4 (fun k M' => FB A (fun i j => (i = 0 ∧ j = 7) ∨ i = 4) M M' ∧ zI M' (A 0) 7 = Int32.ofNat (u + k) ∧ ∀ i, i < u + k → zI M' (A 4) i = ext f u w i) _ ?_ ?_ fuel 0 M (by omega) (by unfold fuel; omega) ⟨FB.rf, e, fun i hi => by unfold ext; rw [if_pos (by omega)]; exact hf i (by omega)⟩
  · intro n k M1 hk ⟨F, h1, h2⟩ ih
    simp only [lp_X9_four_3]
    rw [if_neg (shf_nn hk), shf_next hk]
    have f2 : u + k < 400 := by omega
    simp (disch := omega) only [gd, ok, dq, s, and_self, if_true, h1, i_inb, f2, i_nat]
    rw [wp_lt, wp_lt, wp_lt]
    have c1 : zI (sI M1 (A 4) (u + k) (((w >>> (shf k &&& 31)).toInt8.toInt32).toInt8.toInt32)) (A 0) 7 = Int32.ofNat (u + k) := by simpa [zI_sI, q] using h1
    rw [c1, i_addL]
    refine ih _ ⟨(F.sI S.2 (Or.inr rfl)).sI S.2 (Or.inl ⟨rfl, rfl⟩), by rw [zI_sI, if_pos ⟨rfl, rfl⟩]; rfl, fun i hi => ?_⟩
    by_cases g : i = u + k
    · subst g
      simp only [zI_sI, q]
      unfold ext byt
      simp
      intro z; omega
    · simp [zI_sI, q, g]; exact h2 i (by omega)
  · intro n M1 ⟨F, h1, h2⟩
    simp only [lp_X9_four_3]
    rw [if_pos (by decide), wp_some, wp_some]
    exact ⟨F, h1, h2⟩
end TPs
section C2
variable {h1 h2 : Hs} {B A : Nat → Nat} {M1 M2 : Mm} {pic : Prop} {p a b c d e : Int32}
theorem t_feed (V : Inv h1 M1 h2 M2 B A pic) : Sim (f_X8_feed h1 (B 0) a b c d e M1) (f_X9_feed h2 (A 0) a b c d e M2) h1 h2 B A pic := by
  have V0 := V.t0
  have S1 := V.1
  have S2 := V.2.1
  have s := S2.s
  have q := S2.e
  obtain ⟨x0, x1, -⟩ := S1.2.1
  obtain ⟨o1, r1, o2, n2⟩ := S1.2.1.2.2.2.2.2.2.2.2.1
  obtain ⟨u, hu, e1, e2, hf⟩ := V.2.2.2.2.2.1
  have e2' : zI (sI M2 (A 0) 0 0) (A 0) 7 = Int32.ofNat u := by simpa [zI_sI] using e2
  have hf' : ∀ i, i < u → zI (sI M2 (A 0) 0 0) (A 4) i = zI M1 (B 2) i := fun i hi => by rw [hf i hi]; simp [zI_sI, q]
  unfold f_X8_feed f_X9_feed f_X6_hasRoom
  simp only [gd, ok, x0, x1, dq, o1, r1, o2, n2, s, and_self, if_true, lt_, e1, e2', i_addL]
  have es : Int32.ofNat 400 - Int32.ofNat u = Int32.ofNat (400 - u) := (Int32.ofNat_sub 400 u hu).symm
  rw [es]
  by_cases g : u + 20 ≤ 400
  · rw [if_neg (show ¬ Int32.ofNat (400 - u) < 20 by rw [i_ltL (by omega) (by simp)]; simp; omega), b_some, if_pos (by decide), if_pos (show Int32.ofNat (u + 20) ≤ 400 by rw [i_leL (by omega) (by simp)]; simpa using g)]
    unfold Sim
    rw [wp_bind]
    refine (x_append (f := zI M1 (B 2)) S1 (by omega) e1 (fun _ _ => rfl)).mono ?_
    rintro m1 ⟨F1, g1, k1⟩
    rw [wp_bind]
    refine (x_append S1 (by omega) g1 k1).mono ?_
    rintro m2 ⟨F2, g2, k2⟩
    rw [wp_bind]
    refine (x_append S1 (by omega) g2 k2).mono ?_
    rintro m3 ⟨F3, g3, k3⟩
    rw [wp_bind]
    refine (x_append S1 (by omega) g3 k3).mono ?_
    rintro m4 ⟨F4, g4, k4⟩
    rw [wp_bind]
    refine (x_append S1 (by omega) g4 k4).mono ?_
    rintro m5 ⟨F5, g5, k5⟩
    rw [wp_some, wp_bind]
    refine (r_four (f := zI M1 (B 2)) S2 (by omega) e2' hf').mono ?_
    rintro q1 ⟨G1, y1, j1⟩
    rw [wp_bind]
    refine (r_four S2 (by omega) y1 j1).mono ?_
    rintro q2 ⟨G2, y2, j2⟩
    rw [wp_bind]
    refine (r_four S2 (by omega) y2 j2).mono ?_
    rintro q3 ⟨G3, y3, j3⟩
    rw [wp_bind]
    refine (r_four S2 (by omega) y3 j3).mono ?_
    rintro q4 ⟨G4, y4, j4⟩
    rw [wp_bind]
    refine (r_four S2 (by omega) y4 j4).mono ?_
    rintro q5 ⟨G5, y5, j5⟩
    rw [wp_some]
    refine ⟨by rw [g5, y5], V0.scr ((((F1.tr F2).tr F3).tr F4).tr F5 |>.up fun i j z => by omega) ((((G1.tr G2).tr G3).tr G4).tr G5 |>.up fun i j z => by omega) ⟨u + 4 + 4 + 4 + 4 + 4, by omega, g5, y5, fun i hi => ?_⟩⟩
    rw [k5 i hi, j5 i hi]
  · rw [if_pos (show Int32.ofNat (400 - u) < 20 by rw [i_ltL (by omega) (by simp)]; show 400 - u < 20; omega), b_some, if_neg (by decide), if_neg (show ¬ Int32.ofNat (u + 20) ≤ 400 by rw [i_leL (by omega) (by simp)]; simpa using g)]
    exact wp_some.mpr (wp_some.mpr ⟨rfl, V0⟩)
theorem t_end (V : Inv h1 M1 h2 M2 B A pic) : Sim (f_X8_end h1 (B 0) p M1) (f_X9_end h2 (A 0) p M2) h1 h2 B A pic := by
  have V0 := V.t0
  have S1 := V.1
  have S2 := V.2.1
  have s := S2.s
  have q := S2.e
  obtain ⟨x0, x1, -⟩ := S1.2.1
  obtain ⟨o1, r1, o2, n2⟩ := S1.2.1.2.2.2.2.2.2.2.2.1
  obtain ⟨u, hu, e1, e2, hf⟩ := V.2.2.2.2.2.1
  have e2' : zI (sI M2 (A 0) 0 0) (A 0) 7 = Int32.ofNat u := by simpa [zI_sI] using e2
  unfold f_X8_end f_X9_end
  simp only [gd, ok, x0, x1, dq, o1, s, and_self, if_true, lt_, e1, e2']
  by_cases g : p < 0
  · rw [if_pos g, if_pos g]
    exact wp_some.mpr (wp_some.mpr ⟨rfl, V0⟩)
  · rw [if_neg g, if_neg g]
    by_cases g2 : p ≤ Int32.ofNat u
    · rw [if_pos g2, if_pos g2]
      have hp : p < Int32.ofNat (u + 1) := by
        rw [Int32.lt_iff_toInt_lt, i_int (by omega)]
        rw [Int32.le_iff_toInt_le, i_int (by omega)] at g2
        omega
      obtain ⟨n, hn, rfl⟩ := i_of (Int32.not_lt.mp g) hp (by omega)
      refine wp_some.mpr (wp_some.mpr ⟨rfl, V0.scr (FB.rf.sI (a := 1) S1.1 (by omega)) (FB.rf.sI (a := 0) S2.2 (by omega)) ⟨n, by omega, by simp [zI_sI], by simp [zI_sI], fun i hi => ?_⟩⟩)
      have hB : ∀ i j, (B i = B j) = (i = j) := fun i j => propext ⟨S1.1 i j, fun e => by rw [e]⟩
      simp [zI_sI, q, hB]
      exact hf i (by omega)
    · rw [if_neg g2, if_neg g2]
      exact wp_some.mpr (wp_some.mpr ⟨rfl, V0⟩)
def cntS (P : Nat → Prop) [DecidablePred P] : Nat → Nat
  | 0 => 0
  | n + 1 => cntS P n + if P n then 1 else 0
theorem cntS_le (P : Nat → Prop) [DecidablePred P] : ∀ n, cntS P n ≤ n
  | 0 => Nat.le_refl _
  | n + 1 => by have := cntS_le P n; unfold cntS; split <;> omega
theorem x_gauges {h : Hs} {M : Mm} {β : Nat} {I : Nat → Int32} (sb : BdA h B β) (r : PRs M B β I) : f_X0_gauges h (aB B β) M = some (Int32.ofNat (cntS (fun n => isG I n) 12)) := by
  unfold f_X0_gauges
  have K : wp (lp_X0_gauges_4 h (aB B β) M fuel 0 0) (fun z => z.1 = Int32.ofNat (cntS (fun n => isG I n) 12)) := by
    refine loopW (fun n k (s : Int32) => lp_X0_gauges_4 h (aB B β) M n s (Int32.ofNat k)) 12 (fun k s => s = Int32.ofNat (cntS (fun n => isG I n) k)) _ ?_ ?_ fuel 0 0 (by omega) (by unfold fuel; omega) rfl
    · rintro n k v hk rfl ih
      simp only [lp_X0_gauges_4]
      rw [if_neg (by rw [i_Lle (by omega) (by simp)]; simp; omega)]
      simp only [gd, ok, sb.1, and_self, if_true, x_gaugeAt sb r hk, b_some]
      have e0 : ∀ v : Int32, v + 0 = v := fun v => Int32.add_zero v
      by_cases g : isG I k
      · simp only [if_pos g, mq, lt_, i_addL]
        refine ih _ ?_
        show _ = Int32.ofNat (cntS (fun n => isG I n) k + if isG I k then 1 else 0)
        rw [if_pos g]
      · simp only [if_neg g, mq, lt_, i_addL]
        refine ih _ ?_
        show _ = Int32.ofNat (cntS (fun n => isG I n) k + if isG I k then 1 else 0)
        rw [if_neg g]
    · rintro n v rfl
      simp only [lp_X0_gauges_4]
      rw [if_pos (by decide), wp_some]
  obtain ⟨z, e1, e2⟩ := K
  rw [e1, b_some, e2]
theorem x_plugs {h : Hs} {M : Mm} {β : Nat} {I : Nat → Int32} (sb : BdA h B β) (r : PRs M B β I) : f_X0_plugs h (aB B β) M = some (Int32.ofNat (cntS (fun n => I (404 * n) = 5) 12)) := by
  unfold f_X0_plugs
  have K : wp (lp_X0_plugs_4 h (aB B β) M fuel 0 0) (fun z => z.1 = Int32.ofNat (cntS (fun n => I (404 * n) = 5) 12)) := by
    refine loopW (fun n k (s : Int32) => lp_X0_plugs_4 h (aB B β) M n s (Int32.ofNat k)) 12 (fun k s => s = Int32.ofNat (cntS (fun n => I (404 * n) = 5) k)) _ ?_ ?_ fuel 0 0 (by omega) (by unfold fuel; omega) rfl
    · rintro n k v hk rfl ih
      have sp := sb.2.2.2.2.2.2.2.2.2.1 k hk
      simp only [lp_X0_plugs_4]
      rw [if_neg (by rw [i_Lle (by omega) (by simp)]; simp; omega)]
      simp only [gd, ok, sb.1, and_self, if_true, x_placeAt sb hk, b_some, mq, sp, (r k hk).1]
      by_cases g : I (404 * k) = 5
      · rw [if_neg (not_not_intro g), b_some, wp_lt, wp_lt, i_addL, i_addL]
        refine ih _ ?_
        show _ = Int32.ofNat (cntS (fun n => I (404 * n) = 5) k + if I (404 * k) = 5 then 1 else 0)
        rw [if_pos g]
      · rw [if_pos g, b_some, wp_lt, wp_lt, i_addL, i_addL]
        refine ih _ ?_
        show _ = Int32.ofNat (cntS (fun n => I (404 * n) = 5) k + if I (404 * k) = 5 then 1 else 0)
        rw [if_neg g]
    · rintro n v rfl
      simp only [lp_X0_plugs_4]
      rw [if_pos (by decide), wp_some]
  obtain ⟨z, e1, e2⟩ := K
  rw [e1, b_some, e2]
theorem r_cnt {h : Hs} {M : Mm} (S : Sh2 h A) : wp (lp_X9_count_66 h 1 (A 0) M fuel 0 0) (fun z => z.1 = Int32.ofNat (cntS (fun n => isG (zI M (A 1)) n) 12)) ∧ wp (lp_X9_count_66b h 2 (A 0) M fuel 0 0) (fun z => z.1 = Int32.ofNat (cntS (fun n => zI M (A 1) (404 * n) = 5) 12)) := by
  have s := S.s
  constructor
  · refine loopW (fun n k (s : Int32) => lp_X9_count_66 h 1 (A 0) M n s (Int32.ofNat k)) 12 (fun k s => s = Int32.ofNat (cntS (fun n => isG (zI M (A 1)) n) k)) _ ?_ ?_ fuel 0 0 (by omega) (by unfold fuel; omega) rfl
    · rintro n k v hk rfl ih
      simp only [lp_X9_count_66]
      rw [if_neg (by rw [i_Lle (by omega) (by simp)]; simp; omega), if_neg (not_not_intro trivial), r_isGauge S hk, b_some]
      by_cases g : isG (zI M (A 1)) k
      · rw [if_pos g, if_neg (by decide), b_some, wp_lt, wp_lt, i_addL, i_addL]
        refine ih _ ?_
        show _ = Int32.ofNat (cntS (fun n => isG (zI M (A 1)) n) k + if isG (zI M (A 1)) k then 1 else 0)
        rw [if_pos g]
      · rw [if_neg g, if_pos rfl, b_some, wp_lt, wp_lt, i_addL, i_addL]
        refine ih _ ?_
        show _ = Int32.ofNat (cntS (fun n => isG (zI M (A 1)) n) k + if isG (zI M (A 1)) k then 1 else 0)
        rw [if_neg g]
    · rintro n v rfl
      simp only [lp_X9_count_66]
      rw [if_pos (by decide), wp_some]
  · refine loopW (fun n k (s : Int32) => lp_X9_count_66b h 2 (A 0) M n s (Int32.ofNat k)) 12 (fun k s => s = Int32.ofNat (cntS (fun n => zI M (A 1) (404 * n) = 5) k)) _ ?_ ?_ fuel 0 0 (by omega) (by unfold fuel; omega) rfl
    · rintro n k v hk rfl ih
      have f0 : 404 * k < 5328 := by omega
      simp only [lp_X9_count_66b]
      rw [if_neg (by rw [i_Lle (by omega) (by simp)]; simp; omega), if_pos (by decide)]
      simp (disch := omega) only [dq, s, gd, ok, and_self, if_true, i_mulL, i_inb, f0, i_nat]
      by_cases g : zI M (A 1) (404 * k) = 5
      · rw [if_neg (not_not_intro g), b_some, wp_lt, wp_lt, i_addL, i_addL]
        refine ih _ ?_
        show _ = Int32.ofNat (cntS (fun n => zI M (A 1) (404 * n) = 5) k + if zI M (A 1) (404 * k) = 5 then 1 else 0)
        rw [if_pos g]
      · rw [if_pos g, b_some, wp_lt, wp_lt, i_addL, i_addL]
        refine ih _ ?_
        show _ = Int32.ofNat (cntS (fun n => zI M (A 1) (404 * n) = 5) k + if zI M (A 1) (404 * k) = 5 then 1 else 0)
        rw [if_neg g]
    · rintro n v rfl
      simp only [lp_X9_count_66b]
      rw [if_pos (by decide), wp_some]
theorem t_count (V : Inv h1 M1 h2 M2 B A pic) : Sim ((f_X8_count h1 (B 0) p M1).bind fun r => some (r, M1)) (f_X9_count h2 (A 0) p M2) h1 h2 B A pic := by
  have V0 := V.t0
  have S1 := V.1
  have S2 := V.2.1
  have s := S2.s
  have q := S2.e
  obtain ⟨x0, x1, x2, -⟩ := S1.2.1
  obtain ⟨o1, r1, o2, n2⟩ := S1.2.1.2.2.2.2.2.2.2.2.1
  have sb := S1.2.2.2.1
  obtain ⟨u, hu, e1, e2, hf⟩ := V.2.2.2.2.2.1
  have e7 : zI (sI M2 (A 0) 0 0) (A 0) 7 = Int32.ofNat u := by simpa [zI_sI] using e2
  have e4 : zI (sI M2 (A 0) 0 0) (A 0) 4 = zI M2 (A 0) 4 := by simp [zI_sI]
  have e5 : zI (sI M2 (A 0) 0 0) (A 0) 5 = zI M2 (A 0) 5 := by simp [zI_sI]
  have eI : zI (sI M2 (A 0) 0 0) (A 1) = zI M2 (A 1) := funext fun j => by simp [zI_sI, q]
  unfold f_X8_count f_X9_count
  simp only [gd, ok, x0, x1, x2, dq, o1, sb.1, s, and_self, if_true, lt_, e1, e7, e4, e5, x_gauges sb V.2.2.2.1, x_plugs sb V.2.2.2.1, b_some]
  by_cases p0 : p = 0
  · subst p0
    rw [if_pos rfl, if_neg (by decide)]
    exact wp_some.mpr (wp_some.mpr ⟨rfl, V0⟩)
  · rw [if_neg p0, if_pos p0]
    by_cases p1 : p = 1
    · subst p1
      rw [if_pos rfl, if_pos (by decide), if_pos (by decide), if_pos rfl]
      obtain ⟨z, k1, k2⟩ := (r_cnt (M := sI M2 (A 0) 0 0) S2).1
      rw [k1]
      rw [eI] at k2
      exact wp_some.mpr (wp_some.mpr ⟨k2.symm, V0⟩)
    · rw [if_neg p1]
      by_cases p2 : p = 2
      · subst p2
        rw [if_pos rfl, if_pos (by decide), if_pos (by decide), if_neg (by decide), if_pos rfl]
        obtain ⟨z, k1, k2⟩ := (r_cnt (M := sI M2 (A 0) 0 0) S2).2
        rw [k1]
        rw [eI] at k2
        exact wp_some.mpr (wp_some.mpr ⟨k2.symm, V0⟩)
      · rw [if_neg p2]
        by_cases p3 : p = 3
        · subst p3
          rw [if_pos rfl, if_neg (show ¬ ¬ (3 : Int32) = 3 by decide)]
          rcases V.2.2.2.2.2.2.1 with ⟨z8, z9, z4⟩ | ⟨n, hn, z8, z9, z4, -⟩ | ⟨n, hn, z9, z8, z4, -⟩
          · rw [if_neg (not_not_intro z8), if_pos z9, z4, if_pos rfl]
            exact wp_some.mpr (wp_some.mpr ⟨rfl, V0⟩)
          · rw [if_pos (show ¬ zI M1 (B 0) 8 = -1 by rw [z8]; exact i_ne1 (by omega)), z4, if_neg (by decide)]
            exact wp_some.mpr (wp_some.mpr ⟨rfl, V0⟩)
          · rw [if_neg (not_not_intro z8), if_neg (show ¬ zI M1 (B 0) 9 = -1 by rw [z9]; exact i_ne1 (by omega)), z4, if_neg (by decide)]
            exact wp_some.mpr (wp_some.mpr ⟨rfl, V0⟩)
        · rw [if_neg p3, if_pos p3]
          by_cases p4 : p = 4
          · subst p4
            rw [if_pos rfl, if_neg (show ¬ ¬ (4 : Int32) = 4 by decide)]
            rcases S1.2.2.2.2.2.2 with ⟨np, r5⟩ | ⟨yp, r5, -⟩
            · rcases V.2.2.2.2.2.2.2 with ⟨-, z5⟩ | ⟨z, -⟩
              · rw [r5, z5, if_pos rfl]
                exact wp_some.mpr (wp_some.mpr ⟨rfl, V0⟩)
              · exact absurd z np
            · rcases V.2.2.2.2.2.2.2 with ⟨z, -⟩ | ⟨-, z5, -⟩
              · exact absurd yp z
              · rw [r5, z5, if_neg (by decide)]
                exact wp_some.mpr (wp_some.mpr ⟨rfl, V0⟩)
          · rw [if_neg p4, if_pos p4, if_neg p1, if_neg p2]
            exact wp_some.mpr (wp_some.mpr ⟨rfl, V0⟩)
end C2
