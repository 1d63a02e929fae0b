/-! WEAR: both sides, whole -/
theorem sum7_s {s : Int64} {p : Nat → Int64} : sum7 s p = sum7 0 p + s := by
  unfold sum7
  rw [Int64.zero_add]
  ac_rfl
section W
variable {h h1 h2 : Hs} {B A : Nat → Nat} {M M1 M2 : Mm} {pic : Prop} {d m : Nat}
theorem x_reckonWear (V : Inv h1 M1 h2 M2 B A pic) (hd : d < 12) : wp (f_X8_reckonWear h1 (B 0) (aD B 0 d) M1) (fun M1' => FB B (fun i _ => 3 ≤ i ∧ i ≤ 15) M1 M1' ∧ (∀ i, i < 7 → zJ M1' (B 11) i = wpA (zI M2 (A 1)) d i) ∧ zJ M1' (B 10) 1 = sum7 0 (wpA (zI M2 (A 1)) d) ∧ zJ M1' (B 10) 2 = sum7 0 (wpA (zI M2 (A 1)) d) + wgA (zI M2 (A 1)) d) := by
  have S1 := V.1
  have S1' := S1
  obtain ⟨hB, sx, sr, sb, -⟩ := S1'
  have W := V.2.2.1
  have wd := W.2 d hd
  have sd := sb.2.2.2.2.2.2.2.2.2.2 d hd
  unfold f_X8_reckonWear
  rw [wp_gd]
  refine ⟨sx.1, ?_⟩
  rw [sx.2.2.2.2.1, wp_dq, wp_gd]
  refine ⟨sx.2.2.2.2.2.2.2.2.2.1.1, ?_⟩
  rw [wp_bind]
  refine (x_wbegin hB sx).mono ?_
  rintro Ma ⟨Fa, ws, w2⟩
  have dr : DR Ma B 0 d (zI M2 (A 1)) d := (V.2.2.2.2.1 d hd).fb Fa fun i j => by omega
  have Pa : PRs Ma B 0 (zI M2 (A 1)) := fun m hm => (V.2.2.2.1 m hm).fb Fa fun j => by omega
  rw [sx.2.2.1, wp_dq, wp_gd]
  refine ⟨sd.1, ?_⟩
  rw [wp_gd]
  refine ⟨sb.1, ?_⟩
  rw [dr.1]
  rcases gOf_cases wd with ⟨g0, g1⟩ | ⟨m, hm, em, hg, g0⟩
  · have eg : f_X0_gaugeAt h1 (aB B 0) (zI M2 (A 1) (4848 + 40 * d)) Ma = some none := by
      rcases g1 with e | ⟨m, hm, e, ng⟩
      · rw [e]; exact x_gaugeB sb (by decide)
      · rw [e, x_gaugeAt sb Pa hm, if_neg ng]
    rw [eg, b_some, wp_mqN, wp_some]
    unfold wpA wgA
    rw [g0]
    obtain ⟨-, a2, a3⟩ := ws
    refine ⟨Fa.up fun i j z => by omega, a3, ?_, ?_⟩
    · rw [a2]; show (0 : Int64) = sum7 0 (fun _ => 0); decide
    · rw [w2]; show (0 : Int64) = sum7 0 (fun _ => 0) + 0; decide
  · rw [em, x_gaugeAt sb Pa hm, if_pos hg, b_some, wp_mqS, sx.2.2.2.1, wp_dq, wp_gd]
    refine ⟨sr.1, ?_⟩
    obtain ⟨hb, eb⟩ := wd.beg
    rw [wp_bind, dr.2.1, eb]
    have Va : Inv h1 Ma h2 M2 B A pic := V.sc (Fa.up fun i j z => by omega) FB.rf
    refine (x_reckon hB sr sb W hm hg Pa hb).mono ?_
    rintro Mb ⟨Fb, lk⟩
    have Fb' : FB B (fun i _ => 3 ≤ i ∧ i ≤ 9) Ma Mb := Fb.fb fun i j z => by
      obtain ⟨k, k1, k2, e⟩ := z
      have := hB _ _ e
      omega
    obtain ⟨t4, -, p4, c4⟩ := trn400 (from_ := begS (zI M2 (A 1)) d) W hm
    have hr := trnL_rdg (from_ := begS (zI M2 (A 1)) d) W hm
    have hC : ∀ y ∈ (pilL (trnL (zI M2 (A 1)) m (begS (zI M2 (A 1)) d))).2, y.1 < (trnL (zI M2 (A 1)) m (begS (zI M2 (A 1)) d)).length ∧ y.2.1 < (trnL (zI M2 (A 1)) m (begS (zI M2 (A 1)) d)).length ∧ y.2.2 < (trnL (zI M2 (A 1)) m (begS (zI M2 (A 1)) d)).length := fun y hy => pilN_cyc hy
    have hP : ∀ x ∈ (pilL (trnL (zI M2 (A 1)) m (begS (zI M2 (A 1)) d))).1, x < (trnL (zI M2 (A 1)) m (begS (zI M2 (A 1)) d)).length := fun x hx => pilN_mem hx
    have ws' : WS Mb B false 0 (fun _ => 0) := by
      obtain ⟨a1, a2, a3⟩ := ws
      exact ⟨(Fb'.i (by omega)).trans a1, ((Fb' 10 1 (by omega)).2).trans a2, fun i hi => ((Fb' 11 i (by omega)).2).trans (a3 i hi)⟩
    rw [wp_bind]
    refine (x_wear hB sx sr sd wd (dr.fb Fb' fun i j => by omega) hd lk t4 p4 c4 hr hP hC ws').mono ?_
    rintro Mc ⟨Fc, c1, c2, c3⟩
    rw [wp_some]
    have hL : ∀ n, wls (zI M2 (A 1)) d (trnL (zI M2 (A 1)) m (begS (zI M2 (A 1)) d)) (pilL (trnL (zI M2 (A 1)) m (begS (zI M2 (A 1)) d))).1 (pilL (trnL (zI M2 (A 1)) m (begS (zI M2 (A 1)) d))).2 n = sum7 0 (wpt (zI M2 (A 1)) d (trnL (zI M2 (A 1)) m (begS (zI M2 (A 1)) d)) (pilL (trnL (zI M2 (A 1)) m (begS (zI M2 (A 1)) d))).1 (pilL (trnL (zI M2 (A 1)) m (begS (zI M2 (A 1)) d))).2 n) := fun n => ls_sum fun j _ => by
      have := (bndS_ok (e := itE (zI M2 (A 1)) d (trnL (zI M2 (A 1)) m (begS (zI M2 (A 1)) d)) (pilL (trnL (zI M2 (A 1)) m (begS (zI M2 (A 1)) d))).1 (pilL (trnL (zI M2 (A 1)) m (begS (zI M2 (A 1)) d))).2 j) wd).1
      unfold itB; omega
    unfold wpA wgA
    rw [g0]
    refine ⟨((Fa.up fun i j z => by omega).tr (Fb'.up fun i j z => by omega)).tr (Fc.up fun i j z => by omega), c1, ?_, ?_⟩
    · rw [c2, hL]
    · rw [c3, hL]
theorem r_count0 (S : Sh2 h A) {I : Nat → Int32} (hI : zI M (A 1) = I) (W : WF I) (hd : d < 12) : wp (f_X9_count0 h (A 0) (Int32.ofNat d) M) (fun M' => FB A (fun i j => (i = 0 ∧ 11 ≤ j) ∨ 5 ≤ i) M M' ∧ (∀ i, i < 7 → zJ M' (A 13) i = wpA I d i) ∧ zJ M' (A 0) 21 = wgA I d) := by
  have s := S.s
  have q := S.e
  have wd := W.2 d hd
  unfold f_X9_count0
  rw [wp_bind]
  refine (loopW (fun n k s => lp_X9_count0_2 h (Int32.ofNat d) (A 0) n (Int32.ofNat k) s) 7 (fun k M' => FB A (fun i _ => i = 13) M M' ∧ ∀ i, i < k → zJ M' (A 13) i = 0) (fun z => FB A (fun i _ => i = 13) M z.2 ∧ ∀ i, i < 7 → zJ z.2 (A 13) i = 0) ?_ ?_ fuel 0 M (by omega) (by unfold fuel; omega) ⟨FB.rf, by omega⟩).mono ?_
  · intro n k M1 hk ⟨F, hv⟩ ih
    simp only [lp_X9_count0_2]
    rw [if_neg (by rw [i_Lle (by omega) (by simp)]; simp; omega)]
    simp (disch := omega) only [gd, ok, dq, s, and_self, if_true, i_inb, hk, i_nat, lt_, i_addL]
    refine ih _ ⟨F.sJ S.2 rfl, fun i hi => ?_⟩
    by_cases e : i = k
    · subst e; simp [zJ_sJ]
    · rw [zJ_sJ, if_neg (by simp [e])]; exact hv i (by omega)
  · intro n M1 ⟨F, hv⟩
    simp only [lp_X9_count0_2]
    rw [if_pos (by decide), wp_some]
    exact ⟨F, hv⟩
  rintro ⟨v, Ma⟩ ⟨Fa, ha⟩
  have Fa : FB A (fun i _ => i = 13) M Ma := Fa
  have ha : ∀ i, i < 7 → zJ Ma (A 13) i = 0 := ha
  rw [wp_gd]
  refine ⟨s.1, ?_⟩
  refine wp_ltE fun Mb hMb => ?_
  have Fb : FB A (fun i j => i = 13 ∨ (i = 0 ∧ j = 21)) M Mb := by rw [hMb]; exact (Fa.up fun i j z => by omega).sJ S.2 (Or.inr ⟨rfl, rfl⟩)
  have eI : zI Mb (A 1) = I := by rw [← hI]; exact funext fun j => Fb.i (by omega)
  have hb0 : ∀ i, i < 7 → zJ Mb (A 13) i = 0 := fun i hi => by rw [hMb, zJ_sJ, if_neg (by simp [q])]; exact ha i hi
  have hb21 : zJ Mb (A 0) 21 = 0 := by rw [hMb]; simp [zJ_sJ]
  have f0 : 4848 + 40 * d + 0 < 5328 := by omega
  have f1 : 4848 + 40 * d + 1 < 5328 := by omega
  have f25 : 4848 + 40 * d + 25 < 5328 := by omega
  unfold f_X9_base
  simp (disch := omega) only [dq, gd, ok, s, and_self, if_true, b_some, i_mulL, i_Ladd, i_addL, i_inb, f0, f1, f25, i_nat, lt_, eI, Nat.add_zero]
  have f0' : 4848 + 40 * d < 5328 := by omega
  rw [if_pos f0']
  rcases gOf_cases wd with ⟨g0, g1⟩ | ⟨m, hm, em, hg, g0⟩
  · have eg : f_X9_isGauge h (A 0) (I (4848 + 40 * d)) Mb = some 0 := by
      rcases g1 with e | ⟨m, hm, e, ng⟩
      · rw [e]; exact r_isGaugeB S (by decide)
      · rw [e, r_isGauge S hm, eI, if_neg ng]
    rw [eg, b_some, if_neg (not_not_intro rfl), wp_some]
    unfold wpA wgA
    rw [g0]
    exact ⟨Fb.up fun i j z => by omega, hb0, hb21⟩
  · obtain ⟨hb, eb⟩ := wd.beg
    rw [em, r_isGauge S hm, eI, if_pos hg, b_some, if_pos (show ¬ (1 : Int32) = 0 by decide), eb, wp_bind]
    have L := r_look (M := Mb) (from_ := begS I d) S (by rw [eI]; exact W) hm hb
    rw [eI] at L
    refine L.mono ?_
    rintro Mc ⟨Fc0, l11, l12, lT, ⟨l16, lA, lB, lC⟩, l19, lR⟩
    have Fc : FB A (fun i j => (i = 0 ∧ (j = 11 ∨ j = 12 ∨ j = 16 ∨ j = 19)) ∨ (5 ≤ i ∧ i ≤ 12)) Mb Mc := Fc0.fb fun i j z => by
      rcases z with ⟨e, z⟩ | ⟨k, k1, k2, e⟩
      · have := S.2 _ _ e; omega
      · have := S.2 _ _ e; omega
    have eIc : zI Mc (A 1) = I := by rw [← eI]; exact funext fun j => Fc.i (by omega)
    obtain ⟨t4, -, p4, c4⟩ := trn400 (from_ := begS I d) W hm
    have hr := trnL_rdg (from_ := begS I d) W hm
    have hC : ∀ y ∈ (pilL (trnL I m (begS I d))).2, y.1 < (trnL I m (begS I d)).length ∧ y.2.1 < (trnL I m (begS I d)).length ∧ y.2.2 < (trnL I m (begS I d)).length := fun y hy => pilN_cyc hy
    have hP : ∀ x ∈ (pilL (trnL I m (begS I d))).1, x < (trnL I m (begS I d)).length := fun x hx => pilN_mem hx
    have hPC : (pilL (trnL I m (begS I d))).1.length = 0 → (pilL (trnL I m (begS I d))).2.length = 0 := by
      intro z
      have h1 : (pilL (trnL I m (begS I d))).1.length + 2 * (pilL (trnL I m (begS I d))).2.length = (trnL I m (begS I d)).length := pilN_len _ _
      rcases Nat.eq_zero_or_pos (trnL I m (begS I d)).length with y | y
      · omega
      · have : 1 ≤ (pilL (trnL I m (begS I d))).1.length := pil_pos y
        omega
    rw [wp_bind]
    refine (r_items S eIc hd wd l16 l19 lT lA lB lR t4 p4 c4 hr hP hC hPC (fun i hi => ((Fc 13 i (by omega)).2).trans (hb0 i hi))).mono ?_
    rintro ⟨v1, v2, Md⟩ ⟨Fd, hd1⟩
    have Fd : FB A (fun i _ => i = 13) Mc Md := Fd
    have hd1 : ∀ i, i < 7 → zJ Md (A 13) i = _ := hd1
    have eId : zI Md (A 1) = I := by rw [← eIc]; exact funext fun j => Fd.i (by omega)
    have rs := (r_spans (M := Md) S hm (by rw [eId]; exact W)).1
    rw [eId] at rs
    rw [rs, b_some, show zI Md (A 1) (4848 + 40 * d + 25) = I (4848 + 40 * d + 25) by rw [eId], r_boundOf S hd (by rw [eId]; exact wd), eId, b_some, r_bears S hd (bndS_ok wd).1, eId, b_some, if_pos (berS_ok wd (bndS_ok wd).2).nz, wp_bind]
    have h21 : zJ Md (A 0) 21 = 0 := ((Fd 0 21 (by omega)).2.trans ((Fc 0 21 (by omega)).2)).trans hb21
    refine (r_gaps (w2 := 0) S eId W hm hb h21).mono ?_
    rintro ⟨v3, Me⟩ ⟨Fe, he⟩
    rw [wp_some]
    unfold wpA wgA
    rw [g0]
    refine ⟨(((Fb.up fun i j z => by omega).tr (Fc.up fun i j z => by omega)).tr (Fd.up fun i j z => by omega)).tr (Fe.up fun i j z => by omega), fun i hi => ?_, he⟩
    have : zJ Me (A 13) i = zJ Md (A 13) i := (Fe 13 i (by omega)).2
    exact this.trans (hd1 i hi)
theorem r_sumL (S : Sh2 h A) {s0 : Int64} {p : Nat → Int64} (hp : ∀ i, i < 7 → zJ M (A 13) i = p i) : wp (lp_X9_sum_21 h (A 0) M fuel s0 0) (fun z => z.1 = sum7 s0 p) := by
  have s := S.s
  have K : ∀ (r k n : Nat) (v : Int64), r + k = 7 → r < n → wp (lp_X9_sum_21 h (A 0) M n v (Int32.ofNat k)) (fun z => z.1 = (List.range' k r).foldl (fun a i => a + p i) v) := by
    intro r
    induction r with
    | zero =>
      intro k n v hk hn
      obtain ⟨n, rfl⟩ : ∃ q, n = q + 1 := ⟨n - 1, by omega⟩
      have : k = 7 := by omega
      subst this
      simp only [lp_X9_sum_21]
      rw [if_pos (by decide), wp_some]
      rfl
    | succ r ih =>
      intro k n v hk hn
      obtain ⟨n, rfl⟩ : ∃ q, n = q + 1 := ⟨n - 1, by omega⟩
      have hk7 : k < 7 := by omega
      simp only [lp_X9_sum_21]
      rw [if_neg (by rw [i_Lle (by omega) (by simp)]; simp; omega)]
      simp (disch := omega) only [gd, ok, dq, s, and_self, if_true, i_inb, hk7, i_nat, lt_, i_addL, hp k hk7]
      exact ih (k + 1) n (v + p k) (by omega) (by omega)
  exact K 7 0 fuel s0 rfl (by unfold fuel; omega)
theorem r_sum (S : Sh2 h A) {I : Nat → Int32} (hI : zI M (A 1) = I) (W : WF I) (hd : d < 12) {sort : Int32} : wp (f_X9_sum h (A 0) (Int32.ofNat d) sort M) (fun z => FB A (fun i j => (i = 0 ∧ 11 ≤ j) ∨ 5 ≤ i) M z.2 ∧ z.1 = if sort = 0 then sum7 0 (wpA I d) else sum7 0 (wpA I d) + wgA I d) := by
  have s := S.s
  unfold f_X9_sum
  rw [wp_gd]
  refine ⟨s.1, ?_⟩
  rw [wp_bind]
  refine (r_count0 S hI W hd).mono ?_
  rintro Ma ⟨Fa, h1, h2⟩
  rw [h2]
  by_cases e : sort = 0
  · rw [if_neg (not_not_intro e), b_some, if_pos e, wp_bind]
    refine (r_sumL S h1).mono ?_
    rintro z hz
    rw [wp_some]
    exact ⟨Fa, hz⟩
  · rw [if_pos e, b_some, if_neg e, wp_bind]
    refine (r_sumL S h1).mono ?_
    rintro z hz
    rw [wp_some]
    exact ⟨Fa, hz.trans sum7_s⟩
end W
