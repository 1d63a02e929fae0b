/-! CALLS: detail, limit, worst, crack, mend -/
theorem i_Ladd {a c : Nat} : (no_index (OfNat.ofNat c) : Int32) + Int32.ofNat a = Int32.ofNat ((OfNat.ofNat c : Nat) + a) := (Int32.ofNat_add c a).symm
section D
variable {h h1 h2 : Hs} {B A : Nat → Nat} {M M' M1 M2 : Mm} {pic : Prop} {n : Nat} {p k a b v : Int32} {I I' : Nat → Int32}
theorem DR.fields (r : DR M B 0 n I n) (w : WFd I n) (hI : ∀ j, ((2 ≤ j ∧ j < 24) ∨ (28 ≤ j ∧ j < 40)) → I' (4848 + 40 * n + j) = I (4848 + 40 * n + j)) (G1 : FB B (fun i _ => i = 300 + n) M M')
    (e3 : zI M' (aD B 0 n) 3 = I' (4848 + 40 * n)) (e4 : zI M' (aD B 0 n) 4 = I' (4848 + 40 * n + 1)) (e5 : zI M' (aD B 0 n) 5 = I' (4848 + 40 * n + 24)) (e6 : zI M' (aD B 0 n) 6 = I' (4848 + 40 * n + 25)) (e7 : zI M' (aD B 0 n) 7 = I' (4848 + 40 * n + 26)) (e8 : zI M' (aD B 0 n) 8 = I' (4848 + 40 * n + 27)) (hn : n < 12) : DR M' B 0 n I' n := by
  obtain ⟨-, -, -, -, -, -, r7⟩ := r
  refine ⟨e3, e4, e5, e6, e7, e8, fun i hi => ?_⟩
  obtain ⟨c, hc, ec⟩ := w.lad hi
  have l := (r7 i hi).fb G1 (fun j => by omega)
  have ho := oft_le i
  have ho2 : (oft i = 2 ∧ mst i = 6) ∨ (oft i = 15 ∧ mst i = 4) ∨ (oft i = 28 ∧ mst i = 4) := by
    rcases (show i = 0 ∨ i = 1 ∨ i = 2 by omega) with rfl | rfl | rfl <;> simp [oft, mst]
  have g : ∀ x, oft i ≤ x → x ≤ oft i + 2 * mst i → I' (4848 + 40 * n + x) = I (4848 + 40 * n + x) := fun x h1 h2 => hI x (by omega)
  unfold LR at l ⊢
  rw [ec, i_nat (by omega)] at l
  rw [g _ (Nat.le_refl _) (by omega), ec, i_nat (by omega)]
  refine ⟨l.1, fun j hj => ?_⟩
  have g1 := g (oft i + 1 + 2 * j) (by omega) (by omega)
  have g2 := g (oft i + 2 + 2 * j) (by omega) (by omega)
  rw [show 4848 + 40 * n + oft i + 1 + 2 * j = 4848 + 40 * n + (oft i + 1 + 2 * j) by omega, show 4848 + 40 * n + oft i + 2 + 2 * j = 4848 + 40 * n + (oft i + 2 + 2 * j) by omega, g1, g2]
  have := l.2 j hj
  rwa [show 4848 + 40 * n + oft i + 1 + 2 * j = 4848 + 40 * n + (oft i + 1 + 2 * j) by omega, show 4848 + 40 * n + oft i + 2 + 2 * j = 4848 + 40 * n + (oft i + 2 + 2 * j) by omega] at this
theorem WFd.fields (w : WFd I n) (hI : ∀ j, ((2 ≤ j ∧ j < 24) ∨ (28 ≤ j ∧ j < 40)) → I' (4848 + 40 * n + j) = I (4848 + 40 * n + j))
    (e3 : I' (4848 + 40 * n) = -1 ∨ ∃ m, m < 12 ∧ I' (4848 + 40 * n) = Int32.ofNat m) (e4 : ∃ s, s ≤ 400 ∧ I' (4848 + 40 * n + 1) = Int32.ofNat s) (e5 : 0 ≤ I' (4848 + 40 * n + 24) ∧ I' (4848 + 40 * n + 24) ≤ 4000000) (e6 : 0 ≤ I' (4848 + 40 * n + 25) ∧ I' (4848 + 40 * n + 25) ≤ 4000000) (e7 : -1 ≤ I' (4848 + 40 * n + 26) ∧ I' (4848 + 40 * n + 26) ≤ 1000000) (e8 : 0 ≤ I' (4848 + 40 * n + 27) ∧ I' (4848 + 40 * n + 27) ≤ 4000000) : WFd I' n := by
  have h' : ∀ i, ((4848 + 40 * n + 2 ≤ i ∧ i < 4848 + 40 * n + 24) ∨ (4848 + 40 * n + 28 ≤ i ∧ i < 4848 + 40 * n + 40)) → I' i = I i := fun i a => by
    have := hI (i - (4848 + 40 * n)) (by omega)
    rwa [show 4848 + 40 * n + (i - (4848 + 40 * n)) = i by omega] at this
  obtain ⟨w1, w2, w3, w4, w5, w6, w7, w8, w9⟩ := w
  refine ⟨e3, e4, w3.cg (fun i a b => h' i (by omega)) fun _ _ _ _ z => z, w4.cg (fun i a b => h' i (by omega)) fun _ _ _ _ z => z, e5, e6, e7, e8, w9.cg (fun i a b => h' i (by omega)) fun j t v hj z => ?_⟩
  refine ⟨z.1, z.2.1, z.2.2.1, fun h0 => ?_⟩
  rw [h' _ (by omega)]
  exact z.2.2.2 h0
/-- a detail's act, done: what is set behind it -/
theorem Inv.detF {M1' M2' M1'' M2'' : Mm} (V : Inv h1 M1 h2 M2 B A pic) (hn : n < 12)
    (F1 : FB B (fun i j => (300 ≤ i ∧ i % 100 = 24) ∨ (i = 0 ∧ (j = 8 ∨ j = 9))) M1 M1') (kd : DR M1' B 2 0 (zI M2 (A 1)) n) (u9 : zI M1' (B 0) 9 = Int32.ofNat n) (u8 : zI M1' (B 0) 8 = -1)
    (F2 : FB A (fun i j => i = 2 ∨ (i = 0 ∧ j = 4)) M2 M2') (hw : ∀ i, i < 5328 → zI M2' (A 2) i = zI M2 (A 1) i) (hc : zI M2' (A 0) 4 = 1)
    (G1 : FB B (fun i _ => 300 ≤ i ∧ i % 100 = n) M1' M1'') (G2 : FB A (fun i j => i = 1 ∧ 4848 + 40 * n ≤ j ∧ j < 4848 + 40 * n + 40) M2' M2'')
    (hp : DR M1'' B 0 n (zI M2'' (A 1)) n) (hW : WFd (zI M2'' (A 1)) n) : Inv h1 M1'' h2 M2'' B A pic := by
  refine V.actD hn ((F1.up fun i j z => by omega).tr (G1.up fun i j z => by omega)) ?_ ?_ (kd.fb G1 fun i j => by omega) ((F2.up fun i j z => by omega).tr (G2.up fun i j z => by omega)) (fun i hi => ?_) ?_ hp hW
  · exact (G1.i (by omega)).trans u8
  · exact (G1.i (by omega)).trans u9
  · rw [G2.i (by omega)]; exact hw i hi
  · rw [G2.i (by omega)]; exact hc
/-- what stands behind keepDetail and act, before anything is set -/
theorem Inv.detB {M1' M2' : Mm} (V : Inv h1 M1 h2 M2 B A pic) (hn : n < 12) (F1 : FB B (fun i j => (300 ≤ i ∧ i % 100 = 24) ∨ (i = 0 ∧ (j = 8 ∨ j = 9))) M1 M1') (F2 : FB A (fun i j => i = 2 ∨ (i = 0 ∧ j = 4)) M2 M2') :
    DR M1' B 0 n (zI M2 (A 1)) n ∧ zI M2' (A 1) = zI M2 (A 1) := ⟨(V.2.2.2.2.1 n hn).fb F1 fun i j => by omega, funext fun j => F2.i (by omega)⟩
theorem t_one {f o : Nat} (V : Inv h1 M1 h2 M2 B A pic) (hn : n < 12) (hfo : (f = 3 ∧ o = 0 ∧ (v = -1 ∨ ∃ m, m < 12 ∧ v = Int32.ofNat m)) ∨ (f = 5 ∧ o = 24 ∧ 0 ≤ v ∧ v ≤ 4000000) ∨ (f = 6 ∧ o = 25 ∧ 0 ≤ v ∧ v ≤ 4000000)) :
    Sim ((f_X8_keepDetail h1 (B 0) (Int32.ofNat n) (aD B 0 n) M1).bind fun z => some (1, sI z (aD B 0 n) f v)) ((f_X9_act h2 (A 0) M2).bind fun z => some (1, sI z (A 1) (4848 + 40 * n + o) v)) h1 h2 B A pic := by
  have S1 := V.1
  have S2 := V.2.1
  unfold Sim
  rw [wp_bind]
  refine (x_keepD S1 hn (V.2.2.1.2 n hn) (V.2.2.2.2.1 n hn)).mono ?_
  rintro M1' ⟨F1, kd, u9, u8⟩
  rw [wp_some, wp_bind]
  refine (r_act S2).mono ?_
  rintro M2' ⟨F2, hw, hc⟩
  rw [wp_some]
  refine ⟨rfl, ?_⟩
  obtain ⟨d0, eI⟩ := V.detB hn F1 F2
  have w := V.2.2.1.2 n hn
  have d0' := d0
  have w' := w
  obtain ⟨r1, r2, r3, r4, r5, r6, -⟩ := d0'
  obtain ⟨w1, w2, -, -, w5, w6, w7, w8, -⟩ := w'
  refine V.detF hn F1 kd u9 u8 F2 hw hc (FB.rf.sI (a := 300 + 12 * 0 + n) S1.1 (by omega)) (FB.rf.sI S2.2 (by omega)) (d0.fields w (fun j hj => ?_) (FB.rf.sI (a := 300 + 12 * 0 + n) S1.1 (by omega)) ?_ ?_ ?_ ?_ ?_ ?_ hn) (w.fields (fun j hj => ?_) ?_ ?_ ?_ ?_ ?_ ?_)
  all_goals rcases hfo with ⟨rfl, rfl, hv⟩ | ⟨rfl, rfl, hv⟩ | ⟨rfl, rfl, hv⟩
  all_goals simp only [zI_sI, true_and]
  all_goals first | (rw [if_neg (by omega), eI]; done) | skip
  all_goals (try simp [eI, *]; done)
theorem Sim.no {M1 M2 : Mm} {r : Int32} (V : Inv h1 M1 h2 M2 B A pic) : Sim (some (r, M1)) (some (r, M2)) h1 h2 B A pic := wp_some.mpr (wp_some.mpr ⟨rfl, V⟩)
theorem t_detail (V : Inv h1 M1 h2 M2 B A pic) : Sim (f_X8_detail h1 (B 0) a p M1) (f_X9_detail h2 (A 0) a p M2) h1 h2 B A pic := by
  have V0 := V.t0
  have S1 := V.1
  have S2 := V.2.1
  have s := S2.s
  obtain ⟨x0, -, x1, -⟩ := S1.2.1
  have sb := S1.2.2.2.1
  by_cases ha : 0 ≤ a ∧ a < 12
  · obtain ⟨n, hn, rfl⟩ := good12 ha
    have sd := sb.2.2.2.2.2.2.2.2.2.2 n hn
    have f0 : 4848 + 40 * n + 0 < 5328 := by omega
    unfold f_X8_detail f_X9_detail f_X9_base
    simp only [gd, ok, x0, x1, dq, sb.1, s, and_self, if_true, x_detailAt sb hn, b_some, mq, sd.1, r_no hn, lt_]
    simp (disch := omega) only [i_mulL, i_Ladd, i_addL, i_inb, f0, if_true, i_nat, not_true_eq_false, if_false]
    by_cases e : p = -1
    · subst e
      rw [if_pos rfl, if_pos rfl]
      exact t_one V0 hn (Or.inl ⟨rfl, rfl, Or.inl rfl⟩)
    · rw [if_neg e, if_neg e]
      by_cases hp : 0 ≤ p ∧ p < 12
      · obtain ⟨m, hm, rfl⟩ := good12 hp
        rw [x_placeAt sb hm, r_no hm, b_some, b_some, if_pos rfl]
        exact t_one V0 hn (Or.inl ⟨rfl, rfl, Or.inr ⟨m, hm, rfl⟩⟩)
      · rw [x_placeB sb hp, r_noB hp, b_some, b_some, if_neg (by decide)]
        exact Sim.no V0
  · unfold f_X8_detail f_X9_detail
    simp only [gd, ok, x0, x1, dq, sb.1, s, and_self, if_true, x_detailB sb ha, b_some, mq, lt_, r_noB ha]
    rw [if_pos (by decide)]
    exact Sim.no V0
theorem r_set {o : Nat} {most : Int32} (S : Sh2 h A) (hn : n < 12) (ho : o < 40) : f_X9_set h (A 0) (Int32.ofNat n) (Int32.ofNat o) v most M = if 0 ≤ v ∧ v ≤ most then (f_X9_act h (A 0) (sI M (A 0) 0 0)).bind fun z => some (1, sI z (A 1) (4848 + 40 * n + o) v) else some (0, sI M (A 0) 0 0) := by
  have s := S.s
  have f0 : 4848 + 40 * n + o < 5328 := by omega
  unfold f_X9_set f_X9_base
  simp only [gd, ok, dq, s, and_self, if_true, b_some, r_no hn, lt_]
  simp (disch := omega) only [i_mulL, i_Ladd, i_add, i_inb, f0, if_true, i_nat, not_true_eq_false, if_false]
  by_cases h1 : v < 0
  · rw [if_pos h1, if_neg fun z => Int32.not_le.mpr h1 z.1]
  · rw [if_neg h1]
    by_cases h2 : v ≤ most
    · rw [if_pos h2, if_pos ⟨Int32.not_lt.mp h1, h2⟩]
    · rw [if_neg h2, if_neg fun z => h2 z.2]
theorem r_setB {o : Int32} {most : Int32} (S : Sh2 h A) (hp : ¬ (0 ≤ p ∧ p < 12)) : f_X9_set h (A 0) p o v most M = some (0, sI M (A 0) 0 0) := by
  have s := S.s
  unfold f_X9_set
  simp only [gd, ok, s, and_self, if_true, b_some, r_noB hp, lt_]
  rw [if_pos (by decide)]
theorem gd01 {x : Option (Int32 × Mm)} (h : ∀ z, x = some z → z.1 = 0 ∨ z.1 = 1) : (x.bind fun z => gd (z.1 = 0 ∨ z.1 = 1) (some (z.1, z.2))) = x := by
  cases x with
  | none => rfl
  | some z => rw [b_some]; unfold gd; rw [if_pos (h z rfl)]
theorem r_set01 {o : Nat} {most : Int32} (S : Sh2 h A) (ho : o < 40) : ∀ z, f_X9_set h (A 0) p (Int32.ofNat o) v most M = some z → z.1 = 0 ∨ z.1 = 1 := by
  intro z hz
  by_cases hp : 0 ≤ p ∧ p < 12
  · obtain ⟨n, hn, rfl⟩ := good12 hp
    rw [r_set S hn ho] at hz
    split at hz
    · obtain ⟨y, -, e⟩ := Option.bind_eq_some_iff.mp hz
      cases e; exact Or.inr rfl
    · cases hz; exact Or.inl rfl
  · rw [r_setB S hp] at hz
    cases hz; exact Or.inl rfl
theorem t_limit (V : Inv h1 M1 h2 M2 B A pic) : Sim (f_X8_limit h1 (B 0) p v M1) (f_X9_limit h2 (A 0) p v M2) h1 h2 B A pic := by
  have V0 := V.t0
  have S1 := V.1
  have S2 := V.2.1
  obtain ⟨x0, -, x1, -⟩ := S1.2.1
  have sb := S1.2.2.2.1
  have e1 : f_X9_limit h2 (A 0) p v M2 = f_X9_set h2 (A 0) p (Int32.ofNat 24) v 4000000 M2 := by
    unfold f_X9_limit
    rw [gd, if_pos S2.s.1]
    exact gd01 (r_set01 (o := 24) S2 (by decide))
  rw [e1]
  by_cases hp : 0 ≤ p ∧ p < 12
  · obtain ⟨n, hn, rfl⟩ := good12 hp
    have sd := sb.2.2.2.2.2.2.2.2.2.2 n hn
    rw [r_set S2 hn (by omega)]
    unfold f_X8_limit
    simp only [gd, ok, x0, x1, dq, sb.1, and_self, if_true, x_detailAt sb hn, b_some, mq, sd.1, x_within, lt_]
    by_cases g : 0 ≤ v ∧ v ≤ 4000000
    · rw [if_pos g, if_pos g, if_pos (by decide)]
      exact t_one V0 hn (Or.inr (Or.inl ⟨rfl, rfl, g⟩))
    · rw [if_neg g, if_neg g, if_neg (by decide)]
      exact Sim.no V0
  · rw [r_setB S2 hp]
    unfold f_X8_limit
    simp only [gd, ok, x0, x1, dq, sb.1, and_self, if_true, x_detailB sb hp, b_some, mq]
    exact Sim.no V0
theorem t_worst (V : Inv h1 M1 h2 M2 B A pic) : Sim (f_X8_worst h1 (B 0) p v M1) (f_X9_worst h2 (A 0) p v M2) h1 h2 B A pic := by
  have V0 := V.t0
  have S1 := V.1
  have S2 := V.2.1
  obtain ⟨x0, -, x1, -⟩ := S1.2.1
  have sb := S1.2.2.2.1
  have e1 : f_X9_worst h2 (A 0) p v M2 = f_X9_set h2 (A 0) p (Int32.ofNat 25) v 4000000 M2 := by
    unfold f_X9_worst
    rw [gd, if_pos S2.s.1]
    exact gd01 (r_set01 (o := 25) S2 (by decide))
  rw [e1]
  by_cases hp : 0 ≤ p ∧ p < 12
  · obtain ⟨n, hn, rfl⟩ := good12 hp
    have sd := sb.2.2.2.2.2.2.2.2.2.2 n hn
    rw [r_set S2 hn (by omega)]
    unfold f_X8_worst
    simp only [gd, ok, x0, x1, dq, sb.1, and_self, if_true, x_detailAt sb hn, b_some, mq, sd.1, x_within, lt_]
    by_cases g : 0 ≤ v ∧ v ≤ 4000000
    · rw [if_pos g, if_pos g, if_pos (by decide)]
      exact t_one V0 hn (Or.inr (Or.inr ⟨rfl, rfl, g⟩))
    · rw [if_neg g, if_neg g, if_neg (by decide)]
      exact Sim.no V0
  · rw [r_setB S2 hp]
    unfold f_X8_worst
    simp only [gd, ok, x0, x1, dq, sb.1, and_self, if_true, x_detailB sb hp, b_some, mq]
    exact Sim.no V0
theorem t_crack (V : Inv h1 M1 h2 M2 B A pic) : Sim (f_X8_crack h1 (B 0) p k v M1) (f_X9_crack h2 (A 0) p k v M2) h1 h2 B A pic := by
  have V0 := V.t0
  have V00 := V0.t0
  have S1 := V.1
  have S2 := V.2.1
  have s := S2.s
  have q := S2.e
  obtain ⟨x0, -, x1, -⟩ := S1.2.1
  have sb := S1.2.2.2.1
  by_cases hp : 0 ≤ p ∧ p < 12
  · obtain ⟨n, hn, rfl⟩ := good12 hp
    have sd := sb.2.2.2.2.2.2.2.2.2.2 n hn
    have f0 : 4848 + 40 * n + 27 < 5328 := by omega
    unfold f_X8_crack f_X9_crack f_X9_base
    simp only [gd, ok, x0, x1, dq, sb.1, s, and_self, if_true, x_detailAt sb hn, b_some, mq, sd.1, x_within, lt_]
    rw [show (26 : Int32) = Int32.ofNat 26 from rfl, r_set S2 hn (by omega)]
    simp (disch := omega) only [i_mulL, i_Ladd, i_addL, i_inb, f0, if_true, i_nat]
    by_cases g : 0 ≤ k ∧ k ≤ 1000000
    · rw [if_pos g, if_neg (by decide)]
      by_cases g1 : v < 0
      · rw [if_pos g1, if_neg (fun z : 0 ≤ v ∧ v ≤ 4000000 => Int32.not_le.mpr g1 z.1), if_neg (by decide)]
        exact Sim.no V0
      · rw [if_neg g1]
        by_cases g2 : 4000000 < v
        · rw [if_pos g2, if_neg (fun z : 0 ≤ v ∧ v ≤ 4000000 => Int32.not_le.mpr g2 z.2), if_neg (by decide)]
          exact Sim.no V0
        · rw [if_neg g2, if_pos g, if_pos (And.intro (Int32.not_lt.mp g1) (Int32.not_lt.mp g2)), if_pos (by decide)]
          unfold Sim
          rw [wp_bind]
          refine (x_keepD S1 hn (V00.2.2.1.2 n hn) (V00.2.2.2.2.1 n hn)).mono ?_
          rintro M1' ⟨F1, kd, u9, u8⟩
          rw [wp_some, wp_bind, wp_bind]
          refine (r_act S2).mono ?_
          rintro M2' ⟨F2, hw, hc⟩
          rw [wp_some, if_pos (show ¬ (1 : Int32) = 0 by decide), wp_some]
          refine ⟨rfl, ?_⟩
          obtain ⟨d0, eI⟩ := V00.detB hn F1 F2
          have w := V00.2.2.1.2 n hn
          have d0' := d0
          have w' := w
          obtain ⟨r1, r2, r3, r4, r5, r6, -⟩ := d0'
          obtain ⟨w1, w2, -, -, w5, w6, w7, w8, -⟩ := w'
          have gv : 0 ≤ v ∧ v ≤ 4000000 := And.intro (Int32.not_lt.mp g1) (Int32.not_lt.mp g2)
          have gk : -1 ≤ k := Int32.le_trans (by decide) g.1
          have G1 : FB B (fun i _ => i = 300 + n) M1' (sI (sI M1' (aD B 0 n) 7 k) (aD B 0 n) 8 v) := (FB.rf.sI (a := 300 + 12 * 0 + n) S1.1 (by omega)).sI (a := 300 + 12 * 0 + n) S1.1 (by omega)
          refine V00.detF hn F1 kd u9 u8 F2 hw hc (G1.up fun i j z => by omega) ((FB.rf.sI S2.2 (by omega)).sI S2.2 (by omega)) (d0.fields w (fun j hj => ?_) G1 ?_ ?_ ?_ ?_ ?_ ?_ hn) (w.fields (fun j hj => ?_) ?_ ?_ ?_ ?_ ?_ ?_)
          all_goals simp only [zI_sI, true_and]
          all_goals first | (rw [if_neg (by omega), if_neg (by omega), eI]; done) | skip
          all_goals (try simp [eI, *]; done)
          all_goals (simp only [eI]; simp; first | exact ⟨gk, g.2⟩ | exact gv | (rw [if_neg (by omega), if_neg (by omega)]; simp [zI_sI, q]))
    · rw [if_neg g, if_pos rfl]
      by_cases g1 : v < 0
      · rw [if_pos g1]; exact Sim.no V0
      · rw [if_neg g1]
        by_cases g2 : 4000000 < v
        · rw [if_pos g2]; exact Sim.no V0
        · rw [if_neg g2, if_neg g, b_some, if_neg (show ¬ ¬ (0 : Int32) = 0 by decide)]
          exact Sim.no V00
  · unfold f_X8_crack f_X9_crack
    simp only [gd, ok, x0, x1, dq, sb.1, s, and_self, if_true, x_detailB sb hp, b_some, mq, lt_, r_setB S2 hp]
    by_cases g1 : v < 0
    · rw [if_pos g1]; exact Sim.no V0
    · rw [if_neg g1]
      by_cases g2 : 4000000 < v
      · rw [if_pos g2]; exact Sim.no V0
      · rw [if_neg g2, if_neg (by decide)]
        exact Sim.no V00
end D
