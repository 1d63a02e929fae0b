/-! other codes for the same cells: what is not the picture's stays -/
def O1 (i : Nat) : Prop := ¬ (i = 21 ∨ i = 23 ∨ i = 25 ∨ (100 ≤ i ∧ 12 ≤ i % 100 ∧ i % 100 < 24))
section R
variable {h1 h2 : Hs} {B B' A : Nat → Nat} {M1 M1' M2 : Mm}
theorem PR.ren {M M' : Mm} {a c a' c' : Nat} {I : Nat → Int32} {n : Nat} (r : PR M a c I n) (ea : a' = a) (ec : c' = c) (ma : zI M' a = zI M a) (mc : zI M' c = zI M c) : PR M' a' c' I n := by
  subst ea ec
  exact r.fr (fun j => by rw [ma]) (fun j => by rw [mc])
theorem DR.ren {M M' : Mm} {β β' t t' d : Nat} {I : Nat → Int32} (r : DR M B β t I d) (ed : aD B' β' t' = aD B β t) (el : ∀ i, i < 3 → aL B' β' t' i = aL B β t i ∧ aT B' β' t' i = aT B β t i ∧ aV B' β' t' i = aV B β t i) (md : zI M' (aD B β t) = zI M (aD B β t)) (ml : ∀ i, i < 3 → zI M' (aL B β t i) = zI M (aL B β t i) ∧ zI M' (aT B β t i) = zI M (aT B β t i) ∧ zI M' (aV B β t i) = zI M (aV B β t i)) : DR M' B' β' t' I d := by
  unfold DR at *
  rw [ed, md]
  obtain ⟨r1, r2, r3, r4, r5, r6, r7⟩ := r
  refine ⟨r1, r2, r3, r4, r5, r6, fun i hi => ?_⟩
  have := r7 i hi
  unfold LR at *
  rw [(el i hi).1, (el i hi).2.1, (el i hi).2.2, (ml i hi).1, (ml i hi).2.1, (ml i hi).2.2]
  exact this
theorem Inv.ren (V : Inv h1 M1 h2 M2 B A False) (hB' : ∀ i j, B' i = B' j → i = j) (e : ∀ i, O1 i → B i ∈ zL h1 → B' i = B i) (m : ∀ b, b ∈ zL h1 → zI M1' b = zI M1 b) : Inv h1 M1' h2 M2 B' A False := by
  obtain ⟨⟨hB, sx, sr, sb, sp, st, s5⟩, S2, W, P, D, T, U, J⟩ := V
  have sx' := sx
  obtain ⟨k0, -, -, -, -, -, -, -, ⟨k1, -, k2, -⟩, ⟨k10, -, k11, -⟩, ⟨k12, -, -, k13, k14, -, -⟩, k15, -⟩ := sx
  have sr' := sr
  obtain ⟨k3, -, -, -, -, -, -, k4, k5, k6, k7, k8, k9, -⟩ := sr
  have sb' := sb
  obtain ⟨k20, -, -, k22, k24, -, -, -, -, kP, kD⟩ := sb
  have o : ∀ i, i < 20 → O1 i := fun i hi => by unfold O1; omega
  have E0 := e 0 (o 0 (by omega)) k0.1
  have E1 := e 1 (o 1 (by omega)) k1.1
  have E2 := e 2 (o 2 (by omega)) k2.1
  have E3 := e 3 (o 3 (by omega)) k3.1
  have E4 := e 4 (o 4 (by omega)) k4.1
  have E5 := e 5 (o 5 (by omega)) k5.1
  have E6 := e 6 (o 6 (by omega)) k6.1
  have E7 := e 7 (o 7 (by omega)) k7.1
  have E8 := e 8 (o 8 (by omega)) k8.1
  have E9 := e 9 (o 9 (by omega)) k9.1
  have E10 := e 10 (o 10 (by omega)) k10.1
  have E11 := e 11 (o 11 (by omega)) k11.1
  have E12 := e 12 (o 12 (by omega)) k12.1
  have E13 := e 13 (o 13 (by omega)) k13.1
  have E14 := e 14 (o 14 (by omega)) k14.1
  have E15 := e 15 (o 15 (by omega)) k15.1
  have EB : aB B' 0 = aB B 0 := e (20 + 0) (by unfold O1; omega) k20.1
  have EPs : aPs B' 0 = aPs B 0 := e (22 + 0) (by unfold O1; omega) k22.1
  have EDs : aDs B' 0 = aDs B 0 := e (24 + 0) (by unfold O1; omega) k24.1
  have EP : ∀ n, n < 12 → aP B' 0 n = aP B 0 n := fun n hn => e (100 + 12 * 0 + n) (by unfold O1; omega) (kP n hn).1.1
  have EC : ∀ n, n < 12 → aC B' 0 n = aC B 0 n := fun n hn => e (200 + 12 * 0 + n) (by unfold O1; omega) (kP n hn).2.2.1.1
  have ED : ∀ n, n < 12 → aD B' 0 n = aD B 0 n := fun n hn => e (300 + 12 * 0 + n) (by unfold O1; omega) (kD n hn).1.1
  have EL : ∀ n, n < 12 → ∀ i, i < 3 → aL B' 0 n i = aL B 0 n i ∧ aT B' 0 n i = aT B 0 n i ∧ aV B' 0 n i = aV B 0 n i := fun n hn i hi => ⟨e (400 + 100 * i + 12 * 0 + n) (by unfold O1; omega) ((kD n hn).2.2 i hi).1.1, e (700 + 100 * i + 12 * 0 + n) (by unfold O1; omega) ((kD n hn).2.2 i hi).2.2.2.1.1, e (1000 + 100 * i + 12 * 0 + n) (by unfold O1; omega) ((kD n hn).2.2 i hi).2.2.2.2.1.1⟩
  have FP : aP B' 2 0 = aP B 2 0 := e (100 + 12 * 2 + 0) (by unfold O1; omega) sp.1.1
  have FC : aC B' 2 0 = aC B 2 0 := e (200 + 12 * 2 + 0) (by unfold O1; omega) sp.2.2.1.1
  have FD : aD B' 2 0 = aD B 2 0 := e (300 + 12 * 2 + 0) (by unfold O1; omega) st.1.1
  have FL : ∀ i, i < 3 → aL B' 2 0 i = aL B 2 0 i ∧ aT B' 2 0 i = aT B 2 0 i ∧ aV B' 2 0 i = aV B 2 0 i := fun i hi => ⟨e (400 + 100 * i + 12 * 2 + 0) (by unfold O1; omega) (st.2.2 i hi).1.1, e (700 + 100 * i + 12 * 2 + 0) (by unfold O1; omega) (st.2.2 i hi).2.2.2.1.1, e (1000 + 100 * i + 12 * 2 + 0) (by unfold O1; omega) (st.2.2 i hi).2.2.2.2.1.1⟩
  have pr : ∀ n, n < 12 → ∀ I k, PR M1 (aP B 0 n) (aC B 0 n) I k → PR M1' (aP B' 0 n) (aC B' 0 n) I k := fun n hn I k r => r.ren (EP n hn) (EC n hn) (m _ (kP n hn).1.1) (m _ (kP n hn).2.2.1.1)
  have pr2 : ∀ I k, PR M1 (aP B 2 0) (aC B 2 0) I k → PR M1' (aP B' 2 0) (aC B' 2 0) I k := fun I k r => r.ren FP FC (m _ sp.1.1) (m _ sp.2.2.1.1)
  have dr : ∀ n, n < 12 → ∀ I k, DR M1 B 0 n I k → DR M1' B' 0 n I k := fun n hn I k r => r.ren (ED n hn) (EL n hn) (m _ (kD n hn).1.1) fun i hi => ⟨m _ ((kD n hn).2.2 i hi).1.1, m _ ((kD n hn).2.2 i hi).2.2.2.1.1, m _ ((kD n hn).2.2 i hi).2.2.2.2.1.1⟩
  have dr2 : ∀ I k, DR M1 B 2 0 I k → DR M1' B' 2 0 I k := fun I k r => r.ren FD FL (m _ st.1.1) fun i hi => ⟨m _ (st.2.2 i hi).1.1, m _ (st.2.2 i hi).2.2.2.1.1, m _ (st.2.2 i hi).2.2.2.2.1.1⟩
  refine ⟨⟨hB', ?_, ?_, ?_, ?_, ?_, ?_⟩, S2, W, fun n hn => pr n hn _ _ (P n hn), fun n hn => dr n hn _ _ (D n hn), ?_, ?_, J.elim Or.inl fun z => z.1.elim⟩
  · unfold ShX
    rw [E0, E1, EB, E3, E10, E12, FP, FD, E2, E11, E13, E14, E15]
    exact sx'
  · show ok h1 (B' 3) 5 ∧ _
    rw [E3, E4, E5, E6, E7, E8, E9]
    exact sr'
  · obtain ⟨y1, y2, y3, y4, y5, y6, y7, y8, y9, y10, y11⟩ := sb'
    refine ⟨by rw [EB]; exact y1, by rw [EB, EPs]; exact y2, by rw [EB, EDs]; exact y3, by rw [EPs]; exact y4, by rw [EDs]; exact y5, by rw [EPs]; exact y6, by rw [EDs]; exact y7, fun n hn => by rw [EPs, EP n hn]; exact y8 n hn, fun n hn => by rw [EDs, ED n hn]; exact y9 n hn, fun n hn => by rw [EP n hn, EC n hn]; exact y10 n hn, fun n hn => ⟨by rw [ED n hn]; exact (y11 n hn).1, fun i hi => by rw [ED n hn, (EL n hn i hi).1]; exact (y11 n hn).2.1 i hi, fun i hi => by rw [(EL n hn i hi).1, (EL n hn i hi).2.1, (EL n hn i hi).2.2]; exact (y11 n hn).2.2 i hi⟩⟩
  · rw [FP, FC]; exact sp
  · exact ⟨by rw [FD]; exact st.1, fun i hi => by rw [FD, (FL i hi).1]; exact st.2.1 i hi, fun i hi => by rw [(FL i hi).1, (FL i hi).2.1, (FL i hi).2.2]; exact st.2.2 i hi⟩
  · rcases s5 with ⟨z1, z2⟩ | ⟨z, -⟩
    · exact Or.inl ⟨z1, by rw [E0]; exact z2⟩
    · exact z.elim
  · obtain ⟨u, hu, t1, t2, t3⟩ := T
    exact ⟨u, hu, by rw [E1, m _ k1.1]; exact t1, t2, fun i hi => by rw [E2, m _ k2.1]; exact t3 i hi⟩
  · unfold UN
    rw [E0, m _ k0.1]
    rcases U with z | ⟨n, z1, z2, z3, z4, z5, z6, z7, z8⟩ | ⟨n, z1, z2, z3, z4, z5, z6, z7, z8⟩
    · exact Or.inl z
    · exact Or.inr (Or.inl ⟨n, z1, z2, z3, z4, z5, pr2 _ _ z6, fun k a b => pr k a _ _ (z7 k a b), fun k a => dr k a _ _ (z8 k a)⟩)
    · exact Or.inr (Or.inr ⟨n, z1, z2, z3, z4, z5, fun k a => pr k a _ _ (z6 k a), dr2 _ _ z7, fun k a b => dr k a _ _ (z8 k a b)⟩)
end R
