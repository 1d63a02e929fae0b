/-! THE START: the invariant -/
def nwO (i : Nat) : Bool := decide (i ≤ 15) || i == 20 || i == 22 || i == 24 || (decide (100 ≤ i) && decide (i < 1300) && (decide (i % 100 < 12) || i % 100 == 24))
def psO (i : Nat) : Nat :=
  if i < 3 then i else if i < 10 then i + 147 else if i < 15 then i + 147 else if i = 15 then 174 else if i = 20 then 3
  else if i = 124 then 162 else if i = 224 then 163 else if i = 324 then 164
  else if i % 100 = 24 ∧ 400 ≤ i then (if i < 700 then 165 + 3 * (i / 100 - 4) else if i < 1000 then 166 + 3 * (i / 100 - 7) else 167 + 3 * (i / 100 - 10))
  else 4 + bk 0 i
def scO (p : Nat) : Nat :=
  if p < 3 then p else if p = 3 then 20 else if p < 150 then cd 0 (p - 4) else if p < 162 then p - 147 else if p = 162 then 124 else if p = 163 then 224 else if p = 164 then 324
  else if p = 174 then 15 else 400 + 300 * ((p - 165) % 3) + 100 * ((p - 165) / 3) + 24
theorem ps_scO : ∀ i, i < 1300 → nwO i = true → psO i < 175 ∧ scO (psO i) = i := by decide +kernel
theorem cd_nwO : ∀ k, k < 146 → nwO (cd 0 k) = true ∧ psO (cd 0 k) = 4 + k := by decide +kernel
theorem nwO_lt {i : Nat} (h : nwO i = true) : i < 1300 := by
  unfold nwO at h
  simp only [Bool.or_eq_true, Bool.and_eq_true, beq_iff_eq, decide_eq_true_eq] at h
  omega
def stB (v : Hs) (big i : Nat) : Nat := if nwO i = true then at_ v (psO i) else big + i
theorem stB_inj {v : Hs} {big : Nat} (nd : (zL v).Nodup) (l : (zL v).length = 175) (hb : ∀ x ∈ zL v, x < big) : ∀ i j, stB v big i = stB v big j → i = j := by
  intro i j e
  unfold stB at e
  by_cases hi : nwO i = true <;> by_cases hj : nwO j = true
  · rw [if_pos hi, if_pos hj] at e
    have a := ps_scO i (nwO_lt hi) hi
    have b := ps_scO j (nwO_lt hj) hj
    have := at_inj nd (by omega) (by omega) e
    rw [← a.2, ← b.2, this]
  · rw [if_pos hi, if_neg hj] at e
    have a := ps_scO i (nwO_lt hi) hi
    have := hb _ (at_mem (h := v) (p := psO i) (by omega))
    omega
  · rw [if_neg hi, if_pos hj] at e
    have b := ps_scO j (nwO_lt hj) hj
    have := hb _ (at_mem (h := v) (p := psO j) (by omega))
    omega
  · rw [if_neg hi, if_neg hj] at e
    omega
section S
variable {h2 : Hs} {M2 : Mm} {u : Hs × Mm} {a0 q : Nat} {A : Nat → Nat}
set_option maxHeartbeats 4000000 in
theorem start_inv (O : OfN u a0 1) (l : (zL u.1).length = 174) (nd : (zL u.1).Nodup) (a : at_ u.1 0 = a0) (hq : q ∉ zL u.1) (S2 : Sh2 h2 A) (w : WF0 (zI M2 (A 1))) (z : ∀ j, zI M2 (A 0) j = 0) : ∃ B, B 0 = a0 ∧ B 15 = q ∧ Inv (nh u.1 q 12 1) (nm u.2 q) h2 M2 B A False := by
  obtain ⟨v, ev⟩ : ∃ v : Hs × Mm, v = (nh u.1 q 12 1, nm u.2 q) := ⟨_, rfl⟩
  have eV : zL v.1 = zL u.1 ++ [q] := by rw [ev]; exact nh_L
  have F : ∀ b, b ∈ zL u.1 → Fr b u.1 u.2 v := fun b hb => by
    have n : b ≠ q := fun y => hq (y ▸ hb)
    rw [ev]
    exact (Fr.refl hb).nh n
  have K : K8 u v := ⟨⟨_, eV⟩, fun b k hb _ => F b hb.1⟩
  have l' : (zL v.1).length = 175 := by rw [eV, List.length_append, l]; rfl
  have ndv : (zL v.1).Nodup := by rw [eV]; exact nd_push nd hq
  have vq : at_ v.1 174 = q := by
    have := at_new (p := 0) eV
    rw [l] at this
    exact this
  have gq : ok v.1 q 12 ∧ zN v.1 q = 1 := by rw [ev]; exact ⟨nh_ok, nh_N (k := 12)⟩
  have v0 : at_ v.1 0 = a0 := by rw [K.at (by omega), a]
  obtain ⟨o1, ⟨r0, r1, r2, r3, r4, r5, r6, r7⟩, ⟨i8, i9⟩, p1, p2, p3, p4, p5, p6, p7⟩ := O
  have f0 := F _ o1.1
  rw [← f0.2.2.2.1] at r0 r1 r2 r3 r4 r5 r6 r7
  rw [← f0.2.2.2.2.1] at i8 i9
  have o1 := f0.ok o1
  have at' : ∀ p, p < 174 → at_ v.1 p = at_ u.1 p := fun p hp => K.at (by omega)
  rw [← at' 1 (by omega)] at r0
  rw [← at' (1 + 2) (by omega)] at r1 p2
  rw [← at' (1 + 149) (by omega)] at r2
  rw [← at' (1 + 156) (by omega)] at r3
  rw [← at' (1 + 158) (by omega)] at r4
  rw [← at' (1 + 161) (by omega)] at r6
  rw [← at' (1 + 163) (by omega)] at r7
  have p1 := p1.k8 K (by decide) (by decide) (by rw [l]; simp)
  have p2 := p2.k8 K (by omega)
  have p3 := p3.k8 K (by decide) (by decide) (by rw [l]; simp)
  have p4 := p4.k8 K (by decide) (by decide) (by rw [l]; simp)
  have p5 := p5.k8 K (by decide) (by decide) (by rw [l]; simp)
  have p6 := p6.k8 K (by omega)
  have p7 := p7.k8 K (by omega)
  obtain ⟨big, hbig⟩ := bound_of (zL v.1)
  obtain ⟨B, hB⟩ : ∃ B, B = stB v.1 big := ⟨_, rfl⟩
  have inj : ∀ i j, B i = B j → i = j := by rw [hB]; exact stB_inj ndv l' hbig
  have e : ∀ i p, nwO i = true → psO i = p → B i = at_ v.1 p := fun i p hi hp => by
    rw [hB]; unfold stB
    rw [if_pos hi, hp]
  have eB := e 20 3 (by decide) (by decide)
  have cds : ∀ k, k < 146 → B (cd 0 k) = at_ v.1 (4 + k) := fun k hk => e _ _ (cd_nwO k hk).1 (cd_nwO k hk).2
  obtain ⟨bA, bP, bD⟩ := BdN.BdA (β := 0) (B := B) (u := v) (p := 4) (by
    show BdN v (B 20) 4
    rw [eB]; exact p2) cds (by decide) cd0_P cd0_L
  have e0 := e 0 0 (by decide) (by decide)
  have e1 := e 1 1 (by decide) (by decide)
  have e2 := e 2 2 (by decide) (by decide)
  have e3 := e 3 150 (by decide) (by decide)
  have e4 := e 4 151 (by decide) (by decide)
  have e5 := e 5 152 (by decide) (by decide)
  have e6 := e 6 153 (by decide) (by decide)
  have e7 := e 7 154 (by decide) (by decide)
  have e8 := e 8 155 (by decide) (by decide)
  have e9 := e 9 156 (by decide) (by decide)
  have e10 := e 10 157 (by decide) (by decide)
  have e11 := e 11 158 (by decide) (by decide)
  have e12 := e 12 159 (by decide) (by decide)
  have e13 := e 13 160 (by decide) (by decide)
  have e14 := e 14 161 (by decide) (by decide)
  have e15 := e 15 174 (by decide) (by decide)
  have eP : aP B 2 0 = at_ v.1 162 := e 124 162 (by decide) (by decide)
  have eC : aC B 2 0 = at_ v.1 163 := e 224 163 (by decide) (by decide)
  have eD : aD B 2 0 = at_ v.1 164 := e 324 164 (by decide) (by decide)
  have eL0 : aL B 2 0 0 = at_ v.1 165 := e 424 165 (by decide) (by decide)
  have eT0 : aT B 2 0 0 = at_ v.1 166 := e 724 166 (by decide) (by decide)
  have eV0 : aV B 2 0 0 = at_ v.1 167 := e 1024 167 (by decide) (by decide)
  have eL1 : aL B 2 0 1 = at_ v.1 168 := e 524 168 (by decide) (by decide)
  have eT1 : aT B 2 0 1 = at_ v.1 169 := e 824 169 (by decide) (by decide)
  have eV1 : aV B 2 0 1 = at_ v.1 170 := e 1124 170 (by decide) (by decide)
  have eL2 : aL B 2 0 2 = at_ v.1 171 := e 624 171 (by decide) (by decide)
  have eT2 : aT B 2 0 2 = at_ v.1 172 := e 924 172 (by decide) (by decide)
  have eV2 : aV B 2 0 2 = at_ v.1 173 := e 1224 173 (by decide) (by decide)
  rw [v0] at e0
  rw [vq] at e15
  obtain ⟨t1, t2, t3⟩ := p1
  have t30 := t3 0 _ rfl
  obtain ⟨s1, -, s3⟩ := p3
  have s30 := s3 0 _ rfl
  have s31 := s3 1 _ rfl
  have s32 := s3 2 _ rfl
  have s33 := s3 3 _ rfl
  have s34 := s3 4 _ rfl
  have s35 := s3 5 _ rfl
  obtain ⟨x1, -, x3⟩ := p4
  have x30 := x3 0 _ rfl
  obtain ⟨c1, -, c3⟩ := p5
  have c30 := c3 0 _ rfl
  have c31 := c3 1 _ rfl
  obtain ⟨d1, ⟨dr0, dr1, dr2⟩, ⟨dl0, dl1, dl2⟩, -⟩ := p7
  have hv1 : nh u.1 q 12 1 = v.1 := by rw [ev]
  have hv2 : nm u.2 q = v.2 := by rw [ev]
  rw [hv1, hv2]
  refine ⟨B, e0, e15, ⟨inj, ?_, ?_, bA, ?_, ?_, Or.inl ⟨id, by rw [e0]; exact r5⟩⟩, S2, w.WF, ?_, ?_, ⟨0, by omega, ?_, z 7, fun i hi => by omega⟩, Or.inl ⟨by rw [e0]; exact i8, by rw [e0]; exact i9, z 4⟩, Or.inl ⟨id, z 5⟩⟩
  · unfold ShX
    rw [e0, e15, e1, e2, e3, e10, e11, e12, e13, e14, eP, eD, show aB B 0 = at_ v.1 3 from eB]
    exact ⟨o1, r0, r1, r2, r3, r4, r6, r7, ⟨t1, t30.1, t30.2.1, t30.2.2⟩, ⟨x1, x30.1, x30.2.1, x30.2.2⟩, ⟨c1, c30.1, c31.1, c30.2.1, c31.2.1, c30.2.2, c31.2.2⟩, gq⟩
  · show ok v.1 (B 3) 5 ∧ _
    rw [e3, e4, e5, e6, e7, e8, e9]
    exact ⟨s1, s30.1, s31.1, s32.1, s33.1, s34.1, s35.1, s30.2.1, s31.2.1, s32.2.1, s33.2.1, s34.2.1, s35.2.1, s30.2.2, s31.2.2, s32.2.2, s33.2.2, s34.2.2, s35.2.2⟩
  · rw [eP, eC]; exact p6.1
  · refine ⟨by rw [eD]; exact d1, fun i hi => ?_, fun i hi => ?_⟩
    · rcases (show i = 0 ∨ i = 1 ∨ i = 2 by omega) with rfl | rfl | rfl
      · rw [eD, eL0]; exact dr0
      · rw [eD, eL1]; exact dr1
      · rw [eD, eL2]; exact dr2
    · rcases (show i = 0 ∨ i = 1 ∨ i = 2 by omega) with rfl | rfl | rfl
      · rw [eL0, eT0, eV0]; exact dl0
      · rw [eL1, eT1, eV1]; exact dl1
      · rw [eL2, eT2, eV2]; exact dl2
  · intro n hn
    have k0 := (w.1 n hn).1
    have k3 : zI M2 (A 1) (404 * n + 3) = 0 := w.2 _ fun m hm => by omega
    unfold PR
    rw [(bP n hn).1, (bP n hn).2, k0, k3]
    refine ⟨rfl, fun y => absurd y.1 (by rw [k0]; decide), rfl, fun k hk => absurd hk (by rw [show (0 : Int32).toNatClampNeg = 0 by decide]; omega)⟩
  · intro n hn
    have k0 := (w.1 n hn).2
    have kk : ∀ j, j < 40 → j ≠ 0 → j ≠ 26 → zI M2 (A 1) (4848 + 40 * n + j) = 0 := fun j a b c => w.2 _ fun m hm => by omega
    obtain ⟨⟨y3, y7, yy⟩, yl⟩ := bD n hn
    unfold DR
    rw [k0.1, k0.2, kk 1 (by omega) (by omega) (by omega), kk 24 (by omega) (by omega) (by omega), kk 25 (by omega) (by omega) (by omega), kk 27 (by omega) (by omega) (by omega), y3, y7, yy 4 (by omega) (by omega), yy 5 (by omega) (by omega), yy 6 (by omega) (by omega), yy 8 (by omega) (by omega)]
    refine ⟨rfl, rfl, rfl, rfl, rfl, rfl, fun i hi => ?_⟩
    have ho : zI M2 (A 1) (4848 + 40 * n + oft i) = 0 := by
      rcases (show i = 0 ∨ i = 1 ∨ i = 2 by omega) with rfl | rfl | rfl
      · exact kk 2 (by omega) (by omega) (by omega)
      · exact kk 15 (by omega) (by omega) (by omega)
      · exact kk 28 (by omega) (by omega) (by omega)
    unfold LR
    rw [ho]
    exact ⟨yl i hi, fun k hk => absurd hk (by rw [show (0 : Int32).toNatClampNeg = 0 by decide]; omega)⟩
  · rw [e1, t2]; rfl
end S
