/-! NEW CELLS: a Board -/
def BdN (u : Hs × Mm) (a0 p : Nat) : Prop := ok u.1 a0 0 ∧ zR u.1 a0 0 = some (at_ u.1 p) ∧ zR u.1 a0 1 = some (at_ u.1 (p + 1)) ∧ ok u.1 (at_ u.1 p) 15 ∧ ok u.1 (at_ u.1 (p + 1)) 14 ∧ zN u.1 (at_ u.1 p) = 12 ∧ zN u.1 (at_ u.1 (p + 1)) = 12 ∧
  (∀ n, n < 12 → zR u.1 (at_ u.1 p) n = some (at_ u.1 (p + 2 + 2 * n)) ∧ PlN u (p + 2 + 2 * n)) ∧ ∀ n, n < 12 → zR u.1 (at_ u.1 (p + 1)) n = some (at_ u.1 (p + 26 + 10 * n)) ∧ DtN u (p + 26 + 10 * n)
theorem new_board {h : Hs} {M : Mm} {u : Hs × Mm} {a0 : Nat} (hn : n_X0_init h a0 M u) (g : ok h a0 0) (nd : (zL h).Nodup) : (∃ L, zL u.1 = zL h ++ L ∧ L.length = 146) ∧ (zL u.1).Nodup ∧ BdN u a0 (zL h).length := by
  obtain ⟨q1, hq1, h2, rfl, M3, rfl, h4, rfl, q5, hq5, h6, rfl, M7, rfl, h8, rfl, v, hv, hu⟩ := hn
  have n1 : a0 ≠ q1 := fun z => hq1 (z ▸ g.1)
  have g4 : ok (setR (nh h q1 15 12) a0 0 (some q1)) a0 0 := ok_setR (ok_nh hq1 g)
  have k4 : ok (setR (nh h q1 15 12) a0 0 (some q1)) q1 15 := ok_setR nh_ok
  have n5 : a0 ≠ q5 := fun z => hq5 (z ▸ g4.1)
  have n15 : q1 ≠ q5 := fun z => hq5 (z ▸ k4.1)
  have nd8 : (zL (setR (nh (setR (nh h q1 15 12) a0 0 (some q1)) q5 14 12) a0 1 (some q5))).Nodup := by
    rw [setR_L, nh_L]
    exact nd_push (by rw [setR_L, nh_L]; exact nd_push nd hq1) hq5
  have e8 : zL (setR (nh (setR (nh h q1 15 12) a0 0 (some q1)) q5 14 12) a0 1 (some q5)) = zL h ++ [q1, q5] := by rw [setR_L, nh_L, setR_L, nh_L, List.append_assoc]; rfl
  have g8 : ok (setR (nh (setR (nh h q1 15 12) a0 0 (some q1)) q5 14 12) a0 1 (some q5)) a0 0 := ok_setR (ok_nh hq5 g4)
  have k8 : ok (setR (nh (setR (nh h q1 15 12) a0 0 (some q1)) q5 14 12) a0 1 (some q5)) q1 15 := ok_setR (ok_nh hq5 k4)
  have m8 : ok (setR (nh (setR (nh h q1 15 12) a0 0 (some q1)) q5 14 12) a0 1 (some q5)) q5 14 := ok_setR nh_ok
  have N1 : zN (setR (nh (setR (nh h q1 15 12) a0 0 (some q1)) q5 14 12) a0 1 (some q5)) q1 = 12 := by
    show zN (nh (setR (nh h q1 15 12) a0 0 (some q1)) q5 14 12) q1 = 12
    rw [nh_Nn n15]
    exact nh_N (k := 15)
  have N5 : zN (setR (nh (setR (nh h q1 15 12) a0 0 (some q1)) q5 14 12) a0 1 (some q5)) q5 = 12 := nh_N (k := 14)
  have R0 : zR (setR (nh (setR (nh h q1 15 12) a0 0 (some q1)) q5 14 12) a0 1 (some q5)) a0 0 = some q1 := by rw [zR_at]; simp [va_up, nh_Rn n5, zR_at]
  have R1 : zR (setR (nh (setR (nh h q1 15 12) a0 0 (some q1)) q5 14 12) a0 1 (some q5)) a0 1 = some q5 := by rw [zR_at]; simp [va_up]
  generalize setR (nh (setR (nh h q1 15 12) a0 0 (some q1)) q5 14 12) a0 1 (some q5) = h8 at hv nd8 e8 g8 k8 m8 N1 N5 R0 R1
  obtain ⟨⟨L1, eL1, lL1⟩, ndv, kv, nv, hP⟩ := new_places (u0 := (h8, nm (nm M q1) q5)) k8 nd8 12 v hv
  have eL1 : zL v.1 = zL h8 ++ L1 := eL1
  have nv : zN v.1 q1 = zN h8 q1 := nv
  have hP : ∀ j, j < 12 → zR v.1 q1 j = some (at_ v.1 ((zL h8).length + 2 * j)) ∧ PlN v ((zL h8).length + 2 * j) := hP
  have ne01 : a0 ≠ q1 := n1
  have fa : Fr a0 h8 (nm (nm M q1) q5) v := fr_bp (u0 := (h8, nm (nm M q1) q5)) g8.1 n1 12 v hv
  have f5 : Fr q5 h8 (nm (nm M q1) q5) v := fr_bp (u0 := (h8, nm (nm M q1) q5)) m8.1 n15.symm 12 v hv
  obtain ⟨⟨L2, eL2, lL2⟩, ndu, ku, nu, hD⟩ := new_details (f5.ok m8) ndv 12 u hu
  have len8 : (zL h8).length = (zL h).length + 2 := by rw [e8, List.length_append]; rfl
  have lenv : (zL v.1).length = (zL h).length + 26 := by rw [eL1, List.length_append, len8, lL1]
  have K : ∀ b, b ∈ zL v.1 → b ≠ q5 → Fr b v.1 v.2 u := fun b hb hne => fr_bd hb hne 12 u hu
  have Kk : ∀ b k, ok v.1 b k → k ≠ 14 → Fr b v.1 v.2 u := fun b k hb hk => K b hb.1 fun z => by
    have := (f5.ok m8).2
    rw [← z, hb.2] at this
    exact hk this
  have eU : zL u.1 = zL h ++ ([q1, q5] ++ L1 ++ L2) := by rw [eL2, eL1, e8]; simp [List.append_assoc]
  have a0' : at_ u.1 (zL h).length = q1 := at_new (p := 0) eU
  have a1' : at_ u.1 ((zL h).length + 1) = q5 := at_new (p := 1) eU
  have fu := Kk _ _ (fa.ok g8) (by decide)
  have f1 := Kk _ _ kv (by decide)
  refine ⟨⟨_, eU, by simp [lL1, lL2]⟩, ndu, ?_⟩
  unfold BdN
  rw [a0', a1']
  refine ⟨fu.ok (fa.ok g8), ?_, ?_, f1.ok kv, ku, ?_, ?_, fun n hn => ⟨?_, ?_⟩, fun n hn => ?_⟩
  · rw [fu.2.2.2.1, fa.2.2.2.1]; exact R0
  · rw [fu.2.2.2.1, fa.2.2.2.1]; exact R1
  · rw [f1.2.2.1, nv]; exact N1
  · rw [nu, f5.2.2.1]; exact N5
  · rw [f1.2.2.2.1, (hP n hn).1, len8, at_app eL2 (by omega)]
  · have := (hP n hn).2
    rw [len8] at this
    exact this.keep eL2 (by omega) fun b k hb hk => Kk b k hb (by omega)
  · have := hD n hn
    rw [lenv] at this
    exact this
/-- the code of the p-th cell of a board -/
def cd (β p : Nat) : Nat :=
  if p = 0 then 22 + β else if p = 1 then 24 + β else if p < 26 then (if p % 2 = 0 then 100 + 12 * β + (p - 2) / 2 else 200 + 12 * β + (p - 2) / 2)
  else if (p - 26) % 10 = 0 then 300 + 12 * β + (p - 26) / 10
  else if ((p - 26) % 10) % 3 = 1 then 400 + 100 * (((p - 26) % 10) / 3) + 12 * β + (p - 26) / 10
  else if ((p - 26) % 10) % 3 = 2 then 700 + 100 * (((p - 26) % 10) / 3) + 12 * β + (p - 26) / 10
  else 1000 + 100 * (((p - 26) % 10) / 3 - 1) + 12 * β + (p - 26) / 10
/-- and back -/
def bk (β i : Nat) : Nat :=
  if i = 22 + β then 0 else if i = 24 + β then 1 else if i < 100 then 146
  else if i < 200 then 2 + 2 * (i - 100 - 12 * β) else if i < 300 then 3 + 2 * (i - 200 - 12 * β) else if i < 400 then 26 + 10 * (i - 300 - 12 * β)
  else if i < 700 then 26 + 10 * (i % 100 - 12 * β) + 1 + 3 * (i / 100 - 4)
  else if i < 1000 then 26 + 10 * (i % 100 - 12 * β) + 2 + 3 * (i / 100 - 7)
  else 26 + 10 * (i % 100 - 12 * β) + 3 + 3 * (i / 100 - 10)
theorem bk_cd1 : ∀ p, p < 146 → bk 1 (cd 1 p) = p := by decide +kernel
theorem bk_cd0 : ∀ p, p < 146 → bk 0 (cd 0 p) = p := by decide +kernel
theorem cd1_P : ∀ n, n < 12 → cd 1 (2 + 2 * n) = 100 + 12 * 1 + n ∧ cd 1 (3 + 2 * n) = 200 + 12 * 1 + n ∧ cd 1 (26 + 10 * n) = 300 + 12 * 1 + n := by decide +kernel
theorem cd0_P : ∀ n, n < 12 → cd 0 (2 + 2 * n) = 100 + 12 * 0 + n ∧ cd 0 (3 + 2 * n) = 200 + 12 * 0 + n ∧ cd 0 (26 + 10 * n) = 300 + 12 * 0 + n := by decide +kernel
theorem cd1_L : ∀ n, n < 12 → ∀ i, i < 3 → cd 1 (26 + 10 * n + 1 + 3 * i) = 400 + 100 * i + 12 * 1 + n ∧ cd 1 (26 + 10 * n + 2 + 3 * i) = 700 + 100 * i + 12 * 1 + n ∧ cd 1 (26 + 10 * n + 3 + 3 * i) = 1000 + 100 * i + 12 * 1 + n := by decide +kernel
theorem cd0_L : ∀ n, n < 12 → ∀ i, i < 3 → cd 0 (26 + 10 * n + 1 + 3 * i) = 400 + 100 * i + 12 * 0 + n ∧ cd 0 (26 + 10 * n + 2 + 3 * i) = 700 + 100 * i + 12 * 0 + n ∧ cd 0 (26 + 10 * n + 3 + 3 * i) = 1000 + 100 * i + 12 * 0 + n := by decide +kernel
/-- the codes of a board stand for its cells -/
theorem BdN.BdA {u : Hs × Mm} {B : Nat → Nat} {β p : Nat} (s : BdN u (aB B β) p) (hB : ∀ k, k < 146 → B (cd β k) = at_ u.1 (p + k)) (h0 : cd β 0 = 22 + β ∧ cd β 1 = 24 + β)
    (hP : ∀ n, n < 12 → cd β (2 + 2 * n) = 100 + 12 * β + n ∧ cd β (3 + 2 * n) = 200 + 12 * β + n ∧ cd β (26 + 10 * n) = 300 + 12 * β + n)
    (hL : ∀ n, n < 12 → ∀ i, i < 3 → cd β (26 + 10 * n + 1 + 3 * i) = 400 + 100 * i + 12 * β + n ∧ cd β (26 + 10 * n + 2 + 3 * i) = 700 + 100 * i + 12 * β + n ∧ cd β (26 + 10 * n + 3 + 3 * i) = 1000 + 100 * i + 12 * β + n) : BdA u.1 B β ∧ (∀ n, n < 12 → zI u.2 (aP B β n) 1 = -1 ∧ zI u.2 (aP B β n) 4 = 0) ∧ ∀ n, n < 12 → (zI u.2 (aD B β n) 3 = -1 ∧ zI u.2 (aD B β n) 7 = -1 ∧ ∀ j, j ≠ 3 → j ≠ 7 → zI u.2 (aD B β n) j = 0) ∧ ∀ i, i < 3 → zI u.2 (aL B β n i) 2 = 0 := by
  obtain ⟨s0, s1, s2, s3, s4, s5, s6, s7, s8⟩ := s
  have e0 : aPs B β = at_ u.1 p := by unfold aPs; rw [← h0.1]; exact hB 0 (by omega)
  have e1 : aDs B β = at_ u.1 (p + 1) := by unfold aDs; rw [← h0.2]; exact hB 1 (by omega)
  have eP : ∀ n, n < 12 → aP B β n = at_ u.1 (p + 2 + 2 * n) := fun n hn => by unfold aP; rw [← (hP n hn).1, hB _ (by omega)]; congr 1; omega
  have eC : ∀ n, n < 12 → aC B β n = at_ u.1 (p + 2 + 2 * n + 1) := fun n hn => by unfold aC; rw [← (hP n hn).2.1, hB _ (by omega)]; congr 1; omega
  have eD : ∀ n, n < 12 → aD B β n = at_ u.1 (p + 26 + 10 * n) := fun n hn => by unfold aD; rw [← (hP n hn).2.2, hB _ (by omega)]; congr 1; omega
  have eL : ∀ n i, n < 12 → i < 3 → aL B β n i = at_ u.1 (p + 26 + 10 * n + (1 + 3 * i)) := fun n i hn hi => by unfold aL; rw [← (hL n hn i hi).1, hB _ (by omega)]; congr 1; omega
  have eT : ∀ n i, n < 12 → i < 3 → aT B β n i = at_ u.1 (p + 26 + 10 * n + (2 + 3 * i)) := fun n i hn hi => by unfold aT; rw [← (hL n hn i hi).2.1, hB _ (by omega)]; congr 1; omega
  have eV : ∀ n i, n < 12 → i < 3 → aV B β n i = at_ u.1 (p + 26 + 10 * n + (3 + 3 * i)) := fun n i hn hi => by unfold aV; rw [← (hL n hn i hi).2.2, hB _ (by omega)]; congr 1; omega
  refine ⟨⟨s0, by rw [e0]; exact s1, by rw [e1]; exact s2, by rw [e0]; exact s3, by rw [e1]; exact s4, by rw [e0]; exact s5, by rw [e1]; exact s6, fun n hn => by rw [e0, eP n hn]; exact (s7 n hn).1, fun n hn => by rw [e1, eD n hn]; exact (s8 n hn).1, fun n hn => by rw [eP n hn, eC n hn]; exact (s7 n hn).2.1, fun n hn => ?_⟩, fun n hn => by rw [eP n hn]; exact (s7 n hn).2.2, fun n hn => ⟨by rw [eD n hn]; exact (s8 n hn).2.2.2.2.1, fun i hi => ?_⟩⟩
  · obtain ⟨-, y0, ⟨y1, y2, y3⟩, ⟨y4, y5, y6⟩, -⟩ := s8 n hn
    refine ⟨by rw [eD n hn]; exact y0, fun i hi => ?_, fun i hi => ?_⟩
    · rw [eD n hn, eL n i hn hi]
      rcases (show i = 0 ∨ i = 1 ∨ i = 2 by omega) with rfl | rfl | rfl
      · exact y1
      · exact y2
      · exact y3
    · rw [eL n i hn hi, eT n i hn hi, eV n i hn hi]
      rcases (show i = 0 ∨ i = 1 ∨ i = 2 by omega) with rfl | rfl | rfl
      · exact y4
      · exact y5
      · exact y6
  · obtain ⟨-, -, -, -, -, y7, y8, y9⟩ := s8 n hn
    rw [eL n i hn hi]
    rcases (show i = 0 ∨ i = 1 ∨ i = 2 by omega) with rfl | rfl | rfl
    · exact y7
    · exact y8
    · exact y9
