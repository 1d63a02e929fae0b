/-! THE START: the office made -/
def OfN (v : Hs × Mm) (a0 p : Nat) : Prop :=
  ok v.1 a0 8 ∧ (zR v.1 a0 0 = some (at_ v.1 p) ∧ zR v.1 a0 1 = some (at_ v.1 (p + 2)) ∧ zR v.1 a0 2 = some (at_ v.1 (p + 149)) ∧ zR v.1 a0 3 = some (at_ v.1 (p + 156)) ∧ zR v.1 a0 4 = some (at_ v.1 (p + 158)) ∧ zR v.1 a0 5 = none ∧ zR v.1 a0 6 = some (at_ v.1 (p + 161)) ∧ zR v.1 a0 7 = some (at_ v.1 (p + 163))) ∧
  (zI v.2 a0 8 = -1 ∧ zI v.2 a0 9 = -1) ∧ ArN v p 6 [(0, 10, 400)] ∧ BdN v (at_ v.1 (p + 2)) (p + 3) ∧ ArN v (p + 149) 5 [(0, 11, 400), (1, 11, 400), (2, 11, 400), (3, 11, 200), (4, 11, 200), (5, 11, 200)] ∧ ArN v (p + 156) 7 [(0, 12, 7)] ∧ ArN v (p + 158) 1 [(0, 11, 256), (1, 11, 256)] ∧ PlN v (p + 161) ∧ DtN v (p + 163)
section O
variable {h : Hs} {M : Mm} {u : Hs × Mm} {a0 : Nat}
set_option maxHeartbeats 4000000 in
theorem office_N (hn : n_X8_init h a0 M u) (g : ok h a0 8) (nd : (zL h).Nodup) (n0 : zR h a0 5 = none) : (∃ L, zL u.1 = zL h ++ L ∧ L.length = 173) ∧ (zL u.1).Nodup ∧ OfN u a0 (zL h).length := by
  obtain ⟨q1, c1, h2, eh2, M3, eM3, u4, hu4, h5, eh5, q6, c6, h7, eh7, M8, eM8, u9, hu9, h10, eh10, q11, c11, h12, eh12, M13, eM13, u14, hu14, h15, eh15, q16, c16, h17, eh17, M18, eM18, u19, hu19, h20, eh20, q21, c21, h22, eh22, M23, eM23, u24, hu24, h25, eh25, q26, c26, h27, eh27, M28, eM28, u29, hu29, h30, eh30, q31, c31, h32, eh32, M33, eM33, u34, hu34, h35, eh35, M36, eM36, M37, eM37, rfl⟩ := hn
  obtain ⟨P, hP⟩ : ∃ P, P = (zL h).length := ⟨_, rfl⟩
  -- tape
  rw [eh2, eM3] at hu4
  have s1 := new_tape hu4 nh_ok (by rw [nh_L]; exact nd_push nd c1)
  obtain ⟨L1, e1, l1⟩ := s1.1
  obtain ⟨z1, d1, g1, r1, -, j1, t1⟩ := blk8 (M := M) (j := 0) g c1 e1 (fun b hb ne => fr_X6_init hu4 hb ne) s1.2.1
  rw [← eh5] at z1 d1 g1 r1 j1 t1
  have w1 : zL u4.1 = zL h ++ (q1 :: L1) := by rw [e1, nh_L, List.append_assoc]; rfl
  have n1 : (zL h5).length = P + 2 := by rw [z1, List.length_append, hP]; simp [l1]
  have p1 := (ArN.of s1 nm_I w1).k8 j1 (by decide) (by decide) (by rw [w1, List.length_append]; simp [l1])
  -- board
  rw [eh7, eM8] at hu9
  obtain ⟨⟨L2, e2, l2⟩, s2, b2⟩ := new_board hu9 nh_ok (by rw [nh_L]; exact nd_push d1 c6)
  obtain ⟨z2, d2, g2, r2, k2, j2, t2⟩ := blk8 (M := u4.2) (j := 1) g1 c6 e2 (fun b hb ne => fr_X0_init hu9 hb ne) s2
  rw [← eh10] at z2 d2 g2 r2 k2 j2 t2
  have w2 : zL u9.1 = zL h5 ++ (q6 :: L2) := by rw [e2, nh_L, List.append_assoc]; rfl
  have n2 : (zL h10).length = P + 149 := by rw [z2, List.length_append, n1]; simp [l2]
  rw [show (zL (nh h5 q6 0 0)).length = P + 3 by rw [nh_L, List.length_append, n1]; rfl] at b2
  have p2 := b2.k8 j2 (by rw [w2, List.length_append, n1]; simp [l2])
  rw [n1] at t2
  -- rows
  rw [eh12, eM13] at hu14
  have s3 := new_rows hu14 nh_ok (by rw [nh_L]; exact nd_push d2 c11)
  obtain ⟨L3, e3, l3⟩ := s3.1
  obtain ⟨z3, d3, g3, r3, k3, j3, t3⟩ := blk8 (M := u9.2) (j := 2) g2 c11 e3 (fun b hb ne => fr_X5_init hu14 hb ne) s3.2.1
  rw [← eh15] at z3 d3 g3 r3 k3 j3 t3
  have w3 : zL u14.1 = zL h10 ++ (q11 :: L3) := by rw [e3, nh_L, List.append_assoc]; rfl
  have n3 : (zL h15).length = P + 156 := by rw [z3, List.length_append, n2]; simp [l3]
  have p3 := (ArN.of s3 nm_I w3).k8 j3 (by decide) (by decide) (by rw [w3, List.length_append]; simp [l3])
  rw [n2] at t3 p3
  -- wear
  rw [eh17, eM18] at hu19
  have s4 := new_wear hu19 nh_ok (by rw [nh_L]; exact nd_push d3 c16)
  obtain ⟨L4, e4, l4⟩ := s4.1
  obtain ⟨z4, d4, g4, r4, k4, j4, t4⟩ := blk8 (M := u14.2) (j := 3) g3 c16 e4 (fun b hb ne => fr_X7_init hu19 hb ne) s4.2.1
  rw [← eh20] at z4 d4 g4 r4 k4 j4 t4
  have w4 : zL u19.1 = zL h15 ++ (q16 :: L4) := by rw [e4, nh_L, List.append_assoc]; rfl
  have n4 : (zL h20).length = P + 158 := by rw [z4, List.length_append, n3]; simp [l4]
  have p4 := (ArN.of s4 nm_I w4).k8 j4 (by decide) (by decide) (by rw [w4, List.length_append]; simp [l4])
  rw [n3] at t4 p4
  -- check
  rw [eh22, eM23] at hu24
  have s5 := new_check hu24 nh_ok (by rw [nh_L]; exact nd_push d4 c21)
  obtain ⟨L5, e5, l5⟩ := s5.1
  obtain ⟨z5, d5, g5, r5, k5, j5, t5⟩ := blk8 (M := u19.2) (j := 4) g4 c21 e5 (fun b hb ne => fr_X1_init hu24 hb ne) s5.2.1
  rw [← eh25] at z5 d5 g5 r5 k5 j5 t5
  have w5 : zL u24.1 = zL h20 ++ (q21 :: L5) := by rw [e5, nh_L, List.append_assoc]; rfl
  have n5 : (zL h25).length = P + 161 := by rw [z5, List.length_append, n4]; simp [l5]
  have p5 := (ArN.of s5 nm_I w5).k8 j5 (by decide) (by decide) (by rw [w5, List.length_append]; simp [l5])
  rw [n4] at t5 p5
  -- the kept place
  rw [eh27, eM28] at hu29
  obtain ⟨x6, e6, s6, A6, y61, y64⟩ := new_place hu29 nh_ok (by rw [nh_L]; exact nd_push d5 c26)
  obtain ⟨z6, d6, g6, r6, k6, j6, t6⟩ := blk8 (M := u24.2) (j := 6) g5 c26 e6 (fun b hb ne => fr_X4_init hu29 hb ne) s6
  rw [← eh30] at z6 d6 g6 r6 k6 j6 t6
  have w6 : zL u29.1 = zL h25 ++ [q26, x6] := by rw [e6, nh_L, List.append_assoc]; rfl
  have n6 : (zL h30).length = P + 163 := by rw [z6, List.length_append, n5]; simp
  have p6 := (PlN.of w6 A6 y61 (by rw [y64, nm_I])).k8 j6 (by rw [w6, List.length_append]; simp)
  rw [n5] at t6 p6
  -- the kept detail
  rw [eh32, eM33] at hu34
  obtain ⟨y0, y1, y2, y3, y4, y5, y6, y7, y8, e7, s7, A7, R7, D7, ⟨X3, X7, XX⟩, C0, C1, C2⟩ := new_detail hu34 nh_ok (by rw [nh_L]; exact nd_push d6 c31)
  obtain ⟨z7, d7, g7, r7, k7, j7, t7⟩ := blk8 (M := u29.2) (j := 7) g6 c31 e7 (fun b hb ne => fr_X2_init hu34 hb ne) s7
  rw [← eh35] at z7 d7 g7 r7 k7 j7 t7
  have w7 : zL u34.1 = zL h30 ++ [q31, y0, y1, y2, y3, y4, y5, y6, y7, y8] := by rw [e7, nh_L, List.append_assoc]; rfl
  have n7 : (zL h35).length = P + 173 := by rw [z7, List.length_append, n6]; simp
  have p7 := (DtN.of w7 A7 R7 D7 ⟨X3, X7, fun j a b => by rw [XX j a b, nm_I]⟩ C0 C1 C2).k8 j7 (by rw [w7, List.length_append]; simp)
  rw [n6] at t7 p7
  -- the end
  have k8 : K8 (h35, u34.2) (h35, M37) := ⟨⟨[], by simp⟩, fun b k hb hk => by
    have ne : b ≠ a0 := fun z => by
      have y := g7.2
      rw [← z] at y
      exact hk (hb.2.symm.trans y)
    rw [eM37, eM36]
    exact ((Fr.refl hb.1).sI ne).sI ne⟩
  have k7 := k7.tr k8
  have k6 := k6.tr k7
  have k5 := k5.tr k6
  have k4 := k4.tr k5
  have k3 := k3.tr k4
  have k2 := k2.tr k3
  refine ⟨⟨(q1 :: L1) ++ (q6 :: L2) ++ (q11 :: L3) ++ (q16 :: L4) ++ (q21 :: L5) ++ [q26, x6] ++ [q31, y0, y1, y2, y3, y4, y5, y6, y7, y8], ?_, ?_⟩, d7, ?_⟩
  · show zL h35 = _
    rw [z7, z6, z5, z4, z3, z2, z1]
    simp [List.append_assoc]
  · simp [l1, l2, l3, l4, l5]
  · rw [← hP] at p1 t1 ⊢
    have T1 : at_ h35 P = q1 := (k2.at (u := (h5, u4.2)) (by show P < (zL h5).length; omega)).trans t1
    have T2 : at_ h35 (P + 2) = q6 := (k3.at (u := (h10, u9.2)) (by show P + 2 < (zL h10).length; omega)).trans t2
    have T3 : at_ h35 (P + 149) = q11 := (k4.at (u := (h15, u14.2)) (by show P + 149 < (zL h15).length; omega)).trans t3
    have T4 : at_ h35 (P + 156) = q16 := (k5.at (u := (h20, u19.2)) (by show P + 156 < (zL h20).length; omega)).trans t4
    have T5 : at_ h35 (P + 158) = q21 := (k6.at (u := (h25, u24.2)) (by show P + 158 < (zL h25).length; omega)).trans t5
    have T6 : at_ h35 (P + 161) = q26 := (k7.at (u := (h30, u29.2)) (by show P + 161 < (zL h30).length; omega)).trans t6
    unfold OfN
    refine ⟨g7, ?_, ?_, p1.k8 k2 (by decide) (by decide) (by show _ < (zL h5).length; rw [n1]; simp), ?_, p3.k8 k4 (by decide) (by decide) (by show _ < (zL h15).length; rw [n3]; simp), p4.k8 k5 (by decide) (by decide) (by show _ < (zL h20).length; rw [n4]; simp), p5.k8 k6 (by decide) (by decide) (by show _ < (zL h25).length; rw [n5]; simp), p6.k8 k7 (by show _ < (zL h30).length; omega), p7.k8 k8 (by show _ < (zL h35).length; omega)⟩
    · show zR h35 a0 0 = some (at_ h35 P) ∧ zR h35 a0 1 = some (at_ h35 (P + 2)) ∧ zR h35 a0 2 = some (at_ h35 (P + 149)) ∧ zR h35 a0 3 = some (at_ h35 (P + 156)) ∧ zR h35 a0 4 = some (at_ h35 (P + 158)) ∧ zR h35 a0 5 = none ∧ zR h35 a0 6 = some (at_ h35 (P + 161)) ∧ zR h35 a0 7 = some (at_ h35 (P + 163))
      rw [T1, T2, T3, T4, T5, T6, t7, r7, r6, r5, r4, r3, r2, r1]
      simp [va_up, n0]
    · show zI M37 a0 8 = -1 ∧ zI M37 a0 9 = -1
      rw [eM37, eM36]; simp [zI_sI]
    · have : at_ (h35, M37).1 (P + 2) = q6 := T2
      rw [this]
      exact p2.k8 k3 (by show _ ≤ (zL h10).length; omega)
end O
