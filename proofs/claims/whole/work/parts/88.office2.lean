/-! THE START: the office, its row of addresses and what stays -/
section O
variable {h : Hs} {M : Mm} {u : Hs × Mm} {a0 : Nat}
theorem office_row (hn : n_X8_init h a0 M u) (g : ok h a0 8) (nd : (zL h).Nodup) : ∃ L, zL u.1 = zL h ++ L ∧ L.length = 173 ∧ (zL u.1).Nodup ∧ ok u.1 a0 8 ∧ zI u.2 a0 8 = -1 ∧ zI u.2 a0 9 = -1 ∧ Kp h M a0 u := by
  obtain ⟨q1, c1, h2, eh2, M3, eM3, u4, hu4, h5, eh5, q6, c6, h7, eh7, M8, eM8, u9, hu9, h10, eh10, q11, c11, h12, eh12, M13, eM13, u14, hu14, h15, eh15, q16, c16, h17, eh17, M18, eM18, u19, hu19, h20, eh20, q21, c21, h22, eh22, M23, eM23, u24, hu24, h25, eh25, q26, c26, h27, eh27, M28, eM28, u29, hu29, h30, eh30, q31, c31, h32, eh32, M33, eM33, u34, hu34, h35, eh35, M36, eM36, M37, eM37, rfl⟩ := hn
  rw [eh2, eM3] at hu4
  have s1 := new_tape hu4 nh_ok (by rw [nh_L]; exact nd_push nd c1)
  obtain ⟨L1, e1, l1⟩ := s1.1
  obtain ⟨z1, d1, g1, r1, i1, f1, -⟩ := blk (j := 0) g c1 e1 (fun b hb ne => fr_X6_init hu4 hb ne) s1.2.1
  rw [← eh5] at z1 d1 g1 r1 f1
  rw [eh7, eM8] at hu9
  obtain ⟨⟨L2, e2, l2⟩, s2, -⟩ := new_board hu9 nh_ok (by rw [nh_L]; exact nd_push d1 c6)
  obtain ⟨z2, d2, g2, r2, i2, f2, -⟩ := blk (M := u4.2) (j := 1) g1 c6 e2 (fun b hb ne => fr_X0_init hu9 hb ne) s2
  rw [← eh10] at z2 d2 g2 r2 f2
  rw [eh12, eM13] at hu14
  have s3 := new_rows hu14 nh_ok (by rw [nh_L]; exact nd_push d2 c11)
  obtain ⟨L3, e3, l3⟩ := s3.1
  obtain ⟨z3, d3, g3, r3, i3, f3, -⟩ := blk (M := u9.2) (j := 2) g2 c11 e3 (fun b hb ne => fr_X5_init hu14 hb ne) s3.2.1
  rw [← eh15] at z3 d3 g3 r3 f3
  rw [eh17, eM18] at hu19
  have s4 := new_wear hu19 nh_ok (by rw [nh_L]; exact nd_push d3 c16)
  obtain ⟨L4, e4, l4⟩ := s4.1
  obtain ⟨z4, d4, g4, r4, i4, f4, -⟩ := blk (M := u14.2) (j := 3) g3 c16 e4 (fun b hb ne => fr_X7_init hu19 hb ne) s4.2.1
  rw [← eh20] at z4 d4 g4 r4 f4
  rw [eh22, eM23] at hu24
  have s5 := new_check hu24 nh_ok (by rw [nh_L]; exact nd_push d4 c21)
  obtain ⟨L5, e5, l5⟩ := s5.1
  obtain ⟨z5, d5, g5, r5, i5, f5, -⟩ := blk (M := u19.2) (j := 4) g4 c21 e5 (fun b hb ne => fr_X1_init hu24 hb ne) s5.2.1
  rw [← eh25] at z5 d5 g5 r5 f5
  rw [eh27, eM28] at hu29
  obtain ⟨x6, e6, s6, -⟩ := new_place hu29 nh_ok (by rw [nh_L]; exact nd_push d5 c26)
  obtain ⟨z6, d6, g6, r6, i6, f6, -⟩ := blk (M := u24.2) (j := 6) g5 c26 e6 (fun b hb ne => fr_X4_init hu29 hb ne) s6
  rw [← eh30] at z6 d6 g6 r6 f6
  rw [eh32, eM33] at hu34
  obtain ⟨y0, y1, y2, y3, y4, y5, y6, y7, y8, e7, s7, -⟩ := new_detail hu34 nh_ok (by rw [nh_L]; exact nd_push d6 c31)
  obtain ⟨z7, d7, g7, r7, i7, f7, -⟩ := blk (M := u29.2) (j := 7) g6 c31 e7 (fun b hb ne => fr_X2_init hu34 hb ne) s7
  rw [← eh35] at z7 d7 g7 r7 f7
  have f8 : ∀ b, b ∈ zL h35 → b ≠ a0 → Fr b h35 u34.2 (h35, M37) := fun b hb hne => by
    rw [eM37, eM36]
    exact ((Fr.refl hb).sI hne).sI hne
  refine ⟨(q1 :: L1) ++ (q6 :: L2) ++ (q11 :: L3) ++ (q16 :: L4) ++ (q21 :: L5) ++ [q26, x6] ++ [q31, y0, y1, y2, y3, y4, y5, y6, y7, y8], ?_, ?_, d7, g7, ?_, ?_, ?_⟩
  · show zL h35 = _
    rw [z7, z6, z5, z4, z3, z2, z1]
    simp [List.append_assoc]
  · simp [l1, l2, l3, l4, l5]
  · show zI M37 a0 8 = -1
    rw [eM37, eM36]; simp [zI_sI]
  · show zI M37 a0 9 = -1
    rw [eM37]; simp [zI_sI]
  · exact Kp.tr f1 (Kp.tr f2 (Kp.tr f3 (Kp.tr f4 (Kp.tr f5 (Kp.tr f6 (Kp.tr f7 f8))))))
end O
