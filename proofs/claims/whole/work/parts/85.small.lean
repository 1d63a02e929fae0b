/-! THE START: the class's smaller objects -/
section N
variable {h : Hs} {M : Mm} {u : Hs × Mm} {a0 : Nat}
theorem new_tape (hn : n_X6_init h a0 M u) (g : ok h a0 6) (nd : (zL h).Nodup) : Ar h (zI M a0) a0 6 [(0, 10, 400)] u.1 u.2 := by
  obtain ⟨q1, c1, h2, eh2, M3, eM3, h4, eh4, rfl⟩ := hn
  have s := Ar.rf (M := M) g nd rfl
  have s : Ar h (zI M a0) a0 6 [(0, 10, 400)] h4 M3 := by rw [eh4, eh2, eM3]; exact s.step (j := 0) (k := 10) (n := 400) c1 (by decide)
  exact s
theorem new_wear (hn : n_X7_init h a0 M u) (g : ok h a0 7) (nd : (zL h).Nodup) : Ar h (zI M a0) a0 7 [(0, 12, 7)] u.1 u.2 := by
  obtain ⟨q1, c1, h2, eh2, M3, eM3, h4, eh4, rfl⟩ := hn
  have s := Ar.rf (M := M) g nd rfl
  have s : Ar h (zI M a0) a0 7 [(0, 12, 7)] h4 M3 := by rw [eh4, eh2, eM3]; exact s.step (j := 0) (k := 12) (n := 7) c1 (by decide)
  exact s
theorem new_check (hn : n_X1_init h a0 M u) (g : ok h a0 1) (nd : (zL h).Nodup) : Ar h (zI M a0) a0 1 [(0, 11, 256), (1, 11, 256)] u.1 u.2 := by
  obtain ⟨q1, c1, h2, eh2, M3, eM3, h4, eh4, q5, c5, h6, eh6, M7, eM7, h8, eh8, rfl⟩ := hn
  have s := Ar.rf (M := M) g nd rfl
  have s : Ar h (zI M a0) a0 1 [(0, 11, 256)] h4 M3 := by rw [eh4, eh2, eM3]; exact s.step (j := 0) (k := 11) (n := 256) c1 (by decide)
  have s : Ar h (zI M a0) a0 1 [(0, 11, 256), (1, 11, 256)] h8 M7 := by rw [eh8, eh6, eM7]; exact s.step (j := 1) (k := 11) (n := 256) c5 (by decide)
  exact s
theorem new_rows (hn : n_X5_init h a0 M u) (g : ok h a0 5) (nd : (zL h).Nodup) : Ar h (zI M a0) a0 5 [(0, 11, 400), (1, 11, 400), (2, 11, 400), (3, 11, 200), (4, 11, 200), (5, 11, 200)] u.1 u.2 := by
  obtain ⟨q1, c1, h2, eh2, M3, eM3, h4, eh4, q5, c5, h6, eh6, M7, eM7, h8, eh8, q9, c9, h10, eh10, M11, eM11, h12, eh12, q13, c13, h14, eh14, M15, eM15, h16, eh16, q17, c17, h18, eh18, M19, eM19, h20, eh20, q21, c21, h22, eh22, M23, eM23, h24, eh24, rfl⟩ := hn
  have s := Ar.rf (M := M) g nd rfl
  have s : Ar h (zI M a0) a0 5 [(0, 11, 400)] h4 M3 := by rw [eh4, eh2, eM3]; exact s.step (j := 0) (k := 11) (n := 400) c1 (by decide)
  have s : Ar h (zI M a0) a0 5 [(0, 11, 400), (1, 11, 400)] h8 M7 := by rw [eh8, eh6, eM7]; exact s.step (j := 1) (k := 11) (n := 400) c5 (by decide)
  have s : Ar h (zI M a0) a0 5 [(0, 11, 400), (1, 11, 400), (2, 11, 400)] h12 M11 := by rw [eh12, eh10, eM11]; exact s.step (j := 2) (k := 11) (n := 400) c9 (by decide)
  have s : Ar h (zI M a0) a0 5 [(0, 11, 400), (1, 11, 400), (2, 11, 400), (3, 11, 200)] h16 M15 := by rw [eh16, eh14, eM15]; exact s.step (j := 3) (k := 11) (n := 200) c13 (by decide)
  have s : Ar h (zI M a0) a0 5 [(0, 11, 400), (1, 11, 400), (2, 11, 400), (3, 11, 200), (4, 11, 200)] h20 M19 := by rw [eh20, eh18, eM19]; exact s.step (j := 4) (k := 11) (n := 200) c17 (by decide)
  have s : Ar h (zI M a0) a0 5 [(0, 11, 400), (1, 11, 400), (2, 11, 400), (3, 11, 200), (4, 11, 200), (5, 11, 200)] h24 M23 := by rw [eh24, eh22, eM23]; exact s.step (j := 5) (k := 11) (n := 200) c21 (by decide)
  exact s
end N
