/-! NEW CELLS: a detail -/
section N
variable {h : Hs} {M : Mm} {u : Hs × Mm} {a0 m : Nat}
set_option maxHeartbeats 4000000 in
theorem new_detail (hn : n_X2_init h a0 M u) (g : ok h a0 2) (nd : (zL h).Nodup) : ∃ l0 t0 v0 l1 t1 v1 l2 t2 v2, zL u.1 = zL h ++ [l0, t0, v0, l1, t1, v1, l2, t2, v2] ∧ (zL u.1).Nodup ∧ ok u.1 a0 2 ∧ (zR u.1 a0 0 = some l0 ∧ zR u.1 a0 1 = some l1 ∧ zR u.1 a0 2 = some l2) ∧ (LdA u.1 l0 t0 v0 6 ∧ LdA u.1 l1 t1 v1 4 ∧ LdA u.1 l2 t2 v2 4) ∧ (zI u.2 a0 3 = -1 ∧ zI u.2 a0 7 = -1 ∧ ∀ j, j ≠ 3 → j ≠ 7 → zI u.2 a0 j = zI M a0 j) ∧ zI u.2 l0 2 = 0 ∧ zI u.2 l1 2 = 0 ∧ zI u.2 l2 2 = 0 := by
  obtain ⟨q1, hq1, h2, rfl, M3, rfl, u4, huu4, h5, rfl, q6, hq6, h7, rfl, M8, rfl, u9, huu9, h10, rfl, q11, hq11, h12, rfl, M13, rfl, u14, huu14, h15, rfl, M16, rfl, M17, rfl, rfl⟩ := hn
  have n1 : a0 ≠ q1 := fun z => hq1 (z ▸ g.1)
  have f2 : Fr a0 h M (nh h q1 3 0, nm M q1) := (Fr.refl g.1).nh n1
  have f4 : Fr a0 h M u4 := f2.trans (fr_X3_init_6 huu4 f2.1 n1)
  obtain ⟨t0, v0, e4, nd4, L4, I4⟩ := new_ladder6 huu4 nh_ok (by rw [nh_L]; exact nd_push nd hq1)
  have n6 : a0 ≠ q6 := fun z => hq6 (z ▸ (show a0 ∈ zL u4.1 from f4.1))
  have R5 : zR (setR u4.1 a0 0 (some q1)) a0 0 = some q1 := by rw [zR_at]; simp [va_up]
  have f7 : Fr a0 (setR u4.1 a0 0 (some q1)) u4.2 (nh (setR u4.1 a0 0 (some q1)) q6 3 0, nm u4.2 q6) := (Fr.refl (h := setR u4.1 a0 0 (some q1)) (show a0 ∈ zL u4.1 from f4.1)).nh n6
  have f9 : Fr a0 (setR u4.1 a0 0 (some q1)) u4.2 u9 := f7.trans (fr_X3_init_4 huu9 f7.1 n6)
  obtain ⟨t1, v1, e9, nd9, L9, I9⟩ := new_ladder4 huu9 nh_ok (by rw [nh_L]; exact nd_push nd4 hq6)
  have n11 : a0 ≠ q11 := fun z => hq11 (z ▸ (show a0 ∈ zL u9.1 from f9.1))
  have f12 : Fr a0 (setR u9.1 a0 1 (some q6)) u9.2 (nh (setR u9.1 a0 1 (some q6)) q11 3 0, nm u9.2 q11) := (Fr.refl (h := setR u9.1 a0 1 (some q6)) (show a0 ∈ zL u9.1 from f9.1)).nh n11
  have f14 : Fr a0 (setR u9.1 a0 1 (some q6)) u9.2 u14 := f12.trans (fr_X3_init_4 huu14 f12.1 n11)
  obtain ⟨t2, v2, e14, nd14, L14, I14⟩ := new_ladder4 huu14 nh_ok (by rw [nh_L]; exact nd_push nd9 hq11)
  -- the last steps touch nothing but a0
  have K3 : ∀ b, b ∈ zL u14.1 → b ≠ a0 → Fr b u14.1 u14.2 (setR u14.1 a0 2 (some q11), sI (sI u14.2 a0 3 (-1)) a0 7 (-1)) := fun b hb hne => (((Fr.refl hb).setR hne).sI hne).sI hne
  have K2 : ∀ b, b ∈ zL u9.1 → b ≠ a0 → Fr b u9.1 u9.2 (setR u14.1 a0 2 (some q11), sI (sI u14.2 a0 3 (-1)) a0 7 (-1)) := fun b hb hne => by
    have n : b ≠ q11 := fun z => hq11 (z ▸ (show b ∈ zL (setR u9.1 a0 1 (some q6)) from hb))
    have f : Fr b u9.1 u9.2 (nh (setR u9.1 a0 1 (some q6)) q11 3 0, nm u9.2 q11) := ((Fr.refl hb).setR hne).nh n
    have f : Fr b u9.1 u9.2 u14 := f.trans (fr_X3_init_4 huu14 f.1 n)
    exact f.trans (K3 b f.1 hne)
  have K1 : ∀ b, b ∈ zL u4.1 → b ≠ a0 → Fr b u4.1 u4.2 (setR u14.1 a0 2 (some q11), sI (sI u14.2 a0 3 (-1)) a0 7 (-1)) := fun b hb hne => by
    have n : b ≠ q6 := fun z => hq6 (z ▸ (show b ∈ zL (setR u4.1 a0 0 (some q1)) from hb))
    have f : Fr b u4.1 u4.2 (nh (setR u4.1 a0 0 (some q1)) q6 3 0, nm u4.2 q6) := ((Fr.refl hb).setR hne).nh n
    have f : Fr b u4.1 u4.2 u9 := f.trans (fr_X3_init_4 huu9 f.1 n)
    exact f.trans (K2 b f.1 hne)
  have notin : ∀ b, b ∉ zL h → b ≠ a0 := fun b hb z => hb (z ▸ g.1)
  have nt : ∀ (Z : List Nat) (L : List Nat) (b : Nat), (Z ++ L).Nodup → b ∈ L → b ∉ Z := fun Z L b hz hb hz2 => by
    rw [List.nodup_append] at hz
    exact hz.2.2 b hz2 b hb rfl
  have g4 : a0 ∈ zL u4.1 := f4.1
  have g9 : a0 ∈ zL u9.1 := f9.1
  have E4 : zL u4.1 = zL h ++ [q1, t0, v0] := by rw [e4, nh_L, List.append_assoc]; rfl
  have E9 : zL u9.1 = zL h ++ [q1, t0, v0, q6, t1, v1] := by rw [e9, nh_L, setR_L, E4, List.append_assoc, List.append_assoc]; rfl
  have E14 : zL u14.1 = zL h ++ [q1, t0, v0, q6, t1, v1, q11, t2, v2] := by rw [e14, nh_L, setR_L, E9, List.append_assoc, List.append_assoc]; rfl
  have ne : ∀ b, b ∈ [q1, t0, v0, q6, t1, v1, q11, t2, v2] → b ≠ a0 := fun b hb => notin b (nt _ _ b (by rw [← E14]; exact nd14) hb)
  have ka : ∀ b, b ∈ [q1, t0, v0] → Fr b u4.1 u4.2 (setR u14.1 a0 2 (some q11), sI (sI u14.2 a0 3 (-1)) a0 7 (-1)) := fun b hb => K1 b (by rw [E4]; exact List.mem_append_right _ hb) (ne b (by simp at hb ⊢; omega))
  have kb : ∀ b, b ∈ [q6, t1, v1] → Fr b u9.1 u9.2 (setR u14.1 a0 2 (some q11), sI (sI u14.2 a0 3 (-1)) a0 7 (-1)) := fun b hb => K2 b (by rw [E9]; refine List.mem_append_right _ ?_; simp at hb ⊢; omega) (ne b (by simp at hb ⊢; omega))
  have kc : ∀ b, b ∈ [q11, t2, v2] → Fr b u14.1 u14.2 (setR u14.1 a0 2 (some q11), sI (sI u14.2 a0 3 (-1)) a0 7 (-1)) := fun b hb => K3 b (by rw [E14]; refine List.mem_append_right _ ?_; simp at hb ⊢; omega) (ne b (by simp at hb ⊢; omega))
  have r0 : zR u9.1 a0 0 = some q1 := by rw [f9.2.2.2.1]; exact R5
  have r14 : zR u14.1 a0 0 = some q1 ∧ zR u14.1 a0 1 = some q6 := by
    rw [f14.2.2.2.1, zR_at]
    simp [va_up, r0]
  refine ⟨q1, t0, v0, q6, t1, v1, q11, t2, v2, E14, nd14, ok_setR (f14.ok (ok_setR (f9.ok (ok_setR (f4.ok g))))), ⟨?_, ?_, ?_⟩, ⟨L4.keep (ka _ (by simp)) (ka _ (by simp)) (ka _ (by simp)), L9.keep (kb _ (by simp)) (kb _ (by simp)) (kb _ (by simp)), L14.keep (kc _ (by simp)) (kc _ (by simp)) (kc _ (by simp))⟩, ⟨?_, ?_, ?_⟩, ?_, ?_, ?_⟩
  · rw [zR_at]; simp [va_up, r14.1]
  · rw [zR_at]; simp [va_up, r14.2]
  · rw [zR_at]; simp [va_up]
  · simp [zI_sI]
  · simp [zI_sI]
  · intro j h3 h7
    show zI (sI (sI u14.2 a0 3 (-1)) a0 7 (-1)) a0 j = _
    rw [zI_sI, if_neg (by simp [h7]), zI_sI, if_neg (by simp [h3]), f14.2.2.2.2.1, f9.2.2.2.2.1, f4.2.2.2.2.1]
  · rw [(ka q1 (by simp)).2.2.2.2.1, I4, nm_I]
  · rw [(kb q6 (by simp)).2.2.2.2.1, I9, nm_I]
  · rw [(kc q11 (by simp)).2.2.2.2.1, I14, nm_I]
end N
