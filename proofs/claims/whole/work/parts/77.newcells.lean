/-! NEW CELLS: what the constructors leave, by positions in the row of addresses -/
def at_ (h : Hs) (p : Nat) : Nat := (zL h).getD p 0
theorem at_app {h u : Hs} {L : List Nat} (e : zL u = zL h ++ L) {p : Nat} (hp : p < (zL h).length) : at_ u p = at_ h p := by
  unfold at_
  rw [e, List.getD_eq_getElem?_getD, List.getD_eq_getElem?_getD, List.getElem?_append_left hp]
theorem at_new {h u : Hs} {L : List Nat} (e : zL u = zL h ++ L) {p : Nat} : at_ u ((zL h).length + p) = L.getD p 0 := by
  unfold at_
  rw [e, List.getD_eq_getElem?_getD, List.getD_eq_getElem?_getD, List.getElem?_append_right (by omega)]
  congr 2; omega
theorem at_mem {h : Hs} {p : Nat} (hp : p < (zL h).length) : at_ h p ∈ zL h := by
  unfold at_
  rw [List.getD_eq_getElem?_getD, List.getElem?_eq_getElem hp]
  exact List.getElem_mem hp
theorem at_inj {h : Hs} (nd : (zL h).Nodup) {p q : Nat} (hp : p < (zL h).length) (hq : q < (zL h).length) (e : at_ h p = at_ h q) : p = q := by
  unfold at_ at e
  rw [List.getD_eq_getElem?_getD, List.getD_eq_getElem?_getD, List.getElem?_eq_getElem hp, List.getElem?_eq_getElem hq] at e
  exact (List.getElem_inj nd).mp e
theorem nd_push {Z : List Nat} {q : Nat} (nd : Z.Nodup) (hq : q ∉ Z) : (Z ++ [q]).Nodup := by
  rw [List.nodup_append]
  refine ⟨nd, by simp, fun a ha b hb => ?_⟩
  rw [List.mem_singleton] at hb
  subst hb
  exact fun e => hq (e ▸ ha)
theorem setR_L {h : Hs} {a j : Nat} {r : Option Nat} : zL (setR h a j r) = zL h := rfl
theorem Fr.ok {b k : Nat} {h : Hs} {M : Mm} {u : Hs × Mm} (f : Fr b h M u) (g : ok h b k) : ok u.1 b k := ⟨f.1, f.2.1.trans g.2⟩
theorem PlA.keep {h : Hs} {M : Mm} {u : Hs × Mm} {a c : Nat} (s : PlA h a c) (fa : Fr a h M u) (fc : Fr c h M u) : PlA u.1 a c :=
  ⟨fa.ok s.1, by rw [fa.2.2.2.1]; exact s.2.1, fc.ok s.2.2.1, by rw [fc.2.2.1]; exact s.2.2.2⟩
theorem LdA.keep {h : Hs} {M : Mm} {u : Hs × Mm} {a t v m : Nat} (s : LdA h a t v m) (fa : Fr a h M u) (ft : Fr t h M u) (fv : Fr v h M u) : LdA u.1 a t v m :=
  ⟨fa.ok s.1, by rw [fa.2.2.2.1]; exact s.2.1, by rw [fa.2.2.2.1]; exact s.2.2.1, ft.ok s.2.2.2.1, fv.ok s.2.2.2.2.1, by rw [ft.2.2.1]; exact s.2.2.2.2.2.1, by rw [fv.2.2.1]; exact s.2.2.2.2.2.2⟩
section N
variable {h : Hs} {M : Mm} {u : Hs × Mm} {a0 m : Nat}
theorem new_place (hn : n_X4_init h a0 M u) (g : ok h a0 4) (nd : (zL h).Nodup) : ∃ c, zL u.1 = zL h ++ [c] ∧ (zL u.1).Nodup ∧ PlA u.1 a0 c ∧ zI u.2 a0 1 = -1 ∧ zI u.2 a0 4 = zI M a0 4 := by
  obtain ⟨q1, hq1, h2, rfl, M3, rfl, h4, rfl, M5, rfl, rfl⟩ := hn
  have ne : a0 ≠ q1 := fun z => hq1 (z ▸ g.1)
  refine ⟨q1, rfl, nd_push nd hq1, ⟨ok_setR (ok_nh hq1 g), ?_, ok_setR nh_ok, ?_⟩, ?_, ?_⟩
  · simp [zR, setR, up2]
  · exact nh_N (k := 11)
  · show zI (sI (nm M q1) a0 1 (-1)) a0 1 = -1
    rw [zI_sI, if_pos ⟨rfl, rfl⟩]
  · show zI (sI (nm M q1) a0 1 (-1)) a0 4 = _
    rw [zI_sI, if_neg (by simp), nm_In ne]
theorem new_ladder6 (hn : n_X3_init_6 h a0 M u) (g : ok h a0 3) (nd : (zL h).Nodup) : ∃ t v, zL u.1 = zL h ++ [t, v] ∧ (zL u.1).Nodup ∧ LdA u.1 a0 t v 6 ∧ zI u.2 a0 = zI M a0 := by
  obtain ⟨q2, hq2, h3, rfl, M4, rfl, h5, rfl, q6, hq6, h7, rfl, M8, rfl, h9, rfl, rfl⟩ := hn
  have n2 : a0 ≠ q2 := fun z => hq2 (z ▸ g.1)
  have g5 : ok (setR (nh h q2 11 6) a0 0 (some q2)) a0 3 := ok_setR (ok_nh hq2 g)
  have n6 : a0 ≠ q6 := fun z => hq6 (z ▸ g5.1)
  have n26 : q2 ≠ q6 := fun z => hq6 (z ▸ (ok_setR (nh_ok (h := h) (q := q2) (k := 11) (n := 6))).1)
  have eL : zL (setR (nh (setR (nh h q2 11 6) a0 0 (some q2)) q6 11 6) a0 1 (some q6)) = zL h ++ [q2, q6] := by
    rw [setR_L, nh_L, setR_L, nh_L, List.append_assoc]; rfl
  refine ⟨q2, q6, eL, ?_, ⟨ok_setR (ok_nh hq6 g5), ?_, ?_, ok_setR (ok_nh hq6 (ok_setR nh_ok)), ok_setR nh_ok, ?_, ?_⟩, ?_⟩
  · rw [setR_L, nh_L]
    exact nd_push (by rw [setR_L, nh_L]; exact nd_push nd hq2) hq6
  · rw [zR_at]
    simp [va_up, nh_Rn n6, zR_at]
  · rw [zR_at]; simp [va_up]
  · show zN (nh (setR (nh h q2 11 6) a0 0 (some q2)) q6 11 6) q2 = 6
    rw [nh_Nn n26]
    exact nh_N (k := 11)
  · exact nh_N (k := 11)
  · show zI (nm (nm M q2) q6) a0 = _
    rw [nm_In n6, nm_In n2]
theorem new_ladder4 (hn : n_X3_init_4 h a0 M u) (g : ok h a0 3) (nd : (zL h).Nodup) : ∃ t v, zL u.1 = zL h ++ [t, v] ∧ (zL u.1).Nodup ∧ LdA u.1 a0 t v 4 ∧ zI u.2 a0 = zI M a0 := by
  obtain ⟨q2, hq2, h3, rfl, M4, rfl, h5, rfl, q6, hq6, h7, rfl, M8, rfl, h9, rfl, rfl⟩ := hn
  have n2 : a0 ≠ q2 := fun z => hq2 (z ▸ g.1)
  have g5 : ok (setR (nh h q2 11 4) a0 0 (some q2)) a0 3 := ok_setR (ok_nh hq2 g)
  have n6 : a0 ≠ q6 := fun z => hq6 (z ▸ g5.1)
  have n26 : q2 ≠ q6 := fun z => hq6 (z ▸ (ok_setR (nh_ok (h := h) (q := q2) (k := 11) (n := 4))).1)
  have eL : zL (setR (nh (setR (nh h q2 11 4) a0 0 (some q2)) q6 11 4) a0 1 (some q6)) = zL h ++ [q2, q6] := by
    rw [setR_L, nh_L, setR_L, nh_L, List.append_assoc]; rfl
  refine ⟨q2, q6, eL, ?_, ⟨ok_setR (ok_nh hq6 g5), ?_, ?_, ok_setR (ok_nh hq6 (ok_setR nh_ok)), ok_setR nh_ok, ?_, ?_⟩, ?_⟩
  · rw [setR_L, nh_L]
    exact nd_push (by rw [setR_L, nh_L]; exact nd_push nd hq2) hq6
  · rw [zR_at]
    simp [va_up, nh_Rn n6, zR_at]
  · rw [zR_at]; simp [va_up]
  · show zN (nh (setR (nh h q2 11 4) a0 0 (some q2)) q6 11 4) q2 = 4
    rw [nh_Nn n26]
    exact nh_N (k := 11)
  · exact nh_N (k := 11)
  · show zI (nm (nm M q2) q6) a0 = _
    rw [nm_In n6, nm_In n2]
end N
