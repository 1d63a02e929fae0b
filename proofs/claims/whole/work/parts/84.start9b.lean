/-! THE START: the reference's shape -/
def A9 (a0 len : Nat) (h : Hs) (big i : Nat) : Nat := if i = 0 then a0 else if i < 14 then at_ h (len + (i - 1)) else big + i
theorem start9 {h : Hs} {M : Mm} {u : Hs × Mm} {a0 : Nat} (hn : n_X9_init h a0 M u) (g : ok h a0 9) (nd : (zL h).Nodup) (e0 : zI M a0 = fun _ => 0) : ∃ A, A 0 = a0 ∧ Sh2 u.1 A ∧ WF0 (zI u.2 (A 1)) ∧ (∀ j, zI u.2 (A 0) j = 0) ∧ (zL u.1).Nodup := by
  obtain ⟨M', ⟨⟨L, eL, lL⟩, ndu, gu, eI, hv⟩, z, hz, ez⟩ := start9_ar hn g nd
  obtain ⟨big, hbig⟩ := bound_of (zL u.1)
  have l13 : L.length = 13 := lL
  have len : (zL u.1).length = (zL h).length + 13 := by rw [eL, List.length_append, l13]
  obtain ⟨A, hA⟩ : ∃ A, A = A9 a0 (zL h).length u.1 big := ⟨_, rfl⟩
  have A0 : A 0 = a0 := by rw [hA]; rfl
  have Ai : ∀ i, i < 13 → A (i + 1) = at_ u.1 ((zL h).length + i) := fun i hi => by
    rw [hA]; unfold A9
    rw [if_neg (by omega), if_pos (by omega), Nat.add_sub_cancel]
  have Ab : ∀ i, 14 ≤ i → A i = big + i := fun i hi => by
    rw [hA]; unfold A9
    rw [if_neg (by omega), if_neg (by omega)]
  have new : ∀ i, i < 13 → at_ u.1 ((zL h).length + i) ∈ zL u.1 ∧ at_ u.1 ((zL h).length + i) ∉ zL h := fun i hi => by
    refine ⟨at_mem (by omega), fun y => ?_⟩
    have e := at_new (p := i) eL
    rw [e, List.getD_eq_getElem?_getD, List.getElem?_eq_getElem (by omega)] at y
    rw [eL, List.nodup_append] at ndu
    exact ndu.2.2 _ y _ (List.getElem_mem (by omega)) rfl
  have tri : ∀ i, i = 0 ∨ (∃ k, k < 13 ∧ i = k + 1) ∨ 14 ≤ i := fun i => by
    by_cases y : i = 0
    · exact Or.inl y
    · by_cases y2 : 14 ≤ i
      · exact Or.inr (Or.inr y2)
      · exact Or.inr (Or.inl ⟨i - 1, by omega, by omega⟩)
  have inj : ∀ i j, A i = A j → i = j := by
    intro i j e
    rcases tri i with rfl | ⟨k, hk, rfl⟩ | hi <;> rcases tri j with rfl | ⟨m, hm, rfl⟩ | hj
    · rfl
    · rw [A0, Ai m hm] at e
      exact absurd (e ▸ g.1) (new m hm).2
    · rw [A0, Ab j hj] at e
      have := hbig _ gu.1
      omega
    · rw [A0, Ai k hk] at e
      exact absurd (e.symm ▸ g.1) (new k hk).2
    · rw [Ai k hk, Ai m hm] at e
      have := at_inj ndu (by omega) (by omega) e
      omega
    · rw [Ai k hk, Ab j hj] at e
      have := hbig _ (new k hk).1
      omega
    · rw [A0, Ab i hi] at e
      have := hbig _ gu.1
      omega
    · rw [Ai m hm, Ab i hi] at e
      have := hbig _ (new m hm).1
      omega
    · rw [Ab i hi, Ab j hj] at e
      omega
  have v0 := hv 0 _ rfl
  have v1 := hv 1 _ rfl
  have v2 := hv 2 _ rfl
  have v3 := hv 3 _ rfl
  have v4 := hv 4 _ rfl
  have v5 := hv 5 _ rfl
  have v6 := hv 6 _ rfl
  have v7 := hv 7 _ rfl
  have v8 := hv 8 _ rfl
  have v9 := hv 9 _ rfl
  have v10 := hv 10 _ rfl
  have v11 := hv 11 _ rfl
  have v12 := hv 12 _ rfl
  rw [← Ai 0 (by omega), ← A0] at v0
  rw [← Ai 1 (by omega), ← A0] at v1
  rw [← Ai 2 (by omega), ← A0] at v2
  rw [← Ai 3 (by omega), ← A0] at v3
  rw [← Ai 4 (by omega), ← A0] at v4
  rw [← Ai 5 (by omega), ← A0] at v5
  rw [← Ai 6 (by omega), ← A0] at v6
  rw [← Ai 7 (by omega), ← A0] at v7
  rw [← Ai 8 (by omega), ← A0] at v8
  rw [← Ai 9 (by omega), ← A0] at v9
  rw [← Ai 10 (by omega), ← A0] at v10
  rw [← Ai 11 (by omega), ← A0] at v11
  rw [← Ai 12 (by omega), ← A0] at v12
  have S : Sh2 u.1 A := ⟨⟨by rw [A0]; exact gu, v0.1, v1.1, v2.1, v3.1, v4.1, v5.1, v6.1, v7.1, v8.1, v9.1, v10.1, v11.1, v12.1, v0.2.1, v1.2.1, v2.2.1, v3.2.1, v4.2.1, v5.2.1, v6.2.1, v7.2.1, v8.2.1, v9.2.1, v10.2.1, v11.2.1, v12.2.1, v0.2.2.1, v1.2.2.1, v2.2.2.1, v3.2.2.1, v4.2.2.1, v5.2.2.1, v6.2.2.1, v7.2.2.1, v8.2.2.1, v9.2.2.1, v10.2.2.1, v11.2.2.1, v12.2.2.1⟩, inj⟩
  obtain ⟨z2, hz2, F, w⟩ := r_init9 (M := M') S v0.2.2.2
  rw [A0, hz] at hz2
  cases hz2
  refine ⟨A, A0, S, by rw [ez]; exact w, fun j => ?_, ndu⟩
  rw [ez, F.i (by omega), A0, eI, e0]
