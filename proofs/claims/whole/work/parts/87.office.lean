/-! THE START: the office -/
def Kp (h : Hs) (M : Mm) (a0 : Nat) (u : Hs × Mm) : Prop := ∀ b, b ∈ zL h → b ≠ a0 → Fr b h M u
theorem Kp.tr {h h' : Hs} {M M' : Mm} {a0 : Nat} {u : Hs × Mm} (f : ∀ b, b ∈ zL h → b ≠ a0 → Fr b h M (h', M')) (k : Kp h' M' a0 u) : Kp h M a0 u := fun b hb hne => (f b hb hne).trans (k b (f b hb hne).1 hne)
/-- what an object with its arrays is, when more is made behind it; aa the office -/
theorem Ar.keep {h0 h : Hs} {I0 : Nat → Int32} {M : Mm} {u : Hs × Mm} {a0 k0 aa : Nat} {ks : List (Nat × Nat × Nat)} {L : List Nat} (s : Ar h0 I0 a0 k0 ks h M) (e : zL u.1 = zL h ++ L) (haa : aa ∈ zL h0) (na : a0 ≠ aa) (k : Kp h M aa u) : ok u.1 a0 k0 ∧ zI u.2 a0 = I0 ∧ ∀ i t, ks[i]? = some t → zR u.1 a0 t.1 = some (at_ u.1 ((zL h0).length + i)) ∧ ok u.1 (at_ u.1 ((zL h0).length + i)) t.2.1 ∧ zN u.1 (at_ u.1 ((zL h0).length + i)) = t.2.2 ∧ zI u.2 (at_ u.1 ((zL h0).length + i)) = fun _ => 0 := by
  obtain ⟨⟨L0, eL, lL⟩, nd, g, e0, hv⟩ := s
  have f := k _ g.1 na
  refine ⟨f.ok g, by rw [f.2.2.2.2.1]; exact e0, fun i t ht => ?_⟩
  obtain ⟨r1, r2, r3, r4⟩ := hv i t ht
  have hi := (List.getElem?_eq_some_iff.mp ht).1
  have len : (zL h).length = (zL h0).length + ks.length := by rw [eL, List.length_append, lL]
  have nq : at_ h ((zL h0).length + i) ≠ aa := fun z => by
    have y := at_new (p := i) eL
    rw [z, List.getD_eq_getElem?_getD, List.getElem?_eq_getElem (by omega)] at y
    rw [eL, List.nodup_append] at nd
    exact nd.2.2 aa haa _ (List.getElem_mem (by omega)) y
  have fq := k _ r2.1 nq
  rw [at_app e (by omega)]
  exact ⟨by rw [f.2.2.2.1]; exact r1, fq.ok r2, by rw [fq.2.2.1]; exact r3, by rw [fq.2.2.2.2.1]; exact r4⟩
