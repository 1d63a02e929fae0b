/-! THE START: one object made for the office, whatever its constructor makes besides -/
section B
variable {h : Hs} {M : Mm} {w : Hs × Mm} {a0 k0 q k j : Nat} {L : List Nat}
theorem blk (g : ok h a0 k0) (hq : q ∉ zL h) (eL : zL w.1 = zL (nh h q k 0) ++ L) (F : ∀ b, b ∈ zL (nh h q k 0) → b ≠ q → Fr b (nh h q k 0) (nm M q) w) (ndw : (zL w.1).Nodup) :
    zL (setR w.1 a0 j (some q)) = zL h ++ (q :: L) ∧ (zL (setR w.1 a0 j (some q))).Nodup ∧ ok (setR w.1 a0 j (some q)) a0 k0 ∧ zR (setR w.1 a0 j (some q)) a0 = va_up (zR h a0) j (some q) ∧ zI w.2 a0 = zI M a0 ∧
    (∀ b, b ∈ zL h → b ≠ a0 → Fr b h M (setR w.1 a0 j (some q), w.2)) ∧ (∀ b, b ∈ zL w.1 → b ≠ a0 → Fr b w.1 w.2 (setR w.1 a0 j (some q), w.2)) ∧ at_ (setR w.1 a0 j (some q)) (zL h).length = q ∧ q ≠ a0 := by
  have n0 : a0 ≠ q := fun z => hq (z ▸ g.1)
  have f0 : Fr a0 h M (nh h q k 0, nm M q) := (Fr.refl g.1).nh n0
  have f1 : Fr a0 h M w := f0.trans (F a0 f0.1 n0)
  have e : zL (setR w.1 a0 j (some q)) = zL h ++ (q :: L) := by rw [setR_L, eL, nh_L, List.append_assoc]; rfl
  refine ⟨e, ndw, ok_setR (f1.ok g), ?_, f1.2.2.2.2.1, fun b hb hne => ?_, fun b hb hne => (Fr.refl hb).setR hne, at_new (p := 0) e, n0.symm⟩
  · rw [zR_at, f1.2.2.2.1]
  · have n : b ≠ q := fun z => hq (z ▸ hb)
    have f : Fr b h M (nh h q k 0, nm M q) := (Fr.refl hb).nh n
    have f : Fr b h M w := f.trans (F b f.1 n)
    exact Fr.setR (M1 := w.2) f hne
end B
