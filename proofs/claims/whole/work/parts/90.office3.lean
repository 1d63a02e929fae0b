/-! THE START: what stays when more is made; the smaller objects by positions -/
def K8 (u v : Hs × Mm) : Prop := (∃ L, zL v.1 = zL u.1 ++ L) ∧ ∀ b k, ok u.1 b k → k ≠ 8 → Fr b u.1 u.2 v
theorem K8.rf {u : Hs × Mm} : K8 u u := ⟨⟨[], by simp⟩, fun b k hb _ => Fr.refl hb.1⟩
theorem K8.tr {u v w : Hs × Mm} (a : K8 u v) (b : K8 v w) : K8 u w := by
  obtain ⟨⟨L1, e1⟩, f1⟩ := a
  obtain ⟨⟨L2, e2⟩, f2⟩ := b
  exact ⟨⟨L1 ++ L2, by rw [e2, e1, List.append_assoc]⟩, fun c k hc hk => (f1 c k hc hk).trans (f2 c k ((f1 c k hc hk).ok hc) hk)⟩
theorem K8.at {u v : Hs × Mm} (a : K8 u v) {p : Nat} (hp : p < (zL u.1).length) : at_ v.1 p = at_ u.1 p := by
  obtain ⟨⟨L, e⟩, -⟩ := a
  exact at_app e hp
def ArN (v : Hs × Mm) (p k0 : Nat) (ks : List (Nat × Nat × Nat)) : Prop := ok v.1 (at_ v.1 p) k0 ∧ (zI v.2 (at_ v.1 p) = fun _ => 0) ∧ ∀ i t, ks[i]? = some t → zR v.1 (at_ v.1 p) t.1 = some (at_ v.1 (p + 1 + i)) ∧ ok v.1 (at_ v.1 (p + 1 + i)) t.2.1 ∧ zN v.1 (at_ v.1 (p + 1 + i)) = t.2.2
theorem ArN.of {h : Hs} {w : Hs × Mm} {I0 : Nat → Int32} {q k0 : Nat} {ks : List (Nat × Nat × Nat)} {L : List Nat} (s : Ar (nh h q k0 0) I0 q k0 ks w.1 w.2) (hI : I0 = fun _ => 0) (e : zL w.1 = zL h ++ (q :: L)) : ArN w (zL h).length k0 ks := by
  obtain ⟨-, -, g, e0, hv⟩ := s
  have lq : (zL (nh h q k0 0)).length = (zL h).length + 1 := by rw [nh_L, List.length_append]; rfl
  have a0 : at_ w.1 (zL h).length = q := at_new (p := 0) e
  unfold ArN
  rw [a0]
  refine ⟨g, by rw [e0, hI], fun i t ht => ?_⟩
  obtain ⟨r1, r2, r3, -⟩ := hv i t ht
  rw [lq] at r1 r2 r3
  exact ⟨r1, r2, r3⟩
theorem ArN.k8 {u v : Hs × Mm} {p k0 : Nat} {ks : List (Nat × Nat × Nat)} (s : ArN u p k0 ks) (K : K8 u v) (hk : k0 ≠ 8) (hks : ∀ t ∈ ks, t.2.1 ≠ 8) (hp : p + ks.length < (zL u.1).length) : ArN v p k0 ks := by
  obtain ⟨g, e0, hv⟩ := s
  have f := K.2 _ _ g hk
  unfold ArN
  rw [K.at (show p < _ by omega)]
  refine ⟨f.ok g, by rw [f.2.2.2.2.1]; exact e0, fun i t ht => ?_⟩
  obtain ⟨r1, r2, r3⟩ := hv i t ht
  have hi := (List.getElem?_eq_some_iff.mp ht).1
  have fq := K.2 _ _ r2 (hks t (List.mem_of_getElem? ht))
  rw [K.at (show p + 1 + i < _ by omega)]
  exact ⟨by rw [f.2.2.2.1]; exact r1, fq.ok r2, by rw [fq.2.2.1]; exact r3⟩
theorem PlN.of {h : Hs} {w : Hs × Mm} {q c : Nat} (e : zL w.1 = zL h ++ [q, c]) (P : PlA w.1 q c) (k1 : zI w.2 q 1 = -1) (k4 : zI w.2 q 4 = 0) : PlN w (zL h).length := by
  unfold PlN
  rw [show at_ w.1 (zL h).length = q from at_new (p := 0) e, show at_ w.1 ((zL h).length + 1) = c from at_new (p := 1) e]
  exact ⟨P, k1, k4⟩
theorem PlN.k8 {u v : Hs × Mm} {p : Nat} (s : PlN u p) (K : K8 u v) (hp : p + 1 < (zL u.1).length) : PlN v p := by
  obtain ⟨⟨L, e⟩, f⟩ := K
  exact s.keep e hp fun b k hb hk => f b k hb (by omega)
theorem DtN.k8 {u v : Hs × Mm} {p : Nat} (s : DtN u p) (K : K8 u v) (hp : p + 9 < (zL u.1).length) : DtN v p := by
  obtain ⟨⟨L, e⟩, f⟩ := K
  exact s.keep e hp fun b k hb hk => f b k hb (by omega)
theorem BdN.k8 {u v : Hs × Mm} {a p : Nat} (s : BdN u a p) (K : K8 u v) (hp : p + 146 ≤ (zL u.1).length) : BdN v a p := by
  obtain ⟨⟨L, e⟩, f⟩ := K
  exact s.keep e hp f
theorem DtN.of {h : Hs} {w : Hs × Mm} {q l0 t0 v0 l1 t1 v1 l2 t2 v2 : Nat} (e : zL w.1 = zL h ++ [q, l0, t0, v0, l1, t1, v1, l2, t2, v2]) (g : ok w.1 q 2) (r : zR w.1 q 0 = some l0 ∧ zR w.1 q 1 = some l1 ∧ zR w.1 q 2 = some l2) (l : LdA w.1 l0 t0 v0 6 ∧ LdA w.1 l1 t1 v1 4 ∧ LdA w.1 l2 t2 v2 4) (x : zI w.2 q 3 = -1 ∧ zI w.2 q 7 = -1 ∧ ∀ j, j ≠ 3 → j ≠ 7 → zI w.2 q j = 0) (c0 : zI w.2 l0 2 = 0) (c1 : zI w.2 l1 2 = 0) (c2 : zI w.2 l2 2 = 0) : DtN w (zL h).length := by
  have ap : ∀ p, at_ w.1 ((zL h).length + p) = [q, l0, t0, v0, l1, t1, v1, l2, t2, v2].getD p 0 := fun p => at_new (p := p) e
  have a0 : at_ w.1 (zL h).length = q := ap 0
  unfold DtN
  rw [a0, ap 1, ap 2, ap 3, ap 4, ap 5, ap 6, ap 7, ap 8, ap 9]
  exact ⟨g, r, l, x, c0, c1, c2⟩
theorem blk8 {h : Hs} {M : Mm} {w : Hs × Mm} {a0 q k j : Nat} {L : List Nat} (g : ok h a0 8) (hq : q ∉ zL h) (eL : zL w.1 = zL (nh h q k 0) ++ L) (F : ∀ b, b ∈ zL (nh h q k 0) → b ≠ q → Fr b (nh h q k 0) (nm M q) w) (ndw : (zL w.1).Nodup) :
    zL (setR w.1 a0 j (some q)) = zL h ++ (q :: L) ∧ (zL (setR w.1 a0 j (some q))).Nodup ∧ ok (setR w.1 a0 j (some q)) a0 8 ∧ zR (setR w.1 a0 j (some q)) a0 = va_up (zR h a0) j (some q) ∧
    K8 (h, M) (setR w.1 a0 j (some q), w.2) ∧ K8 w (setR w.1 a0 j (some q), w.2) ∧ at_ (setR w.1 a0 j (some q)) (zL h).length = q := by
  obtain ⟨e, nd, g1, r, -, f1, f2, t, -⟩ := blk (j := j) g hq eL F ndw
  refine ⟨e, nd, g1, r, ⟨⟨_, e⟩, fun b k hb hk => f1 b hb.1 fun z => ?_⟩, ⟨⟨[], by rw [List.append_nil]; rfl⟩, fun b k hb hk => f2 b hb.1 fun z => ?_⟩, t⟩
  · have := g.2
    rw [← z, hb.2] at this
    exact hk this
  · have := g1.2
    rw [← z] at this
    have y : zK w.1 b = k := hb.2
    have y2 : zK w.1 b = 8 := this
    exact hk (y.symm.trans y2)
