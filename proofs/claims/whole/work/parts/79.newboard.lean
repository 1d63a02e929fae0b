/-! NEW CELLS: places and details by their positions -/
def PlN (v : Hs × Mm) (p : Nat) : Prop := PlA v.1 (at_ v.1 p) (at_ v.1 (p + 1)) ∧ zI v.2 (at_ v.1 p) 1 = -1 ∧ zI v.2 (at_ v.1 p) 4 = 0
def DtN (v : Hs × Mm) (p : Nat) : Prop := ok v.1 (at_ v.1 p) 2 ∧ (zR v.1 (at_ v.1 p) 0 = some (at_ v.1 (p + 1)) ∧ zR v.1 (at_ v.1 p) 1 = some (at_ v.1 (p + 4)) ∧ zR v.1 (at_ v.1 p) 2 = some (at_ v.1 (p + 7))) ∧
  (LdA v.1 (at_ v.1 (p + 1)) (at_ v.1 (p + 2)) (at_ v.1 (p + 3)) 6 ∧ LdA v.1 (at_ v.1 (p + 4)) (at_ v.1 (p + 5)) (at_ v.1 (p + 6)) 4 ∧ LdA v.1 (at_ v.1 (p + 7)) (at_ v.1 (p + 8)) (at_ v.1 (p + 9)) 4) ∧
  (zI v.2 (at_ v.1 p) 3 = -1 ∧ zI v.2 (at_ v.1 p) 7 = -1 ∧ ∀ j, j ≠ 3 → j ≠ 7 → zI v.2 (at_ v.1 p) j = 0) ∧ zI v.2 (at_ v.1 (p + 1)) 2 = 0 ∧ zI v.2 (at_ v.1 (p + 4)) 2 = 0 ∧ zI v.2 (at_ v.1 (p + 7)) 2 = 0
theorem PlN.keep {u v : Hs × Mm} {p : Nat} {L : List Nat} (s : PlN u p) (e : zL v.1 = zL u.1 ++ L) (hp : p + 1 < (zL u.1).length) (F : ∀ b k, ok u.1 b k → k = 4 ∨ k = 11 → Fr b u.1 u.2 v) : PlN v p := by
  obtain ⟨s1, s2, s3⟩ := s
  have f1 := F _ _ s1.1 (Or.inl rfl)
  have f2 := F _ _ s1.2.2.1 (Or.inr rfl)
  unfold PlN
  rw [at_app e (show p < _ by omega), at_app e hp]
  exact ⟨s1.keep f1 f2, by rw [f1.2.2.2.2.1]; exact s2, by rw [f1.2.2.2.2.1]; exact s3⟩
theorem DtN.keep {u v : Hs × Mm} {p : Nat} {L : List Nat} (s : DtN u p) (e : zL v.1 = zL u.1 ++ L) (hp : p + 9 < (zL u.1).length) (F : ∀ b k, ok u.1 b k → k = 2 ∨ k = 3 ∨ k = 11 → Fr b u.1 u.2 v) : DtN v p := by
  obtain ⟨s1, ⟨r0, r1, r2⟩, ⟨l0, l1, l2⟩, ⟨v0, v1, v2⟩, c0, c1, c2⟩ := s
  have f0 := F _ _ s1 (Or.inl rfl)
  have g0 := F _ _ l0.1 (Or.inr (Or.inl rfl))
  have g1 := F _ _ l1.1 (Or.inr (Or.inl rfl))
  have g2 := F _ _ l2.1 (Or.inr (Or.inl rfl))
  unfold DtN
  rw [at_app e (show p < _ by omega), at_app e (show p + 1 < _ by omega), at_app e (show p + 2 < _ by omega), at_app e (show p + 3 < _ by omega), at_app e (show p + 4 < _ by omega), at_app e (show p + 5 < _ by omega), at_app e (show p + 6 < _ by omega), at_app e (show p + 7 < _ by omega), at_app e (show p + 8 < _ by omega), at_app e (show p + 9 < _ by omega)]
  refine ⟨f0.ok s1, ?_, ⟨l0.keep g0 (F _ _ l0.2.2.2.1 (Or.inr (Or.inr rfl))) (F _ _ l0.2.2.2.2.1 (Or.inr (Or.inr rfl))), l1.keep g1 (F _ _ l1.2.2.2.1 (Or.inr (Or.inr rfl))) (F _ _ l1.2.2.2.2.1 (Or.inr (Or.inr rfl))), l2.keep g2 (F _ _ l2.2.2.2.1 (Or.inr (Or.inr rfl))) (F _ _ l2.2.2.2.2.1 (Or.inr (Or.inr rfl)))⟩, ?_, ?_, ?_, ?_⟩
  · rw [f0.2.2.2.1]; exact ⟨r0, r1, r2⟩
  · rw [f0.2.2.2.2.1]; exact ⟨v0, v1, v2⟩
  · rw [g0.2.2.2.2.1]; exact c0
  · rw [g1.2.2.2.2.1]; exact c1
  · rw [g2.2.2.2.2.1]; exact c2
section L
variable {u0 : Hs × Mm} {qa : Nat}
theorem new_places (g : ok u0.1 qa 15) (nd : (zL u0.1).Nodup) : ∀ (i : Nat) (v : Hs × Mm), n_bp qa i u0 v → (∃ L, zL v.1 = zL u0.1 ++ L ∧ L.length = 2 * i) ∧ (zL v.1).Nodup ∧ ok v.1 qa 15 ∧ zN v.1 qa = zN u0.1 qa ∧ ∀ j, j < i → zR v.1 qa j = some (at_ v.1 ((zL u0.1).length + 2 * j)) ∧ PlN v ((zL u0.1).length + 2 * j) := by
  intro i
  induction i with
  | zero =>
    rintro v rfl
    exact ⟨⟨[], by simp, rfl⟩, nd, g, rfl, fun j hj => by omega⟩
  | succ i ih =>
    rintro v ⟨w, hw, q, hq, w2, hu, rfl⟩
    obtain ⟨⟨L, eL, lL⟩, ndw, gw, nw, hv⟩ := ih w hw
    obtain ⟨c, e2, nd2, P2, k1, k4⟩ := new_place hu nh_ok (by rw [nh_L]; exact nd_push ndw hq)
    have eV : zL (setR w2.1 qa i (some q)) = zL w.1 ++ [q, c] := by rw [setR_L, e2, nh_L, List.append_assoc]; rfl
    have len : (zL w.1).length = (zL u0.1).length + 2 * i := by rw [eL, List.length_append, lL]
    have F : ∀ b, b ∈ zL w.1 → b ≠ qa → Fr b w.1 w.2 (setR w2.1 qa i (some q), w2.2) := fun b hb hne => by
      have n : b ≠ q := fun z => hq (z ▸ hb)
      have f : Fr b w.1 w.2 (nh w.1 q 4 0, nm w.2 q) := (Fr.refl hb).nh n
      have f : Fr b w.1 w.2 w2 := f.trans (fr_X4_init hu f.1 n)
      exact Fr.setR (M1 := w2.2) f hne
    have Fk : ∀ b k, ok w.1 b k → k = 4 ∨ k = 11 → Fr b w.1 w.2 (setR w2.1 qa i (some q), w2.2) := fun b k hb hk => F b hb.1 fun z => by
      have := gw.2
      rw [← z, hb.2] at this
      omega
    have nqa : qa ≠ q := fun z => hq (z ▸ gw.1)
    have fq : Fr qa w.1 w.2 (nh w.1 q 4 0, nm w.2 q) := (Fr.refl gw.1).nh nqa
    have fq : Fr qa w.1 w.2 w2 := fq.trans (fr_X4_init hu fq.1 nqa)
    have a0 : at_ (setR w2.1 qa i (some q)) ((zL u0.1).length + 2 * i) = q := by
      have := at_new (p := 0) eV
      rw [len] at this
      exact this
    have a1 : at_ (setR w2.1 qa i (some q)) ((zL u0.1).length + 2 * i + 1) = c := by
      have := at_new (p := 1) eV
      rw [len] at this
      exact this
    refine ⟨⟨L ++ [q, c], by rw [eV, eL, List.append_assoc], by rw [List.length_append, lL]; rfl⟩, by rw [setR_L]; exact nd2, ok_setR (fq.ok gw), ?_, fun j hj => ?_⟩
    · show zN w2.1 qa = _
      rw [fq.2.2.1, nw]
    · by_cases e : j = i
      · subst e
        refine ⟨by rw [a0, zR_at]; simp [va_up], ?_⟩
        unfold PlN
        rw [a0, a1]
        have ne1 : q ≠ qa := fun z => nqa z.symm
        have ne2 : c ≠ qa := fun z => by
          have y1 := (fq.ok gw).2
          rw [← z, P2.2.2.1.2] at y1
          omega
        refine ⟨P2.keep (M := w2.2) (u := (setR w2.1 qa j (some q), w2.2)) ((Fr.refl P2.1.1).setR ne1) ((Fr.refl P2.2.2.1.1).setR ne2), k1, ?_⟩
        rw [k4, nm_I]
      · have hj' : j < i := by omega
        obtain ⟨r1, r2⟩ := hv j hj'
        refine ⟨?_, r2.keep eV (by omega) Fk⟩
        rw [at_app eV (by omega), zR_at]
        simp only [va_up, e, if_false]
        rw [fq.2.2.2.1]; exact r1
theorem new_details (g : ok u0.1 qa 14) (nd : (zL u0.1).Nodup) : ∀ (i : Nat) (v : Hs × Mm), n_bd qa i u0 v → (∃ L, zL v.1 = zL u0.1 ++ L ∧ L.length = 10 * i) ∧ (zL v.1).Nodup ∧ ok v.1 qa 14 ∧ zN v.1 qa = zN u0.1 qa ∧ ∀ j, j < i → zR v.1 qa j = some (at_ v.1 ((zL u0.1).length + 10 * j)) ∧ DtN v ((zL u0.1).length + 10 * j) := by
  intro i
  induction i with
  | zero =>
    rintro v rfl
    exact ⟨⟨[], by simp, rfl⟩, nd, g, rfl, fun j hj => by omega⟩
  | succ i ih =>
    rintro v ⟨w, hw, q, hq, w2, hu, rfl⟩
    obtain ⟨⟨L, eL, lL⟩, ndw, gw, nw, hv⟩ := ih w hw
    obtain ⟨l0, t0, v0, l1, t1, v1, l2, t2, v2, e2, nd2, g2, ⟨r0, r1, r2⟩, ⟨L0, L1, L2⟩, ⟨x3, x7, xx⟩, c0, c1, c2⟩ := new_detail hu nh_ok (by rw [nh_L]; exact nd_push ndw hq)
    have eV : zL (setR w2.1 qa i (some q)) = zL w.1 ++ [q, l0, t0, v0, l1, t1, v1, l2, t2, v2] := by rw [setR_L, e2, nh_L, List.append_assoc]; rfl
    have len : (zL w.1).length = (zL u0.1).length + 10 * i := by rw [eL, List.length_append, lL]
    have F : ∀ b, b ∈ zL w.1 → b ≠ qa → Fr b w.1 w.2 (setR w2.1 qa i (some q), w2.2) := fun b hb hne => by
      have n : b ≠ q := fun z => hq (z ▸ hb)
      have f : Fr b w.1 w.2 (nh w.1 q 2 0, nm w.2 q) := (Fr.refl hb).nh n
      have f : Fr b w.1 w.2 w2 := f.trans (fr_X2_init hu f.1 n)
      exact Fr.setR (M1 := w2.2) f hne
    have Fk : ∀ b k, ok w.1 b k → k = 2 ∨ k = 3 ∨ k = 11 → Fr b w.1 w.2 (setR w2.1 qa i (some q), w2.2) := fun b k hb hk => F b hb.1 fun z => by
      have := gw.2
      rw [← z, hb.2] at this
      omega
    have nqa : qa ≠ q := fun z => hq (z ▸ gw.1)
    have fq : Fr qa w.1 w.2 (nh w.1 q 2 0, nm w.2 q) := (Fr.refl gw.1).nh nqa
    have fq : Fr qa w.1 w.2 w2 := fq.trans (fr_X2_init hu fq.1 nqa)
    have gq := (fq.ok gw).2
    have ap : ∀ p, at_ (setR w2.1 qa i (some q)) ((zL u0.1).length + 10 * i + p) = [q, l0, t0, v0, l1, t1, v1, l2, t2, v2].getD p 0 := fun p => by
      have := at_new (p := p) eV
      rw [len] at this
      exact this
    have Z : ∀ b k, ok w2.1 b k → k ≠ 14 → Fr b w2.1 w2.2 (setR w2.1 qa i (some q), w2.2) := fun b k hb hk => (Fr.refl hb.1).setR fun z => by
      rw [← z, hb.2] at gq
      exact hk gq
    refine ⟨⟨L ++ [q, l0, t0, v0, l1, t1, v1, l2, t2, v2], by rw [eV, eL, List.append_assoc], by rw [List.length_append, lL]; rfl⟩, by rw [setR_L]; exact nd2, ok_setR (fq.ok gw), ?_, fun j hj => ?_⟩
    · show zN w2.1 qa = _
      rw [fq.2.2.1, nw]
    · by_cases e : j = i
      · subst e
        refine ⟨by rw [show (zL u0.1).length + 10 * j = (zL u0.1).length + 10 * j + 0 from rfl, ap, zR_at]; simp [va_up], ?_⟩
        unfold DtN
        have a0 : at_ (setR w2.1 qa j (some q)) ((zL u0.1).length + 10 * j) = q := ap 0
        rw [a0, ap 1, ap 2, ap 3, ap 4, ap 5, ap 6, ap 7, ap 8, ap 9]
        have fz := Z _ _ g2 (by decide)
        refine ⟨fz.ok g2, ?_, ⟨L0.keep (Z _ _ L0.1 (by decide)) (Z _ _ L0.2.2.2.1 (by decide)) (Z _ _ L0.2.2.2.2.1 (by decide)), L1.keep (Z _ _ L1.1 (by decide)) (Z _ _ L1.2.2.2.1 (by decide)) (Z _ _ L1.2.2.2.2.1 (by decide)), L2.keep (Z _ _ L2.1 (by decide)) (Z _ _ L2.2.2.2.1 (by decide)) (Z _ _ L2.2.2.2.2.1 (by decide))⟩, ⟨x3, x7, fun k h3 h7 => ?_⟩, c0, c1, c2⟩
        · have : zR (setR w2.1 qa j (some q)) q = zR w2.1 q := fz.2.2.2.1
          show zR (setR w2.1 qa j (some q)) q 0 = some l0 ∧ zR (setR w2.1 qa j (some q)) q 1 = some l1 ∧ zR (setR w2.1 qa j (some q)) q 2 = some l2
          rw [this]; exact ⟨r0, r1, r2⟩
        · show zI w2.2 q k = 0
          rw [xx k h3 h7, nm_I]
      · have hj' : j < i := by omega
        obtain ⟨y1, y2⟩ := hv j hj'
        refine ⟨?_, y2.keep eV (by omega) Fk⟩
        rw [at_app eV (by omega), zR_at]
        simp only [va_up, e, if_false]
        rw [fq.2.2.2.1]; exact y1
end L
