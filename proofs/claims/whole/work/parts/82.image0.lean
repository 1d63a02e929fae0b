/-! CALLS: image without a picture: a new Board -/
def nwB (i : Nat) : Bool := i == 21 || i == 23 || i == 25 || (decide (100 ≤ i) && decide (i < 1300) && decide (12 ≤ i % 100) && decide (i % 100 < 24))
def psB (i : Nat) : Nat := if i = 21 then 0 else 1 + bk 1 i
def scB1 (p : Nat) : Nat := if p = 0 then 21 else cd 1 (p - 1)
theorem nwB_lt {i : Nat} (h : nwB i = true) : i < 1300 := by
  unfold nwB at h
  simp only [Bool.or_eq_true, Bool.and_eq_true, beq_iff_eq, decide_eq_true_eq] at h
  omega
theorem nwB_O {i : Nat} (h : O1 i) : nwB i = false := by
  cases g : nwB i with
  | false => rfl
  | true =>
    unfold nwB at g
    simp only [Bool.or_eq_true, Bool.and_eq_true, beq_iff_eq, decide_eq_true_eq] at g
    unfold O1 at h
    omega
theorem ps_sc : ∀ i, i < 1300 → nwB i = true → psB i < 147 ∧ scB1 (psB i) = i := by decide +kernel
theorem cd_nw : ∀ k, k < 146 → nwB (cd 1 k) = true ∧ psB (cd 1 k) = 1 + k := by decide +kernel
theorem bound_of (Z : List Nat) : ∃ big, ∀ x ∈ Z, x < big := by
  induction Z with
  | nil => exact ⟨0, by simp⟩
  | cons a r ih =>
    obtain ⟨b, hb⟩ := ih
    refine ⟨max b (a + 1), fun x hx => ?_⟩
    rcases List.mem_cons.mp hx with rfl | hx
    · omega
    · have := hb x hx; omega
section K
variable {h : Hs} {M : Mm} {u : Hs × Mm} {B : Nat → Nat} {β : Nat}
theorem DtA.keep {d : Nat} (s : DtA h B β d) (F : ∀ b k, ok h b k → k ≠ 8 → Fr b h M u) : DtA u.1 B β d :=
  ⟨(F _ _ s.1 (by decide)).ok s.1, fun i hi => by rw [(F _ _ s.1 (by decide)).2.2.2.1]; exact s.2.1 i hi, fun i hi => (s.2.2 i hi).keep (F _ _ (s.2.2 i hi).1 (by decide)) (F _ _ (s.2.2 i hi).2.2.2.1 (by decide)) (F _ _ (s.2.2 i hi).2.2.2.2.1 (by decide))⟩
theorem BdA.keep (s : BdA h B β) (F : ∀ b k, ok h b k → k ≠ 8 → Fr b h M u) : BdA u.1 B β := by
  obtain ⟨s1, s2, s3, s4, s5, s6, s7, s8, s9, s10, s11⟩ := s
  have f1 := F _ _ s1 (by decide)
  have f4 := F _ _ s4 (by decide)
  have f5 := F _ _ s5 (by decide)
  exact ⟨f1.ok s1, by rw [f1.2.2.2.1]; exact s2, by rw [f1.2.2.2.1]; exact s3, f4.ok s4, f5.ok s5, by rw [f4.2.2.1]; exact s6, by rw [f5.2.2.1]; exact s7, fun n hn => by rw [f4.2.2.2.1]; exact s8 n hn, fun n hn => by rw [f5.2.2.2.1]; exact s9 n hn, fun n hn => (s10 n hn).keep (F _ _ (s10 n hn).1 (by decide)) (F _ _ (s10 n hn).2.2.1 (by decide)), fun n hn => (s11 n hn).keep F⟩
theorem RwA.keep (s : RwA h B) (F : ∀ b k, ok h b k → k ≠ 8 → Fr b h M u) : RwA u.1 B := by
  obtain ⟨s1, r0, r1, r2, r3, r4, r5, o4, o5, o6, o7, o8, o9, n4, n5, n6, n7, n8, n9⟩ := s
  have f1 := (F _ _ s1 (by decide)).2.2.2.1
  exact ⟨(F _ _ s1 (by decide)).ok s1, by rw [f1]; exact r0, by rw [f1]; exact r1, by rw [f1]; exact r2, by rw [f1]; exact r3, by rw [f1]; exact r4, by rw [f1]; exact r5, (F _ _ o4 (by decide)).ok o4, (F _ _ o5 (by decide)).ok o5, (F _ _ o6 (by decide)).ok o6, (F _ _ o7 (by decide)).ok o7, (F _ _ o8 (by decide)).ok o8, (F _ _ o9 (by decide)).ok o9, by rw [(F _ _ o4 (by decide)).2.2.1]; exact n4, by rw [(F _ _ o5 (by decide)).2.2.1]; exact n5, by rw [(F _ _ o6 (by decide)).2.2.1]; exact n6, by rw [(F _ _ o7 (by decide)).2.2.1]; exact n7, by rw [(F _ _ o8 (by decide)).2.2.1]; exact n8, by rw [(F _ _ o9 (by decide)).2.2.1]; exact n9⟩
theorem ShX.keep (s : ShX h B) (F : ∀ b k, ok h b k → k ≠ 8 → Fr b h M u) (g0 : ok u.1 (B 0) 8) (gR : ∀ j, j ≠ 5 → zR u.1 (B 0) j = zR h (B 0) j) : ShX u.1 B := by
  obtain ⟨k0, r0, r1, r2, r3, r4, r6, r7, ⟨k1, p1, k2, n2⟩, ⟨k10, p10, k11, n11⟩, ⟨k12, p12, p12', k13, k14, n13, n14⟩, k15, n15⟩ := s
  refine ⟨g0, by rw [gR 0 (by decide)]; exact r0, by rw [gR 1 (by decide)]; exact r1, by rw [gR 2 (by decide)]; exact r2, by rw [gR 3 (by decide)]; exact r3, by rw [gR 4 (by decide)]; exact r4, by rw [gR 6 (by decide)]; exact r6, by rw [gR 7 (by decide)]; exact r7, ⟨?_, ?_, ?_, ?_⟩, ⟨?_, ?_, ?_, ?_⟩, ⟨?_, ?_, ?_, ?_, ?_, ?_, ?_⟩, ?_, ?_⟩
  · exact (F _ _ k1 (by decide)).ok k1
  · rw [(F _ _ k1 (by decide)).2.2.2.1]; exact p1
  · exact (F _ _ k2 (by decide)).ok k2
  · rw [(F _ _ k2 (by decide)).2.2.1]; exact n2
  · exact (F _ _ k10 (by decide)).ok k10
  · rw [(F _ _ k10 (by decide)).2.2.2.1]; exact p10
  · exact (F _ _ k11 (by decide)).ok k11
  · rw [(F _ _ k11 (by decide)).2.2.1]; exact n11
  · exact (F _ _ k12 (by decide)).ok k12
  · rw [(F _ _ k12 (by decide)).2.2.2.1]; exact p12
  · rw [(F _ _ k12 (by decide)).2.2.2.1]; exact p12'
  · exact (F _ _ k13 (by decide)).ok k13
  · exact (F _ _ k14 (by decide)).ok k14
  · rw [(F _ _ k13 (by decide)).2.2.1]; exact n13
  · rw [(F _ _ k14 (by decide)).2.2.1]; exact n14
  · exact (F _ _ k15 (by decide)).ok k15
  · rw [(F _ _ k15 (by decide)).2.2.1]; exact n15
end K
/-- the codes, when a new board's cells stand at the end of the row -/
def newB (B : Nat → Nat) (h : Hs) (u : Hs) (big : Nat) (i : Nat) : Nat := if nwB i = true then at_ u ((zL h).length + psB i) else if B i ∈ zL h then B i else big + i
section I
variable {h1 h2 : Hs} {B A : Nat → Nat} {M1 M2 : Mm} {q : Nat} {u : Hs × Mm}
theorem newB_inj {h u1 : Hs} {L : List Nat} {big : Nat} (hB : ∀ i j, B i = B j → i = j) (eL : zL u1 = zL h ++ L) (lL : L.length = 147) (nd : (zL u1).Nodup) (hb : ∀ x ∈ zL u1, x < big) : ∀ i j, newB B h u1 big i = newB B h u1 big j → i = j := by
  have len : (zL u1).length = (zL h).length + 147 := by rw [eL, List.length_append, lL]
  have new : ∀ i, nwB i = true → at_ u1 ((zL h).length + psB i) ∈ zL u1 ∧ at_ u1 ((zL h).length + psB i) ∉ zL h := fun i hi => by
    have hp := (ps_sc i (nwB_lt hi) hi).1
    refine ⟨at_mem (by omega), fun z => ?_⟩
    have e := at_new (p := psB i) eL
    rw [e, List.getD_eq_getElem?_getD, List.getElem?_eq_getElem (by omega)] at z
    rw [eL, List.nodup_append] at nd
    exact nd.2.2 _ z _ (List.getElem_mem (by omega)) rfl
  intro i j e
  unfold newB at e
  by_cases hi : nwB i = true
  · rw [if_pos hi] at e
    by_cases hj : nwB j = true
    · rw [if_pos hj] at e
      have pi := ps_sc i (nwB_lt hi) hi
      have pj := ps_sc j (nwB_lt hj) hj
      have := at_inj nd (by omega) (by omega) e
      rw [← pi.2, ← pj.2]
      congr 1; omega
    · rw [if_neg hj] at e
      have n := new i hi
      by_cases oj : B j ∈ zL h
      · rw [if_pos oj] at e
        exact absurd (e ▸ oj) n.2
      · rw [if_neg oj] at e
        have := hb _ n.1
        omega
  · rw [if_neg hi] at e
    by_cases hj : nwB j = true
    · rw [if_pos hj] at e
      have n := new j hj
      by_cases oi : B i ∈ zL h
      · rw [if_pos oi] at e
        exact absurd (e ▸ oi) n.2
      · rw [if_neg oi] at e
        have := hb _ n.1
        omega
    · rw [if_neg hj] at e
      have up : ∀ x, x ∈ zL h → x < big := fun x hx => hb x (by rw [eL]; exact List.mem_append_left _ hx)
      by_cases oi : B i ∈ zL h
      · rw [if_pos oi] at e
        by_cases oj : B j ∈ zL h
        · rw [if_pos oj] at e
          exact hB _ _ e
        · rw [if_neg oj] at e
          have := up _ oi
          omega
      · rw [if_neg oi] at e
        by_cases oj : B j ∈ zL h
        · rw [if_pos oj] at e
          have := up _ oj
          omega
        · rw [if_neg oj] at e
          omega
theorem image0_new (V : Inv h1 M1 h2 M2 B A False) (nd : (zL h1).Nodup) (hq : q ∉ zL h1) (hu : n_X0_init (nh h1 q 0 0) q (nm M1 q) u) :
    ∃ B', B' 0 = B 0 ∧ B' 15 = B 15 ∧ aB B' 0 = aB B 0 ∧ aB B' 1 = q ∧ Inv h1 u.2 h2 M2 B' A False ∧ Sh1 (setR u.1 (B 0) 5 (some q)) B' True ∧ (zL u.1).Nodup := by
  obtain ⟨⟨L, eL, lL⟩, ndu, bn⟩ := new_board hu nh_ok (by rw [nh_L]; exact nd_push nd hq)
  have eL' : zL u.1 = zL h1 ++ (q :: L) := by rw [eL, nh_L, List.append_assoc]; rfl
  obtain ⟨big, hbig⟩ := bound_of (zL u.1)
  have lq : (zL (nh h1 q 0 0)).length = (zL h1).length + 1 := by rw [nh_L, List.length_append]; rfl
  have inj := newB_inj (B := B) (h := h1) V.1.1 eL' (by simp [lL]) ndu hbig
  have e : ∀ i, O1 i → B i ∈ zL h1 → newB B h1 u.1 big i = B i := fun i hi hm => by
    unfold newB
    rw [nwB_O hi, if_neg (by decide), if_pos hm]
  have c21 : newB B h1 u.1 big 21 = q := by
    unfold newB
    rw [if_pos (by decide)]
    exact at_new (p := 0) eL'
  have cds : ∀ k, k < 146 → newB B h1 u.1 big (cd 1 k) = at_ u.1 ((zL (nh h1 q 0 0)).length + k) := fun k hk => by
    unfold newB
    rw [if_pos (cd_nw k hk).1, (cd_nw k hk).2, lq]
    congr 1; omega
  have F : ∀ b, b ∈ zL h1 → Fr b h1 M1 u := fun b hb => by
    have n : b ≠ q := fun z => hq (z ▸ hb)
    have f : Fr b h1 M1 (nh h1 q 0 0, nm M1 q) := (Fr.refl hb).nh n
    exact f.trans (fr_X0_init hu f.1 n)
  have V' : Inv h1 u.2 h2 M2 (newB B h1 u.1 big) A False := V.ren inj e fun b hb => (F b hb).2.2.2.2.1
  have k0 := V.1.2.1.1
  have E0 : newB B h1 u.1 big 0 = B 0 := e 0 (by unfold O1; omega) k0.1
  have kf := (F _ k0.1)
  have FF : ∀ b k, ok h1 b k → k ≠ 8 → Fr b h1 M1 (setR u.1 (B 0) 5 (some q), u.2) := fun b k hb hk => by
    have n : b ≠ B 0 := fun z => by
      have := k0.2
      rw [← z, hb.2] at this
      exact hk this
    exact Fr.setR (M1 := u.2) (F b hb.1) n
  have FG : ∀ b k, ok u.1 b k → k ≠ 8 → Fr b u.1 u.2 (setR u.1 (B 0) 5 (some q), u.2) := fun b k hb hk => by
    have n : b ≠ B 0 := fun z => by
      have := (kf.ok k0).2
      rw [← z, hb.2] at this
      exact hk this
    exact (Fr.refl hb.1).setR n
  have b1 : BdA u.1 (newB B h1 u.1 big) 1 := (BdN.BdA (β := 1) (B := newB B h1 u.1 big) (u := u) (p := (zL (nh h1 q 0 0)).length) (by
    show BdN u (newB B h1 u.1 big 21) _
    rw [c21]; exact bn) cds (by decide) cd1_P cd1_L).1
  obtain ⟨-, sx, sr, sb, sp, st, -⟩ := V'.1
  refine ⟨newB B h1 u.1 big, E0, e 15 (by unfold O1; omega) V.1.2.1.2.2.2.2.2.2.2.2.2.2.2.1.1, e (20 + 0) (by unfold O1; omega) V.1.2.2.2.1.1.1, c21, V', ⟨inj, ?_, sr.keep FF, sb.keep FF, sp.keep (FF _ _ sp.1 (by decide)) (FF _ _ sp.2.2.1 (by decide)), st.keep FF, Or.inr ⟨trivial, ?_, b1.keep FG⟩⟩, ndu⟩
  · refine sx.keep FF ?_ fun j hj => ?_
    · rw [E0]; exact kf.ok k0
    · rw [E0, zR_at]
      simp only [va_up, hj, if_false]
      rw [kf.2.2.2.1]
  · rw [E0, zR_at]
    show va_up (zR u.1 (B 0)) 5 (some q) 5 = some (newB B h1 u.1 big 21)
    rw [c21]; simp [va_up]
/-- what stands behind the call -/
theorem image0_pre (V : Inv h1 M1 h2 M2 B A False) (nd : (zL h1).Nodup) (hq : q ∉ zL h1) (hu : n_X0_init (nh h1 q 0 0) q (nm M1 q) u) :
    ∃ qb, zR (setR u.1 (B 0) 5 (some q)) (B 0) 1 = some qb ∧ ∃ z, f_X0_copyFrom (setR u.1 (B 0) 5 (some q)) q qb u.2 = some z := by
  obtain ⟨B', e0, -, eb, e1, V', S', -⟩ := image0_new V nd hq hu
  obtain ⟨hB', sx, -, sb, -, -, s5⟩ := S'
  rcases s5 with ⟨z, -⟩ | ⟨-, -, sb1⟩
  · exact absurd trivial z
  · refine ⟨aB B' 0, by have y := sx.2.2.1; rw [e0] at y; exact y, ?_⟩
    obtain ⟨z, hz, -⟩ := x_copyB hB' sb1 sb (by omega) (by omega) (by omega) V'.2.2.1 V'.2.2.2.1 V'.2.2.2.2.1 (M := u.2)
    rw [e1] at hz
    exact ⟨z, hz⟩
theorem t_image0 (V : Inv h1 M1 h2 M2 B A False) (nd : (zL h1).Nodup) {v : Hs × Mm} (hv : n_X8_image0 h1 (B 0) M1 v) :
    ∃ B', B' 0 = B 0 ∧ B' 15 = B 15 ∧ wp (f_X9_image h2 (A 0) M2) (fun z' => z'.1 = 0 ∧ Inv v.1 v.2 h2 z'.2 B' A True) := by
  obtain ⟨q, hq, u, hu, qb, eqb, z, ez, rfl⟩ := hv
  obtain ⟨B', e0, e15, eb, e1, V', S', -⟩ := image0_new V nd hq hu
  have S'' := S'
  obtain ⟨hB', sx, -, sb, -, -, s5⟩ := S''
  rcases s5 with ⟨y, -⟩ | ⟨-, -, sb1⟩
  · exact absurd trivial y
  · have eq : qb = aB B' 0 := by
      have y := sx.2.2.1
      rw [e0, eqb] at y
      exact Option.some.inj y
    subst eq
    obtain ⟨z2, hz2, F3, p3, d3⟩ := x_copyB hB' sb1 sb (by omega) (by omega) (by omega) V'.2.2.1 V'.2.2.2.1 V'.2.2.2.2.1 (M := u.2)
    rw [e1, ez] at hz2
    cases hz2
    have z5 : zI M2 (A 0) 5 = 0 := by
      rcases V.2.2.2.2.2.2.2 with ⟨-, y⟩ | ⟨y, -⟩
      · exact y
      · exact y.elim
    refine ⟨B', e0, e15, (r_image V.2.1 (Or.inl z5)).mono ?_⟩
    rintro ⟨w, M4⟩ ⟨hw, F4, hc, h5⟩
    exact ⟨hw.trans z5, V'.pict S' (F3.up fun i j y => Or.inl y) F4 hc h5 p3 d3⟩
end I
