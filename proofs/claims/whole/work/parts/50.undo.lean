/-! CALLS: undo, again, image with a picture -/
section CB
variable {h h1 h2 : Hs} {B A : Nat → Nat} {M M1 M2 : Mm} {pic : Prop} {G : Nat → Int32} {β β' : Nat}
def cbK (β i : Nat) (_ : Nat) : Prop := (100 + 12 * β ≤ i ∧ i < 112 + 12 * β) ∨ (200 + 12 * β ≤ i ∧ i < 212 + 12 * β) ∨ (300 ≤ i ∧ 12 * β ≤ i % 100 ∧ i % 100 < 12 * β + 12)
theorem x_copyB (hB : ∀ i j, B i = B j → i = j) (s : BdA h B β) (s' : BdA h B β') (hβ : β < 2) (hβ' : β' < 2) (ne : β ≠ β') (w : WF G) (r : PRs M B β' G) (r2 : DRs M B β' G) :
    wp (f_X0_copyFrom h (aB B β) (aB B β') M) (fun M' => FB B (cbK β) M M' ∧ PRs M' B β G ∧ DRs M' B β G) := by
  have q : ∀ i j, (B i = B j) = (i = j) := fun i j => propext ⟨hB i j, fun e => by rw [e]⟩
  unfold f_X0_copyFrom
  rw [wp_bind]
  refine (loopW (fun n k s => lp_X0_copyFrom_2 h (aB B β) (aB B β') n (Int32.ofNat k) s) 12 (fun k M' => FB B (cbK β) M M' ∧ ∀ m, m < k → PR M' (aP B β m) (aC B β m) G m) (fun z => FB B (cbK β) M z.2 ∧ PRs z.2 B β G) ?_ ?_ fuel 0 M (by omega) (by unfold fuel; omega) ⟨FB.rf, by omega⟩).mono ?_
  · intro n k M1 hk ⟨F, hp⟩ ih
    have sp := s.2.2.2.2.2.2.2.2.2.1 k hk
    have sp' := s'.2.2.2.2.2.2.2.2.2.1 k hk
    simp only [lp_X0_copyFrom_2]
    rw [if_neg (by rw [i_Lle (by omega) (by simp)]; simp; omega)]
    simp only [gd, ok, s.1, s'.1, and_self, if_true, x_placeAt s hk, x_placeAt s' hk, b_some, mq, sp]
    rw [wp_bind]
    refine (x_copyP (n := k) sp sp' (by simp only [aP, ne_eq, q]; omega) (by simp only [aC, ne_eq, q]; omega) (w.1 k hk) ((r k hk).fb F fun j => by unfold cbK; omega)).mono ?_
    rintro M2 ⟨F2, p2, -, -⟩
    have F2' : FB B (fun i _ => i = 100 + 12 * β + k ∨ i = 200 + 12 * β + k) M1 M2 := F2.fb fun i j z => by simp only [aP, aC, q] at z; exact z
    rw [wp_lt, i_addL]
    refine ih M2 ⟨F.tr (F2'.up fun i j z => by unfold cbK; omega), fun m hm => ?_⟩
    by_cases e : m = k
    · rw [e]; exact p2
    · exact (hp m (by omega)).fb F2' fun j => by omega
  · intro n M1 ⟨F, hp⟩
    simp only [lp_X0_copyFrom_2]
    rw [if_pos (by decide), wp_some]
    exact ⟨F, hp⟩
  rintro ⟨v, M1⟩ ⟨F, hp⟩
  rw [wp_bind]
  refine loopW (fun n k s => lp_X0_copyFrom_44 h (aB B β) (aB B β') n (Int32.ofNat k) s) 12 (fun k M' => FB B (cbK β) M M' ∧ PRs M' B β G ∧ ∀ m, m < k → DR M' B β m G m) _ ?_ ?_ fuel 0 M1 (by omega) (by unfold fuel; omega) ⟨F, hp, by omega⟩
  · intro n k M1 hk ⟨F, hp, hd⟩ ih
    have sd := s.2.2.2.2.2.2.2.2.2.2 k hk
    have sd' := s'.2.2.2.2.2.2.2.2.2.2 k hk
    simp only [lp_X0_copyFrom_44]
    rw [if_neg (by rw [i_Lle (by omega) (by simp)]; simp; omega)]
    simp only [gd, ok, s.1, s'.1, and_self, if_true, x_detailAt s hk, x_detailAt s' hk, b_some, mq, sd.1]
    rw [wp_bind]
    refine (x_copyD hB sd sd' (by omega) (by omega) (by omega) (w.2 k hk) ((r2 k hk).fb F fun i j => by unfold cbK; rcases (show (β = 0 ∧ β' = 1) ∨ (β = 1 ∧ β' = 0) by omega) with ⟨rfl, rfl⟩ | ⟨rfl, rfl⟩ <;> omega)).mono ?_
    rintro M2 ⟨F2, p2⟩
    rw [wp_lt, i_addL]
    refine ih M2 ⟨F.tr (F2.up fun i j z => by unfold cbK; omega), fun m hm => (hp m hm).fb F2 fun j => by omega, fun m hm => ?_⟩
    by_cases e : m = k
    · rw [e]; exact p2
    · exact (hd m (by omega)).fb F2 fun i j => by omega
  · intro n M1 ⟨F, hp, hd⟩
    simp only [lp_X0_copyFrom_44]
    rw [if_pos (by decide), wp_some, wp_some]
    exact ⟨F, hp, hd⟩
theorem x_forget (hB : ∀ i j, B i = B j → i = j) (x0 : ok h (B 0) 8) : wp (f_X8_forgetUndo h (B 0) M) (fun M' => FB B (fun i j => i = 0 ∧ (j = 8 ∨ j = 9)) M M' ∧ zI M' (B 0) 8 = -1 ∧ zI M' (B 0) 9 = -1) := by
  unfold f_X8_forgetUndo
  rw [wp_gd]
  refine ⟨x0, ?_⟩
  rw [wp_lt, wp_lt, wp_some]
  exact ⟨(FB.rf.sI hB ⟨rfl, Or.inl rfl⟩).sI hB ⟨rfl, Or.inr rfl⟩, by simp [zI_sI], by simp [zI_sI]⟩
/-- behind an undo or a going back: the reference's row is X (A k's) -/
theorem Inv.back {M1' M2' : Mm} {k : Nat} (V : Inv h1 M1 h2 M2 B A pic) (hk : k = 2 ∨ k = 3) (w : WF (zI M2 (A k)))
    (F1 : FB B (fun i j => cbK 0 i j ∨ (i = 0 ∧ (j = 8 ∨ j = 9))) M1 M1') (u8 : zI M1' (B 0) 8 = -1) (u9 : zI M1' (B 0) 9 = -1)
    (F2 : FB A (fun i j => i = 1 ∨ (i = 0 ∧ (j = 4 ∨ j = 0))) M2 M2') (hw : ∀ i, i < 5328 → zI M2' (A 1) i = zI M2 (A k) i) (hc : zI M2' (A 0) 4 = 0)
    (hp : PRs M1' B 0 (zI M2 (A k))) (hd : DRs M1' B 0 (zI M2 (A k))) : Inv h1 M1' h2 M2' B A pic := by
  obtain ⟨V1, V2, V3, V4, V5, V6, -, V8⟩ := V
  have e3 : zI M2' (A 3) = zI M2 (A 3) := funext fun j => F2.i (by omega)
  have e5 : zI M2' (A 0) 5 = zI M2 (A 0) 5 := F2.i (by omega)
  refine ⟨V1, V2, w.cg hw, hp.cg w hw, hd.cg w hw, V6.cg F1 F2 (fun j => by unfold cbK; omega) (fun j => by omega), Or.inl ⟨u8, u9, hc⟩, ?_⟩
  unfold IM
  rw [e3, e5]
  rcases V8 with z | ⟨z1, z2, z3, z4, z5⟩
  · exact Or.inl z
  · exact Or.inr ⟨z1, z2, z3, fun m a => (z4 m a).fb F1 fun j => by unfold cbK; omega, fun m a => (z5 m a).fb F1 fun i j => by unfold cbK; omega⟩
theorem t_undo (V : Inv h1 M1 h2 M2 B A pic) : Sim (f_X8_undo h1 (B 0) M1) (f_X9_undo h2 (A 0) M2) h1 h2 B A pic := by
  have V0 := V.t0
  have S1 := V.1
  have S2 := V.2.1
  have s := S2.s
  have q := S2.e
  have hB := S1.1
  have qB : ∀ i j, (B i = B j) = (i = j) := fun i j => propext ⟨hB i j, fun e => by rw [e]⟩
  obtain ⟨x0, -, x1, -, -, -, x6, x7, -⟩ := S1.2.1
  have sb := S1.2.2.2.1
  have spb := S1.2.2.2.2.1
  have sdb := S1.2.2.2.2.2.1
  have e4 : zI (sI M2 (A 0) 0 0) (A 0) 4 = zI M2 (A 0) 4 := by simp [zI_sI]
  have o1 : ok h2 (A 1) 11 := by simp only [ok, s, and_self]
  have o2 : ok h2 (A 2) 11 := by simp only [ok, s, and_self]
  have nb : ¬ (0 ≤ (-1 : Int32) ∧ (-1 : Int32) < 12) := by decide
  have R : zI M2 (A 0) 4 = 1 → wp (f_X9_undo h2 (A 0) M2) (fun z => z.1 = 1 ∧ FB A (fun i j => i = 1 ∨ (i = 0 ∧ (j = 4 ∨ j = 0))) M2 z.2 ∧ (∀ i, i < 5328 → zI z.2 (A 1) i = zI M2 (A 2) i) ∧ zI z.2 (A 0) 4 = 0) := by
    intro z4
    unfold f_X9_undo
    rw [wp_gd]
    refine ⟨s.1, ?_⟩
    rw [wp_lt, e4, z4, if_pos (show ¬ (1 : Int32) = 0 by decide), show zR h2 (A 0) 2 = some (A 2) by simp only [s], wp_dq, show zR h2 (A 0) 1 = some (A 1) by simp only [s], wp_dq, wp_bind]
    refine (r_copy o2 o1 (by simp only [s]) (by simp only [s]) (by simp [q])).mono ?_
    rintro M3 ⟨F, hv⟩
    rw [wp_lt, wp_some]
    have F' : FB A (fun i j => i = 1 ∨ (i = 0 ∧ (j = 4 ∨ j = 0))) M2 M3 := (FB.rf.sI (a := 0) S2.2 (Or.inr ⟨rfl, Or.inr rfl⟩) : FB A (fun i j => i = 1 ∨ (i = 0 ∧ (j = 4 ∨ j = 0))) M2 (sI M2 (A 0) 0 0)).tr (F.fb fun i j z => Or.inl (by simpa [q] using z))
    refine ⟨rfl, F'.sI S2.2 (Or.inr ⟨rfl, Or.inl rfl⟩), fun i hi => ?_, by simp [zI_sI]⟩
    show zI (sI M3 (A 0) 4 0) (A 1) i = _
    rw [zI_sI, if_neg (by simp [q]), hv i hi]
    simp [zI_sI, q]
  rcases V.2.2.2.2.2.2.1 with ⟨z8, z9, z4⟩ | ⟨n, hn, z8, z9, z4, zw, zp, zq, zd⟩ | ⟨n, hn, z9, z8, z4, zw, zp, zq, zd⟩
  · unfold f_X8_undo f_X9_undo
    simp only [gd, ok, x0, x1, dq, sb.1, s, and_self, if_true, z8, z9, x_placeB sb nb, x_detailB sb nb, b_some, mq, lt_, e4, z4, not_true_eq_false, if_false]
    unfold Sim
    rw [wp_bind]
    refine (x_forget hB x0).mono ?_
    rintro M1' ⟨F, u8, u9⟩
    rw [wp_some, wp_some]
    refine ⟨rfl, ?_⟩
    obtain ⟨V1, V2, V3, V4, V5, V6, V7, V8⟩ := V0
    refine ⟨V1, V2, V3, fun m a => (V4 m a).fb F fun j => by omega, fun m a => (V5 m a).fb F fun i j => by omega, V6.cg (K2 := fun _ _ => False) F FB.rf (fun j => by omega) (fun j => by simp), Or.inl ⟨u8, u9, by rw [e4]; exact z4⟩, ?_⟩
    rcases V8 with z | ⟨y1, y2, y3, y4, y5⟩
    · exact Or.inl z
    · exact Or.inr ⟨y1, y2, y3, fun m a => (y4 m a).fb F fun j => by omega, fun m a => (y5 m a).fb F fun i j => by omega⟩
  · have sp := sb.2.2.2.2.2.2.2.2.2.1 n hn
    unfold f_X8_undo
    simp only [gd, ok, x0, x1, dq, sb.1, and_self, if_true, z8, z9, x_placeAt sb hn, x_detailB sb nb, b_some, mq, x6, sp]
    unfold Sim
    rw [wp_bind]
    refine (x_copyP (n := n) sp spb (by simp only [aP, ne_eq, qB]; omega) (by simp only [aC, ne_eq, qB]; omega) (zw.1 n hn) zp).mono ?_
    rintro M3 ⟨F3, p3, -, -⟩
    have F3' : FB B (fun i _ => i = 100 + n ∨ i = 200 + n) M1 M3 := F3.fb fun i j z => by simp only [aP, aC, qB] at z; omega
    rw [wp_bind]
    refine (x_forget hB x0).mono ?_
    rintro M4 ⟨F4, u8, u9⟩
    rw [wp_some]
    refine (R z4).mono ?_
    rintro ⟨v, M5⟩ ⟨hv, F5, hw, hc⟩
    refine ⟨hv.symm, V.back (Or.inl rfl) zw ((F3'.up fun i j z => by unfold cbK; omega).tr (F4.up fun i j z => by omega)) u8 u9 F5 hw hc (fun m a => ?_) (fun m a => ((zd m a).fb F3' fun i j => by omega).fb F4 fun i j => by omega)⟩
    by_cases e : m = n
    · rw [e]; exact p3.fb F4 fun j => by omega
    · exact ((zq m a e).fb F3' fun j => by omega).fb F4 fun j => by omega
  · have sd := sb.2.2.2.2.2.2.2.2.2.2 n hn
    unfold f_X8_undo
    simp only [gd, ok, x0, x1, dq, sb.1, and_self, if_true, z8, z9, x_placeB sb nb, x_detailAt sb hn, b_some, mq, x7, sd.1]
    unfold Sim
    rw [wp_bind]
    refine (x_copyD (β := 0) (t := n) (β' := 2) (t' := 0) hB sd sdb (by omega) (by omega) (by omega) (zw.2 n hn) zq).mono ?_
    rintro M3 ⟨F3, p3⟩
    rw [wp_bind]
    refine (x_forget hB x0).mono ?_
    rintro M4 ⟨F4, u8, u9⟩
    rw [wp_some]
    refine (R z4).mono ?_
    rintro ⟨v, M5⟩ ⟨hv, F5, hw, hc⟩
    refine ⟨hv.symm, V.back (Or.inl rfl) zw ((F3.up fun i j z => by unfold cbK; omega).tr (F4.up fun i j z => by omega)) u8 u9 F5 hw hc (fun m a => ((zp m a).fb F3 fun j => by omega).fb F4 fun j => by omega) (fun m a => ?_)⟩
    by_cases e : m = n
    · rw [e]; exact p3.fb F4 fun i j => by omega
    · exact ((zd m a e).fb F3 fun i j => by omega).fb F4 fun i j => by omega
theorem t_again (V : Inv h1 M1 h2 M2 B A pic) : Sim (f_X8_again h1 (B 0) M1) (f_X9_again h2 (A 0) M2) h1 h2 B A pic := by
  have V0 := V.t0
  have S1 := V.1
  have S2 := V.2.1
  have s := S2.s
  have q := S2.e
  have hB := S1.1
  obtain ⟨x0, -, x1, -⟩ := S1.2.1
  have sb := S1.2.2.2.1
  have e5 : zI (sI M2 (A 0) 0 0) (A 0) 5 = zI M2 (A 0) 5 := by simp [zI_sI]
  have o1 : ok h2 (A 1) 11 := by simp only [ok, s, and_self]
  have o3 : ok h2 (A 3) 11 := by simp only [ok, s, and_self]
  rcases S1.2.2.2.2.2.2 with ⟨np, r5⟩ | ⟨yp, r5, sb1⟩
  · rcases V.2.2.2.2.2.2.2 with ⟨-, z5⟩ | ⟨z, -⟩
    · unfold f_X8_again f_X9_again
      simp only [gd, ok, x0, r5, and_self, if_true, mq, s, lt_, e5, z5, not_true_eq_false, if_false]
      exact wp_some.mpr (wp_some.mpr ⟨rfl, V0⟩)
    · exact absurd z np
  · rcases V.2.2.2.2.2.2.2 with ⟨z, -⟩ | ⟨-, z5, zw, zp, zd⟩
    · exact absurd yp z
    · unfold f_X8_again f_X9_again
      simp only [gd, ok, x0, x1, r5, and_self, if_true, mq, dq, sb.1, s, lt_, e5, z5]
      unfold Sim
      rw [wp_bind]
      refine (x_copyB hB sb sb1 (by omega) (by omega) (by omega) zw zp zd).mono ?_
      rintro M3 ⟨F3, p3, d3⟩
      rw [wp_bind]
      refine (x_forget hB x0).mono ?_
      rintro M4 ⟨F4, u8, u9⟩
      rw [wp_some, if_pos (show ¬ (1 : Int32) = 0 by decide), wp_bind]
      refine (r_copy o3 o1 (by simp only [s]) (by simp only [s]) (by simp [q])).mono ?_
      rintro M5 ⟨F, hv⟩
      rw [wp_some]
      have F' : FB A (fun i j => i = 1 ∨ (i = 0 ∧ (j = 4 ∨ j = 0))) M2 M5 := (FB.rf.sI (a := 0) S2.2 (Or.inr ⟨rfl, Or.inr rfl⟩) : FB A (fun i j => i = 1 ∨ (i = 0 ∧ (j = 4 ∨ j = 0))) M2 (sI M2 (A 0) 0 0)).tr (F.fb fun i j z => Or.inl (by simpa [q] using z))
      refine ⟨rfl, V.back (k := 3) (Or.inr rfl) zw ((F3.up fun i j z => Or.inl z).tr (F4.up fun i j z => Or.inr z)) u8 u9 (F'.sI S2.2 (Or.inr ⟨rfl, Or.inl rfl⟩)) (fun i hi => ?_) (by simp [zI_sI]) (fun m a => (p3 m a).fb F4 fun j => by omega) (fun m a => (d3 m a).fb F4 fun i j => by omega)⟩
      rw [zI_sI, if_neg (by simp [q]), hv i hi]
      simp [zI_sI, q]
theorem r_image (S2 : Sh2 h2 A) (hv : zI M2 (A 0) 5 = 0 ∨ zI M2 (A 0) 5 = 1) : wp (f_X9_image h2 (A 0) M2) (fun z => z.1 = zI M2 (A 0) 5 ∧ FB A (fun i j => i = 3 ∨ (i = 0 ∧ (j = 5 ∨ j = 0))) M2 z.2 ∧ (∀ i, i < 5328 → zI z.2 (A 3) i = zI M2 (A 1) i) ∧ zI z.2 (A 0) 5 = 1) := by
  have s := S2.s
  have q := S2.e
  have e5 : zI (sI M2 (A 0) 0 0) (A 0) 5 = zI M2 (A 0) 5 := by simp [zI_sI]
  have o1 : ok h2 (A 1) 11 := by simp only [ok, s, and_self]
  have o3 : ok h2 (A 3) 11 := by simp only [ok, s, and_self]
  unfold f_X9_image
  rw [wp_gd]
  refine ⟨s.1, ?_⟩
  rw [wp_lt, wp_lt, e5, show zR h2 (A 0) 1 = some (A 1) by simp only [s], wp_dq, show zR h2 (A 0) 3 = some (A 3) by simp only [s], wp_dq, wp_bind]
  refine (r_copy o1 o3 (by simp only [s]) (by simp only [s]) (by simp [q])).mono ?_
  rintro M5 ⟨F, hw⟩
  rw [wp_lt, wp_gd]
  refine ⟨hv, ?_⟩
  rw [wp_some]
  have F' : FB A (fun i j => i = 3 ∨ (i = 0 ∧ (j = 5 ∨ j = 0))) M2 M5 := (FB.rf.sI (a := 0) S2.2 (Or.inr ⟨rfl, Or.inr rfl⟩) : FB A (fun i j => i = 3 ∨ (i = 0 ∧ (j = 5 ∨ j = 0))) M2 (sI M2 (A 0) 0 0)).tr (F.fb fun i j z => Or.inl (by simpa [q] using z))
  refine ⟨rfl, F'.sI S2.2 (Or.inr ⟨rfl, Or.inl rfl⟩), fun i hi => ?_, by simp [zI_sI]⟩
  show zI (sI M5 (A 0) 5 1) (A 3) i = _
  rw [zI_sI, if_neg (by simp [q]), hw i hi]
  simp [zI_sI, q]
/-- behind the making of an image -/
theorem Inv.pict {h1' : Hs} {M1' M2' : Mm} (V : Inv h1 M1 h2 M2 B A pic) (S1' : Sh1 h1' B True) (F1 : FB B (fun i j => cbK 1 i j ∨ i = 21 ∨ i = 23 ∨ i = 25 ∨ (i = 0 ∧ j < 8)) M1 M1')
    (F2 : FB A (fun i j => i = 3 ∨ (i = 0 ∧ (j = 5 ∨ j = 0))) M2 M2') (hw : ∀ i, i < 5328 → zI M2' (A 3) i = zI M2 (A 1) i) (hc : zI M2' (A 0) 5 = 1)
    (hp : PRs M1' B 1 (zI M2 (A 1))) (hd : DRs M1' B 1 (zI M2 (A 1))) : Inv h1' M1' h2 M2' B A True := by
  obtain ⟨V1, V2, V3, V4, V5, V6, V7, V8⟩ := V
  have e1 : zI M2' (A 1) = zI M2 (A 1) := funext fun j => F2.i (by omega)
  have e2 : zI M2' (A 2) = zI M2 (A 2) := funext fun j => F2.i (by omega)
  have e4 : zI M2' (A 0) 4 = zI M2 (A 0) 4 := F2.i (by omega)
  have g8 : zI M1' (B 0) 8 = zI M1 (B 0) 8 := F1.i (by unfold cbK; omega)
  have g9 : zI M1' (B 0) 9 = zI M1 (B 0) 9 := F1.i (by unfold cbK; omega)
  have pr : ∀ {m n : Nat} {I : Nat → Int32}, m < 12 → PR M1 (aP B 0 m) (aC B 0 m) I n → PR M1' (aP B 0 m) (aC B 0 m) I n := fun a r => r.fb F1 fun j => by unfold cbK; omega
  have pr2 : ∀ {n : Nat} {I : Nat → Int32}, PR M1 (aP B 2 0) (aC B 2 0) I n → PR M1' (aP B 2 0) (aC B 2 0) I n := fun r => r.fb F1 fun j => by unfold cbK; omega
  have dr : ∀ {m n : Nat} {I : Nat → Int32}, m < 12 → DR M1 B 0 m I n → DR M1' B 0 m I n := fun a r => r.fb F1 fun i j => by unfold cbK; omega
  have dr2 : ∀ {n : Nat} {I : Nat → Int32}, DR M1 B 2 0 I n → DR M1' B 2 0 I n := fun r => r.fb F1 fun i j => by unfold cbK; omega
  refine ⟨S1', V2, by rw [e1]; exact V3, by rw [e1]; exact fun n hn => pr hn (V4 n hn), by rw [e1]; exact fun n hn => dr hn (V5 n hn), V6.cg F1 F2 (fun j => by unfold cbK; omega) (fun j => by omega), ?_, Or.inr ⟨trivial, hc, V3.cg hw, hp.cg V3 hw, hd.cg V3 hw⟩⟩
  unfold UN
  rw [e2, e4, g8, g9]
  rcases V7 with z | ⟨n, z1, z2, z3, z4, z5, z6, z7, z8⟩ | ⟨n, z1, z2, z3, z4, z5, z6, z7, z8⟩
  · exact Or.inl z
  · exact Or.inr (Or.inl ⟨n, z1, z2, z3, z4, z5, pr2 z6, fun m a b => pr a (z7 m a b), fun m a => dr a (z8 m a)⟩)
  · exact Or.inr (Or.inr ⟨n, z1, z2, z3, z4, z5, fun m a => pr a (z6 m a), dr2 z7, fun m a b => dr a (z8 m a b)⟩)
theorem t_image1 (V : Inv h1 M1 h2 M2 B A True) : wp (f_X8_image1 h1 (B 0) (aB B 1) M1) (fun z => wp (f_X9_image h2 (A 0) M2) (fun z' => z'.1 = 1 ∧ Inv h1 z h2 z'.2 B A True)) := by
  have S1 := V.1
  have S2 := V.2.1
  have hB := S1.1
  obtain ⟨x0, -, x1, -⟩ := S1.2.1
  have sb := S1.2.2.2.1
  rcases S1.2.2.2.2.2.2 with ⟨np, -⟩ | ⟨-, r5, sb1⟩
  · exact absurd trivial np
  · rcases V.2.2.2.2.2.2.2 with ⟨z, -⟩ | ⟨-, z5, -⟩
    · exact absurd trivial z
    · unfold f_X8_image1
      rw [wp_gd]
      refine ⟨x0, ?_⟩
      rw [x1, wp_dq, wp_gd]
      refine ⟨sb1.1, ?_⟩
      rw [wp_bind]
      refine (x_copyB hB sb1 sb (by omega) (by omega) (by omega) V.2.2.1 V.2.2.2.1 V.2.2.2.2.1).mono ?_
      rintro M3 ⟨F3, p3, d3⟩
      rw [wp_some]
      refine (r_image S2 (Or.inr z5)).mono ?_
      rintro ⟨v, M4⟩ ⟨hv, F4, hw, hc⟩
      exact ⟨hv.trans z5, V.pict S1 (F3.up fun i j z => Or.inl z) F4 hw hc p3 d3⟩
end CB
