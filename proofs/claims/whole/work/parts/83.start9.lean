/-! THE START: the reference -/
def Ar (h0 : Hs) (I0 : Nat → Int32) (a0 k0 : Nat) (ks : List (Nat × Nat × Nat)) (h : Hs) (M : Mm) : Prop :=
  (∃ L, zL h = zL h0 ++ L ∧ L.length = ks.length) ∧ (zL h).Nodup ∧ ok h a0 k0 ∧ zI M a0 = I0 ∧ ∀ i t, ks[i]? = some t → zR h a0 t.1 = some (at_ h ((zL h0).length + i)) ∧ ok h (at_ h ((zL h0).length + i)) t.2.1 ∧ zN h (at_ h ((zL h0).length + i)) = t.2.2 ∧ zI M (at_ h ((zL h0).length + i)) = fun _ => 0
theorem Ar.step {h0 h : Hs} {I0 : Nat → Int32} {M : Mm} {a0 k0 q j k n : Nat} {ks : List (Nat × Nat × Nat)} (s : Ar h0 I0 a0 k0 ks h M) (hq : q ∉ zL h) (hj : ∀ t ∈ ks, t.1 ≠ j) : Ar h0 I0 a0 k0 (ks ++ [(j, k, n)]) (setR (nh h q k n) a0 j (some q)) (nm M q) := by
  obtain ⟨⟨L, eL, lL⟩, nd, g, e0, hv⟩ := s
  have n0 : a0 ≠ q := fun z => hq (z ▸ g.1)
  have len : (zL h).length = (zL h0).length + ks.length := by rw [eL, List.length_append, lL]
  have eZ : zL (setR (nh h q k n) a0 j (some q)) = zL h ++ [q] := by rw [setR_L, nh_L]
  refine ⟨⟨L ++ [q], by rw [eZ, eL, List.append_assoc], by simp [lL]⟩, by rw [eZ]; exact nd_push nd hq, ok_setR (ok_nh hq g), by rw [nm_In n0, e0], fun i t ht => ?_⟩
  by_cases hi : i < ks.length
  · rw [List.getElem?_append_left hi] at ht
    obtain ⟨r1, r2, r3, r4⟩ := hv i t ht
    have ne : at_ h ((zL h0).length + i) ≠ q := fun z => hq (z ▸ r2.1)
    rw [at_app eZ (by omega)]
    refine ⟨?_, ok_setR (ok_nh hq r2), ?_, by rw [nm_In ne]; exact r4⟩
    · rw [zR_at]
      simp only [va_up, hj t (List.mem_of_getElem? ht), if_false]
      rw [nh_Rn n0]; exact r1
    · show zN (nh h q k n) _ = _
      rw [nh_Nn ne]; exact r3
  · have hi2 := (List.getElem?_eq_some_iff.mp ht).1
    simp only [List.length_append, List.length_singleton] at hi2
    have ei : i = ks.length := by omega
    subst ei
    rw [List.getElem?_append_right (Nat.le_refl _), Nat.sub_self] at ht
    have et : (j, k, n) = t := Option.some.inj ht
    subst et
    have ea : at_ (setR (nh h q k n) a0 j (some q)) ((zL h0).length + ks.length) = q := by
      have := at_new (p := 0) eZ
      rw [len] at this
      exact this
    rw [ea]
    refine ⟨by rw [zR_at]; simp [va_up], ok_setR nh_ok, nh_N (k := k), nm_I⟩
theorem Ar.rf {h : Hs} {I0 : Nat → Int32} {M : Mm} {a0 k0 : Nat} (g : ok h a0 k0) (nd : (zL h).Nodup) (e : zI M a0 = I0) : Ar h I0 a0 k0 [] h M :=
  ⟨⟨[], by simp, rfl⟩, nd, g, e, fun i t ht => by simp at ht⟩
def k9 : List (Nat × Nat × Nat) := [(1, 11, 5328), (2, 11, 5328), (3, 11, 5328), (6, 10, 400), (8, 11, 400), (9, 11, 400), (10, 11, 400), (13, 11, 200), (14, 11, 200), (15, 11, 200), (17, 13, 400), (18, 11, 400), (20, 12, 7)]
theorem start9_ar {h : Hs} {M : Mm} {u : Hs × Mm} {a0 : Nat} (hn : n_X9_init h a0 M u) (g : ok h a0 9) (nd : (zL h).Nodup) : ∃ M', Ar h (zI M a0) a0 9 k9 u.1 M' ∧ ∃ z, lp_X9_init_122 u.1 a0 fuel (0 : Int32) M' = some z ∧ u.2 = z.2 := by
  obtain ⟨q1, c1, h2, eh2, M3, eM3, h4, eh4, q5, c5, h6, eh6, M7, eM7, h8, eh8, q9, c9, h10, eh10, M11, eM11, h12, eh12, q13, c13, h14, eh14, M15, eM15, h16, eh16, q17, c17, h18, eh18, M19, eM19, h20, eh20, q21, c21, h22, eh22, M23, eM23, h24, eh24, q25, c25, h26, eh26, M27, eM27, h28, eh28, q29, c29, h30, eh30, M31, eM31, h32, eh32, q33, c33, h34, eh34, M35, eM35, h36, eh36, q37, c37, h38, eh38, M39, eM39, h40, eh40, q41, c41, h42, eh42, M43, eM43, h44, eh44, q45, c45, h46, eh46, M47, eM47, h48, eh48, q49, c49, h50, eh50, M51, eM51, h52, eh52, z, hz, rfl⟩ := hn
  have s := Ar.rf (M := M) g nd rfl
  have s : Ar h (zI M a0) a0 9 [(1, 11, 5328)] h4 M3 := by rw [eh4, eh2, eM3]; exact s.step (j := 1) (k := 11) (n := 5328) c1 (by decide)
  have s : Ar h (zI M a0) a0 9 [(1, 11, 5328), (2, 11, 5328)] h8 M7 := by rw [eh8, eh6, eM7]; exact s.step (j := 2) (k := 11) (n := 5328) c5 (by decide)
  have s : Ar h (zI M a0) a0 9 [(1, 11, 5328), (2, 11, 5328), (3, 11, 5328)] h12 M11 := by rw [eh12, eh10, eM11]; exact s.step (j := 3) (k := 11) (n := 5328) c9 (by decide)
  have s : Ar h (zI M a0) a0 9 [(1, 11, 5328), (2, 11, 5328), (3, 11, 5328), (6, 10, 400)] h16 M15 := by rw [eh16, eh14, eM15]; exact s.step (j := 6) (k := 10) (n := 400) c13 (by decide)
  have s : Ar h (zI M a0) a0 9 [(1, 11, 5328), (2, 11, 5328), (3, 11, 5328), (6, 10, 400), (8, 11, 400)] h20 M19 := by rw [eh20, eh18, eM19]; exact s.step (j := 8) (k := 11) (n := 400) c17 (by decide)
  have s : Ar h (zI M a0) a0 9 [(1, 11, 5328), (2, 11, 5328), (3, 11, 5328), (6, 10, 400), (8, 11, 400), (9, 11, 400)] h24 M23 := by rw [eh24, eh22, eM23]; exact s.step (j := 9) (k := 11) (n := 400) c21 (by decide)
  have s : Ar h (zI M a0) a0 9 [(1, 11, 5328), (2, 11, 5328), (3, 11, 5328), (6, 10, 400), (8, 11, 400), (9, 11, 400), (10, 11, 400)] h28 M27 := by rw [eh28, eh26, eM27]; exact s.step (j := 10) (k := 11) (n := 400) c25 (by decide)
  have s : Ar h (zI M a0) a0 9 [(1, 11, 5328), (2, 11, 5328), (3, 11, 5328), (6, 10, 400), (8, 11, 400), (9, 11, 400), (10, 11, 400), (13, 11, 200)] h32 M31 := by rw [eh32, eh30, eM31]; exact s.step (j := 13) (k := 11) (n := 200) c29 (by decide)
  have s : Ar h (zI M a0) a0 9 [(1, 11, 5328), (2, 11, 5328), (3, 11, 5328), (6, 10, 400), (8, 11, 400), (9, 11, 400), (10, 11, 400), (13, 11, 200), (14, 11, 200)] h36 M35 := by rw [eh36, eh34, eM35]; exact s.step (j := 14) (k := 11) (n := 200) c33 (by decide)
  have s : Ar h (zI M a0) a0 9 [(1, 11, 5328), (2, 11, 5328), (3, 11, 5328), (6, 10, 400), (8, 11, 400), (9, 11, 400), (10, 11, 400), (13, 11, 200), (14, 11, 200), (15, 11, 200)] h40 M39 := by rw [eh40, eh38, eM39]; exact s.step (j := 15) (k := 11) (n := 200) c37 (by decide)
  have s : Ar h (zI M a0) a0 9 [(1, 11, 5328), (2, 11, 5328), (3, 11, 5328), (6, 10, 400), (8, 11, 400), (9, 11, 400), (10, 11, 400), (13, 11, 200), (14, 11, 200), (15, 11, 200), (17, 13, 400)] h44 M43 := by rw [eh44, eh42, eM43]; exact s.step (j := 17) (k := 13) (n := 400) c41 (by decide)
  have s : Ar h (zI M a0) a0 9 [(1, 11, 5328), (2, 11, 5328), (3, 11, 5328), (6, 10, 400), (8, 11, 400), (9, 11, 400), (10, 11, 400), (13, 11, 200), (14, 11, 200), (15, 11, 200), (17, 13, 400), (18, 11, 400)] h48 M47 := by rw [eh48, eh46, eM47]; exact s.step (j := 18) (k := 11) (n := 400) c45 (by decide)
  have s : Ar h (zI M a0) a0 9 [(1, 11, 5328), (2, 11, 5328), (3, 11, 5328), (6, 10, 400), (8, 11, 400), (9, 11, 400), (10, 11, 400), (13, 11, 200), (14, 11, 200), (15, 11, 200), (17, 13, 400), (18, 11, 400), (20, 12, 7)] h52 M51 := by rw [eh52, eh50, eM51]; exact s.step (j := 20) (k := 12) (n := 7) c49 (by decide)
  exact ⟨_, s, z, hz, rfl⟩
/-- what the reference's books say at the start -/
def WF0 (I : Nat → Int32) : Prop := (∀ n, n < 12 → I (404 * n) = -1 ∧ I (4848 + 40 * n) = -1 ∧ I (4848 + 40 * n + 26) = -1) ∧ ∀ j, (∀ n, n < 12 → j ≠ 404 * n ∧ j ≠ 4848 + 40 * n ∧ j ≠ 4848 + 40 * n + 26) → I j = 0
theorem WF0.WF {I : Nat → Int32} (w : WF0 I) : WF I := by
  obtain ⟨w1, w2⟩ := w
  refine ⟨fun n hn => ⟨?_, fun e => ?_, 0, by omega, w2 _ fun m hm => by omega, fun k hk => by omega⟩, fun d hd => ⟨Or.inl (w1 d hd).2.1, ⟨0, by omega, w2 _ fun m hm => by omega⟩, ⟨0, by omega, w2 _ fun m hm => by omega, fun j hj => by omega⟩, ⟨0, by omega, w2 _ fun m hm => by omega, fun j hj => by omega⟩, ?_, ?_, ?_, ?_, ⟨0, by omega, w2 _ fun m hm => by omega, fun j hj => by omega⟩⟩⟩
  · rw [(w1 n hn).1]; decide
  · rw [(w1 n hn).1] at e; exact absurd e (by decide)
  · rw [w2 (4848 + 40 * d + 24) fun m hm => by omega]; decide
  · rw [w2 (4848 + 40 * d + 25) fun m hm => by omega]; decide
  · rw [(w1 d hd).2.2]; decide
  · rw [w2 (4848 + 40 * d + 27) fun m hm => by omega]; decide
theorem r_init9 {h : Hs} {A : Nat → Nat} {M : Mm} (S : Sh2 h A) (e : zI M (A 1) = fun _ => 0) : wp (lp_X9_init_122 h (A 0) fuel (0 : Int32) M) (fun z => FB A (fun i _ => i = 1) M z.2 ∧ WF0 (zI z.2 (A 1))) := by
  have s := S.s
  have q := S.e
  refine (loopW (fun m i (t : Mm) => lp_X9_init_122 h (A 0) m (Int32.ofNat i) t) 12 (fun k t => FB A (fun i _ => i = 1) M t ∧ (∀ n, n < k → zI t (A 1) (404 * n) = -1 ∧ zI t (A 1) (4848 + 40 * n) = -1 ∧ zI t (A 1) (4848 + 40 * n + 26) = -1) ∧ ∀ j, (∀ n, n < k → j ≠ 404 * n ∧ j ≠ 4848 + 40 * n ∧ j ≠ 4848 + 40 * n + 26) → zI t (A 1) j = 0) _ ?_ ?_ fuel 0 M (by omega) (by unfold fuel; omega) ⟨FB.rf, fun n hn => by omega, fun j _ => by rw [e]⟩)
  · rintro m k t hk ⟨F, hv, hz⟩ ih
    have f1 : 404 * k < 5328 := by omega
    have f2 : 4848 + 40 * k < 5328 := by omega
    have f3 : 4848 + 40 * k + 26 < 5328 := by omega
    simp only [lp_X9_init_122]
    rw [if_neg (by rw [i_Lle (by omega) (by simp)]; simp; omega)]
    simp (disch := omega) only [dq, gd, ok, s, and_self, if_true, i_mulL, i_Ladd, i_addL, i_inb, f1, f2, f3, i_nat, lt_, Nat.add_zero]
    refine ih _ ⟨((F.sI S.2 rfl).sI S.2 rfl).sI S.2 rfl, fun n hn => ?_, fun j hj => ?_⟩
    · simp only [zI_sI, q]
      by_cases en : n = k
      · subst en
        refine ⟨?_, ?_, ?_⟩ <;> simp
      · obtain ⟨y1, y2, y3⟩ := hv n (by omega)
        rw [y1, y2, y3]
        simp
    · have hk' := hj k (by omega)
      simp only [zI_sI, q]
      rw [if_neg (fun z => hk'.2.2 z.2), if_neg (fun z => hk'.2.1 z.2), if_neg (fun z => hk'.1 z.2)]
      exact hz j fun n hn => hj n (by omega)
  · rintro m t ⟨F, hv, hz⟩
    simp only [lp_X9_init_122]
    rw [if_pos (by decide), wp_some]
    exact ⟨F, hv, hz⟩
