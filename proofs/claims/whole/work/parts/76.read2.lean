/-! CALLS: read, whole -/
section R
variable {h h1 h2 : Hs} {B A : Nat → Nat} {M M0 M1 M2 : Mm} {pic : Prop} {p q : Int32}
theorem t_read (V : Inv h1 M1 h2 M2 B A pic) : Sim (f_X8_read h1 (B 0) p q M1) (f_X9_read h2 (A 0) p q M2) h1 h2 B A pic := by
  have S1 := V.1
  have S2 := V.2.1
  have s := S2.s
  have qA := S2.e
  have hB := S1.1
  obtain ⟨x0, xt, x1, -⟩ := S1.2.1
  obtain ⟨o1, r1, o2, n2⟩ := S1.2.1.2.2.2.2.2.2.2.2.1
  have sb := S1.2.2.2.1
  have W := V.2.2.1
  obtain ⟨u, hu, eu1, eu2, hf⟩ := V.2.2.2.2.2.1
  have eI : zI (sI (sI M2 (A 0) 0 0) (A 0) 7 0) (A 1) = zI M2 (A 1) := funext fun j => by simp [zI_sI, qA]
  have F0 : FB A (fun i j => i = 0 ∧ (j = 0 ∨ j = 7)) M2 (sI (sI M2 (A 0) 0 0) (A 0) 7 0) := (FB.rf.sI S2.2 ⟨rfl, Or.inl rfl⟩).sI S2.2 ⟨rfl, Or.inr rfl⟩
  have eu2' : zI (sI M2 (A 0) 0 0) (A 0) 7 = Int32.ofNat u := by simpa [zI_sI] using eu2
  have fin : ∀ v : Int32, wp (some (v, sI M1 (B 1) 1 0)) fun z => wp (some (v, sI (sI M2 (A 0) 0 0) (A 0) 7 0)) fun z' => z.1 = z'.1 ∧ Inv h1 z.2 h2 z'.2 B A pic := by
    intro v
    refine wp_some.mpr (wp_some.mpr ⟨rfl, V.scr (FB.rf.sI (a := 1) hB (by omega)) (F0.up fun i j z => by omega) ⟨0, by omega, by simp [zI_sI], ?_, by omega⟩⟩)
    simp [zI_sI]
  unfold f_X8_read f_X9_read f_X8_readTape
  rw [gd, if_pos x0, gd, if_pos x0, x1, dq, gd, if_pos sb.1, gd, if_pos s.1, lt_, lt_, lt_, eu2']
  by_cases hp : 0 ≤ p ∧ p < 12
  · obtain ⟨n, hn, rfl⟩ := good12 hp
    rw [x_fed sb V.2.2.2.1 hn, b_some, r_isOwn S2 hn, b_some, eI]
    by_cases g : isO (zI M2 (A 1)) n
    · rw [if_pos g, mq, if_pos g, if_pos (show ¬ (1 : Int32) = 0 by decide)]
      by_cases q0 : q < 0
      · rw [if_pos q0, if_pos q0, b_some, xt, dq, gd, if_pos o1, lt_]
        exact fin _
      · rw [if_neg q0, if_neg q0]
        by_cases q6 : q < 6
        · obtain ⟨kind, hk, rfl⟩ := i_of (n := 6) (Int32.not_lt.mp q0) q6 (by omega)
          have z8 := szN_le (kind := kind)
          rw [if_pos q6, if_pos (show Int32.ofNat kind ≤ 5 by rw [i_leL (by omega) (by simp)]; show kind ≤ 5; omega), gd, if_pos (by rw [i_inb (by omega)]; exact hk), lt_, i_nat (by omega), bow_sz hk, if_pos (show (1 : Int32) ≤ Int32.ofNat (szN kind) by rw [i_Lle (by omega) (by simp)]; exact z8.1), r_sizeOf hk, b_some]
          have zz : ¬ Int32.ofNat (szN kind) = 0 := by rw [show (0 : Int32) = Int32.ofNat 0 from rfl, i_inj (by omega) (by omega)]; omega
          obtain ⟨w1, w4, t, ht, et, hl⟩ := W.1 n hn
          obtain ⟨p1, p2, p3, p4⟩ := V.2.2.2.1 n hn
          have sp := sb.2.2.2.2.2.2.2.2.2.1 n hn
          have hg : isG (zI M2 (A 1)) n := ⟨g.1, Int32.le_trans (Int32.le_of_lt g.2) (Int32.le_refl _)⟩
          obtain ⟨pa, pb⟩ := p2 hg
          have f3 : 404 * n + 3 < 5328 := by omega
          have k1' : (OfNat.ofNat 1 : Nat) ≤ u + szN kind := by show 1 ≤ u + szN kind; omega
          have c4 : (u + szN kind - 1) / szN kind ≤ 408 := Nat.le_trans (Nat.div_le_self _ _) (by omega)
          have cnt : ((Int32.ofNat u + Int32.ofNat (szN kind)) - 1) / Int32.ofNat (szN kind) = Int32.ofNat ((u + szN kind - 1) / szN kind) := by
            rw [i_add, i_subL k1', show u + szN kind - (OfNat.ofNat 1 : Nat) = u + szN kind - 1 from rfl, i_div (by omega) (by omega)]
          rw [xt, dq, gd, if_pos o1, gd, if_pos zz, lt_, eu1, gd, if_pos sp.1, p3, et, gd, if_pos zz, cnt]
          simp only [lt_]
          generalize (u + szN kind - 1) / szN kind = c at c4 cnt ⊢
          simp (disch := omega) only [dq, gd, ok, s, and_self, if_true, i_mulL, i_addL, i_inb, f3, i_nat, eI, et, i_add]
          by_cases g4 : t + c ≤ 400
          · rw [if_pos (show Int32.ofNat (t + c) ≤ 400 by rw [i_leL (by omega) (by simp)]; exact g4), if_pos (show Int32.ofNat (t + c) ≤ 400 by rw [i_leL (by omega) (by simp)]; exact g4)]
            unfold Sim
            rw [wp_bind, wp_bind]
            refine (x_keepP S1 hn (W.1 n hn) (V.2.2.2.1 n hn)).mono ?_
            rintro Ma ⟨Fa, ka, a8, a9⟩
            rw [wp_bind]
            refine (x_readLoop (n := n) (M0 := Ma) (k := zI M2 (A 1) (404 * n)) (a := zI M2 (A 1) (404 * n + 1)) (b := zI M2 (A 1) (404 * n + 2)) S1 sp hk hu g4 ((Fa.i (by omega)).trans eu1) ((Fa.i (i := 100 + 12 * 0 + n) (by omega)).trans p1) (fun _ => ⟨(Fa.i (i := 100 + 12 * 0 + n) (by omega)).trans pa, (Fa.i (i := 100 + 12 * 0 + n) (by omega)).trans pb⟩) ((Fa.i (i := 100 + 12 * 0 + n) (by omega)).trans (p3.trans et))).mono ?_
            rintro ⟨vb, Mb⟩ ⟨Fb, b4, b0, bv⟩
            have Fb : FB B (fun i j => i = 200 + n ∨ (i = 100 + n ∧ j = 4)) Ma Mb := Fb
            have b4 : zI Mb (aP B 0 n) 4 = Int32.ofNat (t + c) := b4
            have b0 : ∀ j, j < t → zI Mb (aC B 0 n) j = zI Ma (aC B 0 n) j := b0
            have bv : ∀ j, j < c → zI Mb (aC B 0 n) (t + j) = _ := bv
            rw [wp_some, if_pos o1, wp_some, wp_bind]
            refine (r_act S2).mono ?_
            rintro Mc ⟨Fc, c1, c2⟩
            rw [wp_bind]
            refine (r_readLoop (n := n) (M0 := Mc) S2 hn hk hu g4).mono ?_
            rintro ⟨vd, Md⟩ ⟨Fd, dv⟩
            have Fd : FB A (fun i j => i = 1 ∧ 404 * n + 4 + t ≤ j ∧ j < 404 * n + 4 + t + c) Mc Md := Fd
            have dv : ∀ j, j < c → zI Md (A 1) (404 * n + 4 + (t + j)) = _ := dv
            rw [wp_some]
            refine ⟨b4, ?_⟩
            show Inv h1 (sI Mb (B 1) 1 0) h2 (sI Md (A 1) (404 * n + 3) (Int32.ofNat (t + c))) B A pic
            have eIc : zI Mc (A 1) = zI M2 (A 1) := by rw [← eI]; exact funext fun j => Fc.i (by omega)
            have e4c : ∀ i, i < u → zI Ma (B 2) i = zI Mc (A 4) i := fun i hi => by
              rw [Fa.i (by omega), Fc.i (by omega), F0.i (by omega)]; exact hf i hi
            have G1 : FB B (fun i j => i = 1 ∧ j = 1) Mb (sI Mb (B 1) 1 0) := FB.rf.sI hB ⟨rfl, rfl⟩
            have G2 : FB A (fun i j => i = 1 ∧ j = 404 * n + 3) Md (sI Md (A 1) (404 * n + 3) (Int32.ofNat (t + c))) := FB.rf.sI S2.2 ⟨rfl, rfl⟩
            have FA1 : FB B (fun i j => i = 124 ∨ i = 224 ∨ (i = 0 ∧ (j = 8 ∨ j = 9)) ∨ i = 100 + n ∨ i = 200 + n ∨ (i = 1 ∧ j = 1)) M1 (sI Mb (B 1) 1 0) := ((Fa.up fun i j z => by omega).tr (Fb.up fun i j z => by omega)).tr (G1.up fun i j z => by omega)
            have FA2 : FB A (fun i j => i = 2 ∨ (i = 0 ∧ (j = 0 ∨ j = 4 ∨ j = 7)) ∨ (i = 1 ∧ 404 * n + 3 ≤ j ∧ j < 404 * n + 404)) M2 (sI Md (A 1) (404 * n + 3) (Int32.ofNat (t + c))) := (((F0.up fun i j z => by omega).tr (Fc.up fun i j z => by omega)).tr (Fd.up fun i j z => by omega)).tr (G2.up fun i j z => by omega)
            have j3 : zI (sI Md (A 1) (404 * n + 3) (Int32.ofNat (t + c))) (A 1) (404 * n + 3) = Int32.ofNat (t + c) := by rw [zI_sI, if_pos ⟨rfl, rfl⟩]
            have j0 : zI (sI Md (A 1) (404 * n + 3) (Int32.ofNat (t + c))) (A 1) (404 * n) = zI M2 (A 1) (404 * n) := FA2.i (by omega)
            have j1 : zI (sI Md (A 1) (404 * n + 3) (Int32.ofNat (t + c))) (A 1) (404 * n + 1) = zI M2 (A 1) (404 * n + 1) := FA2.i (by omega)
            have j2 : zI (sI Md (A 1) (404 * n + 3) (Int32.ofNat (t + c))) (A 1) (404 * n + 2) = zI M2 (A 1) (404 * n + 2) := FA2.i (by omega)
            have jold : ∀ j, j < t → zI (sI Md (A 1) (404 * n + 3) (Int32.ofNat (t + c))) (A 1) (404 * n + 4 + j) = zI M2 (A 1) (404 * n + 4 + j) := fun j hj => by
              rw [G2.i (by omega), Fd.i (by omega), eIc]
            have jnew : ∀ j, j < c → zI (sI Md (A 1) (404 * n + 3) (Int32.ofNat (t + c))) (A 1) (404 * n + 4 + (t + j)) = valS (zI M2 (A 1) (404 * n)) (zI M2 (A 1) (404 * n + 1)) (zI M2 (A 1) (404 * n + 2)) (zI Mc (A 4)) u kind (t + j) j := fun j hj => by
              rw [G2.i (by omega), dv j hj, eIc]
            refine V.actP hn (FA1.up fun i j z => by omega) ?_ ?_ ?_ (FA2.up fun i j z => by omega) ?_ ?_ ?_ ?_ ⟨0, by omega, by simp [zI_sI], ?_, by omega⟩
            · rw [G1.i (by omega), Fb.i (by omega)]; exact a8
            · rw [G1.i (by omega), Fb.i (by omega)]; exact a9
            · exact (ka.fb Fb fun j => by omega).fb G1 fun j => by omega
            · intro i hi
              rw [G2.i (by omega), Fd.i (by omega), c1 i hi, eI]
            · rw [G2.i (by omega), Fd.i (by omega)]; exact c2
            · refine ⟨?_, fun hg' => ⟨?_, ?_⟩, ?_, fun j hj => ?_⟩
              · rw [j0]; exact (G1.i (i := 100 + 12 * 0 + n) (by omega)).trans ((Fb.i (i := 100 + 12 * 0 + n) (by omega)).trans ((Fa.i (i := 100 + 12 * 0 + n) (by omega)).trans p1))
              · rw [j1]; exact (G1.i (i := 100 + 12 * 0 + n) (by omega)).trans ((Fb.i (i := 100 + 12 * 0 + n) (by omega)).trans ((Fa.i (i := 100 + 12 * 0 + n) (by omega)).trans pa))
              · rw [j2]; exact (G1.i (i := 100 + 12 * 0 + n) (by omega)).trans ((Fb.i (i := 100 + 12 * 0 + n) (by omega)).trans ((Fa.i (i := 100 + 12 * 0 + n) (by omega)).trans pb))
              · rw [j3]; exact (G1.i (i := 100 + 12 * 0 + n) (by omega)).trans b4
              · rw [j3, i_nat (by omega)] at hj
                refine (G1.i (i := 200 + 12 * 0 + n) (by omega)).trans ?_
                by_cases gj : j < t
                · rw [jold j gj]
                  refine (b0 j gj).trans ?_
                  refine (Fa.i (i := 200 + 12 * 0 + n) (by omega)).trans ?_
                  exact p4 j (by rw [et, i_nat (by omega)]; exact gj)
                · have ej : j = t + (j - t) := by omega
                  rw [ej, jnew (j - t) (by omega)]
                  refine (bv (j - t) (by omega)).trans ?_
                  exact valS_cg e4c
            · refine ⟨by rw [j0]; exact w1, fun e => ?_, t + c, g4, j3, fun j hj => ?_⟩
              · rw [j0] at e
                rw [j1, j2]; exact w4 e
              · by_cases gj : j < t
                · rw [jold j gj]; exact hl j gj
                · have ej : j = t + (j - t) := by omega
                  rw [ej, jnew (j - t) (by omega)]
                  exact valS_lgl
            · show zI (sI Md (A 1) (404 * n + 3) (Int32.ofNat (t + c))) (A 0) 7 = _
              rw [G2.i (by omega), Fd.i (by omega), Fc.i (by omega)]
              simp [zI_sI]
          · rw [if_neg (show ¬ Int32.ofNat (t + c) ≤ 400 by rw [i_leL (by omega) (by simp)]; exact g4), if_neg (show ¬ Int32.ofNat (t + c) ≤ 400 by rw [i_leL (by omega) (by simp)]; exact g4), b_some, if_pos o1]
            exact fin _
        · rw [if_neg q6, if_neg (fun z => q6 (Int32.lt_of_le_of_lt z (by decide))), b_some, xt, dq, gd, if_pos o1, lt_]
          exact fin _
    · rw [if_neg g, mq, if_neg g, if_neg (show ¬ ¬ (0 : Int32) = 0 by decide), b_some, xt, dq, gd, if_pos o1, lt_]
      exact fin _
  · rw [x_fedB sb hp, b_some, r_isOwnB S2 hp, b_some, mq, if_neg (show ¬ ¬ (0 : Int32) = 0 by decide), b_some, xt, dq, gd, if_pos o1, lt_]
    exact fin _
end R
