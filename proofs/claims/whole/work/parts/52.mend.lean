/-! CALLS: mend -/
section D
variable {h h1 h2 : Hs} {B A : Nat → Nat} {M M' M1 M2 : Mm} {pic : Prop} {n : Nat} {p k a b v : Int32} {I I' : Nat → Int32}
theorem t_mend (V : Inv h1 M1 h2 M2 B A pic) : Sim (f_X8_mend h1 (B 0) p M1) (f_X9_mend h2 (A 0) p M2) h1 h2 B A pic := by
  have V0 := V.t0
  have S1 := V.1
  have S2 := V.2.1
  have s := S2.s
  have q := S2.e
  have hB := S1.1
  obtain ⟨x0, -, x1, -⟩ := S1.2.1
  have sb := S1.2.2.2.1
  by_cases hp : 0 ≤ p ∧ p < 12
  · obtain ⟨n, hn, rfl⟩ := good12 hp
    have sd := sb.2.2.2.2.2.2.2.2.2.2 n hn
    have f0 : 4848 + 40 * n + 0 < 5328 := by omega
    have f1 : 4848 + 40 * n + 1 < 5328 := by omega
    have f26 : 4848 + 40 * n + 26 < 5328 := by omega
    unfold f_X8_mend f_X9_mend f_X9_base
    simp only [gd, ok, x0, x1, dq, sb.1, s, and_self, if_true, x_detailAt sb hn, b_some, mq, sd.1, lt_, r_no hn]
    simp (disch := omega) only [i_mulL, i_Ladd, i_addL, i_inb, f0, f1, f26, if_true, i_nat, Nat.add_zero]
    unfold Sim
    rw [wp_bind]
    have w := V0.2.2.1.2 n hn
    refine (x_keepD S1 hn w (V0.2.2.2.2.1 n hn)).mono ?_
    rintro M1' ⟨F1, kd, u9, u8⟩
    -- what both sides find as the new beginning
    obtain ⟨d0, -⟩ := V0.detB (M2' := sI M2 (A 0) 0 0) hn F1 FB.rf
    have P1 : PRs M1' B 0 (zI (sI M2 (A 0) 0 0) (A 1)) := fun m hm => (V0.2.2.2.1 m hm).fb F1 fun j => by omega
    have W := V0.2.2.1
    have key : ∃ c, c ≤ 400 ∧
        (∀ Q : Int32 × Mm → Prop, wp (some (Int32.ofNat c, sI (sI M1' (aD B 0 n) 4 (Int32.ofNat c)) (aD B 0 n) 7 (-1))) Q → wp ((f_X0_gaugeAt h1 (aB B 0) (zI M1' (aD B 0 n) 3) M1').bind fun z5 => match z5 with
          | none => some (zI (sI (sI M1' (aD B 0 n) 4 0) (aD B 0 n) 7 (-1)) (aD B 0 n) 4, sI (sI M1' (aD B 0 n) 4 0) (aD B 0 n) 7 (-1))
          | some q => (f_X0_spansOf h1 (aB B 0) q M1').bind fun z9 => some (zI (sI (sI M1' (aD B 0 n) 4 z9) (aD B 0 n) 7 (-1)) (aD B 0 n) 4, sI (sI M1' (aD B 0 n) 4 z9) (aD B 0 n) 7 (-1))) Q) ∧
        ∀ M2', zI M2' (A 1) = zI (sI M2 (A 0) 0 0) (A 1) → ((f_X9_isGauge h2 (A 0) (zI (sI M2 (A 0) 0 0) (A 1) (4848 + 40 * n)) M2').bind fun z10 => (if z10 = 0 then some 0 else (f_X9_spans h2 (A 0) (zI (sI M2 (A 0) 0 0) (A 1) (4848 + 40 * n)) M2').bind fun z12 => some z12)) = some (Int32.ofNat c) := by
      have e4 : ∀ v : Int32, zI (sI (sI M1' (aD B 0 n) 4 v) (aD B 0 n) 7 (-1)) (aD B 0 n) 4 = v := fun v => by simp [zI_sI]
      rw [d0.1]
      rcases w.1 with e | ⟨m, hm, e⟩
      · rw [e]
        have nb : ¬ (0 ≤ (-1 : Int32) ∧ (-1 : Int32) < 12) := by decide
        refine ⟨0, by omega, fun Q hQ => ?_, fun M2' _ => ?_⟩
        · rw [x_gaugeB sb nb, b_some]
          simp only [e4]
          exact hQ
        · rw [r_isGaugeB S2 nb, b_some, if_pos rfl]; rfl
      · rw [e]
        by_cases g : isG (zI (sI M2 (A 0) 0 0) (A 1)) m
        · refine ⟨spS (zI (sI M2 (A 0) 0 0) (A 1)) m, spS_le W hm, fun Q hQ => ?_, fun M2' eq => ?_⟩
          · rw [x_gaugeAt sb P1 hm, if_pos g, b_some]
            simp only [x_spansOf sb P1 W hm g, b_some, e4]
            exact hQ
          · rw [r_isGauge S2 hm, eq, if_pos g, b_some, if_neg (by decide), (r_spans S2 hm (by rw [eq]; exact W)).1, b_some, eq]
        · refine ⟨0, by omega, fun Q hQ => ?_, fun M2' eq => ?_⟩
          · rw [x_gaugeAt sb P1 hm, if_neg g, b_some]
            simp only [e4]
            exact hQ
          · rw [r_isGauge S2 hm, eq, if_neg g, b_some, if_pos rfl]; rfl
    obtain ⟨c, hc400, kx, kr⟩ := key
    refine kx _ ?_
    rw [wp_some, wp_bind]
    refine (r_act S2).mono ?_
    rintro M2' ⟨F2, hw, hc⟩
    have eI : zI M2' (A 1) = zI (sI M2 (A 0) 0 0) (A 1) := funext fun j => F2.i (by omega)
    have ex : zI M2' (A 1) (4848 + 40 * n) = zI (sI M2 (A 0) 0 0) (A 1) (4848 + 40 * n) := by rw [eI]
    rw [ex]
    have kr' := kr M2' eI
    rw [show (∀ (x : Option Int32) (f : Int32 → Option Int32) (g : Int32 → Option (Int32 × Mm)), (x.bind fun z => (f z).bind g) = (x.bind f).bind g) from fun x f g => (Option.bind_assoc x f g).symm, kr', b_some, if_pos (show 4848 + 40 * n < 5328 by omega), wp_some]
    refine ⟨?_, ?_⟩
    · simp [zI_sI]
    have d0' := d0
    have w' := w
    obtain ⟨r1, r2, r3, r4, r5, r6, -⟩ := d0'
    obtain ⟨w1, w2, -, -, w5, w6, w7, w8, -⟩ := w'
    have gc : ∃ s, s ≤ 400 ∧ Int32.ofNat c = Int32.ofNat s := ⟨c, hc400, rfl⟩
    have G1 : FB B (fun i _ => i = 300 + n) M1' (sI (sI M1' (aD B 0 n) 4 (Int32.ofNat c)) (aD B 0 n) 7 (-1)) := (FB.rf.sI (a := 300 + 12 * 0 + n) S1.1 (by omega)).sI (a := 300 + 12 * 0 + n) S1.1 (by omega)
    refine V0.detF hn F1 kd u9 u8 F2 hw hc (G1.up fun i j z => by omega) ((FB.rf.sI S2.2 (by omega)).sI S2.2 (by omega)) (d0.fields w (fun j hj => ?_) G1 ?_ ?_ ?_ ?_ ?_ ?_ hn) (w.fields (fun j hj => ?_) ?_ ?_ ?_ ?_ ?_ ?_)
    · rw [zI_sI, if_neg (by omega), zI_sI, if_neg (by omega), eI]
    · rw [zI_sI, if_neg (by omega), zI_sI, if_neg (by omega), zI_sI, if_neg (by omega), zI_sI, if_neg (by omega), eI]; exact r1
    · rw [zI_sI, if_neg (by omega), zI_sI, if_pos ⟨rfl, rfl⟩, zI_sI, if_neg (by omega), zI_sI, if_pos ⟨rfl, rfl⟩]
    · rw [zI_sI, if_neg (by omega), zI_sI, if_neg (by omega), zI_sI, if_neg (by omega), zI_sI, if_neg (by omega), eI]; exact r3
    · rw [zI_sI, if_neg (by omega), zI_sI, if_neg (by omega), zI_sI, if_neg (by omega), zI_sI, if_neg (by omega), eI]; exact r4
    · rw [zI_sI, if_pos ⟨rfl, rfl⟩, zI_sI, if_pos ⟨rfl, rfl⟩]
    · rw [zI_sI, if_neg (by omega), zI_sI, if_neg (by omega), zI_sI, if_neg (by omega), zI_sI, if_neg (by omega), eI]; exact r6
    · rw [zI_sI, if_neg (by omega), zI_sI, if_neg (by omega), eI]
    · rw [zI_sI, if_neg (by omega), zI_sI, if_neg (by omega), eI]; exact w1
    · rw [zI_sI, if_neg (by omega), zI_sI, if_pos ⟨rfl, rfl⟩]; exact gc
    · rw [zI_sI, if_neg (by omega), zI_sI, if_neg (by omega), eI]; exact w5
    · rw [zI_sI, if_neg (by omega), zI_sI, if_neg (by omega), eI]; exact w6
    · rw [zI_sI, if_pos ⟨rfl, rfl⟩]; decide
    · rw [zI_sI, if_neg (by omega), zI_sI, if_neg (by omega), eI]; exact w8
  · unfold f_X8_mend f_X9_mend
    simp only [gd, ok, x0, x1, dq, sb.1, s, and_self, if_true, x_detailB sb hp, b_some, mq, lt_, r_noB hp]
    rw [if_neg (by decide)]
    exact Sim.no V0
end D
