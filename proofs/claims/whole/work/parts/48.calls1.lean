/-! CALLS: put, plug, take, kind: done -/
section P
variable {h1 h2 : Hs} {B A : Nat → Nat} {M1 M2 : Mm} {pic : Prop} {n : Nat} {p k a b : Int32}
theorem t_place (V : Inv h1 M1 h2 M2 B A pic) (hn : n < 12) (hk : -1 ≤ k ∧ k ≤ 5) (h4 : k = 4 → ∃ x y, x < 12 ∧ y < 12 ∧ a = Int32.ofNat x ∧ b = Int32.ofNat y) (G : Mm → Mm)
    (hG : ∀ z, FB A (fun i j => i = 1 ∧ 404 * n ≤ j ∧ j < 404 * n + 4) z (G z) ∧ zI (G z) (A 1) (404 * n) = k ∧ ((0 ≤ k ∧ k ≤ 4) → zI (G z) (A 1) (404 * n + 1) = a ∧ zI (G z) (A 1) (404 * n + 2) = b) ∧ zI (G z) (A 1) (404 * n + 3) = 0) :
    Sim ((f_X8_keepPlace h1 (B 0) (Int32.ofNat n) (aP B 0 n) M1).bind fun z => (f_X4_become h1 (aP B 0 n) k a b z).bind fun z => some (1, z)) ((f_X9_act h2 (A 0) M2).bind fun z => some (1, G z)) h1 h2 B A pic := by
  obtain ⟨S1, S2, W, P, D, T, U, J⟩ := V
  have V : Inv h1 M1 h2 M2 B A pic := ⟨S1, S2, W, P, D, T, U, J⟩
  have hB := S1.1
  have sp := S1.2.2.2.1.2.2.2.2.2.2.2.2.2.1 n hn
  unfold Sim
  rw [wp_bind]
  refine (x_keepP S1 hn (W.1 n hn) (P n hn)).mono ?_
  rintro M1' ⟨F1, k1, k2, k3⟩
  rw [wp_bind, x_become sp, wp_some, wp_some, wp_bind]
  refine (r_act S2).mono ?_
  rintro M2' ⟨F2, w1, w2⟩
  rw [wp_some]
  refine ⟨rfl, ?_⟩
  obtain ⟨g0, g1, g2, g3⟩ := hG M2'
  show Inv h1 (sI (sI (sI (sI M1' (aP B 0 n) 1 k) (aP B 0 n) 2 a) (aP B 0 n) 3 b) (aP B 0 n) 4 0) h2 (G M2') B A pic
  have Fx : FB B (fun i j => i = 100 + n) M1' (sI (sI (sI (sI M1' (aP B 0 n) 1 k) (aP B 0 n) 2 a) (aP B 0 n) 3 b) (aP B 0 n) 4 0) := by
    have go : ∀ {M : Mm} {j : Nat} {v : Int32}, FB B (fun i j => i = 100 + n) M1' M → FB B (fun i j => i = 100 + n) M1' (sI M (aP B 0 n) j v) := fun F => FB.sI (a := 100 + 12 * 0 + n) hB F (by omega)
    exact go (go (go (go FB.rf)))
  have FA : FB B (fun i j => i = 124 ∨ i = 224 ∨ (i = 0 ∧ (j = 8 ∨ j = 9)) ∨ i = 100 + n) M1 (sI (sI (sI (sI M1' (aP B 0 n) 1 k) (aP B 0 n) 2 a) (aP B 0 n) 3 b) (aP B 0 n) 4 0) := (F1.up fun i j z => by omega).tr (Fx.up fun i j z => by omega)
  have FC : FB A (fun i j => i = 2 ∨ (i = 0 ∧ j = 4) ∨ (i = 1 ∧ 404 * n ≤ j ∧ j < 404 * n + 4)) M2 (G M2') := (F2.up fun i j z => by omega).tr (g0.up fun i j z => by omega)
  refine V.actP hn (FA.up fun i j z => by omega) ?_ ?_ (k1.fb Fx fun j => by omega) (FC.up fun i j z => by omega) ?_ ?_ ?_ ?_ (T.cg FA FC (fun j => by omega) (fun j => by omega))
  · exact (Fx.i (by omega)).trans k2
  · exact (Fx.i (by omega)).trans k3
  · intro i hi
    rw [g0.i (by omega)]; exact w1 i hi
  · rw [g0.i (by omega)]; exact w2
  · refine ⟨?_, fun hg => ?_, ?_, fun j hj => ?_⟩
    · rw [g1]; simp [zI_sI]
    · unfold isG at hg
      rw [g1] at hg
      rw [(g2 hg).1, (g2 hg).2]
      simp [zI_sI]
    · rw [g3]; simp [zI_sI]
    · rw [g3] at hj; exact absurd hj (Nat.not_lt_zero _)
  · refine ⟨by rw [g1]; exact hk, fun e => ?_, 0, by omega, g3, fun j hj => absurd hj (Nat.not_lt_zero _)⟩
    rw [g1] at e
    have := g2 (by rw [e]; decide)
    rw [this.1, this.2]
    exact h4 e
theorem t_put (V : Inv h1 M1 h2 M2 B A pic) : Sim (f_X8_put h1 (B 0) p k a b M1) (f_X9_put h2 (A 0) p k a b M2) h1 h2 B A pic := by
  have V0 := V.t0
  have S1 := V.1
  have S2 := V.2.1
  have s := S2.s
  obtain ⟨x0, -, x1, -⟩ := S1.2.1
  have sb := S1.2.2.2.1
  by_cases hp : 0 ≤ p ∧ p < 12
  · obtain ⟨n, hn, rfl⟩ := good12 hp
    have sp := sb.2.2.2.2.2.2.2.2.2.1 n hn
    rw [r_put S2 hn]
    unfold f_X8_put
    simp only [gd, ok, x0, x1, dq, sb.1, and_self, if_true, x_placeAt sb hn, b_some, mq, x_told, sp]
    by_cases t : 0 ≤ k ∧ k ≤ 4 ∧ (k = 1 → 1 ≤ a ∧ a ≤ 100000) ∧ (k = 3 → 0 ≤ a ∧ a ≤ b ∧ b ≤ 399) ∧ (k = 4 → (0 ≤ a ∧ a < 12) ∧ 0 ≤ b ∧ b < 12)
    · rw [if_pos t, if_pos t, if_pos (by decide)]
      unfold putL
      refine t_place V0 hn ⟨Int32.le_trans (by decide) t.1, Int32.le_trans t.2.1 (by decide)⟩ (fun e => ?_) (fun z => sI (sI (sI (sI z (A 1) (404 * n) k) (A 1) (404 * n + 1) a) (A 1) (404 * n + 2) b) (A 1) (404 * n + 3) 0) (fun z => ⟨?_, ?_, fun _ => ⟨?_, ?_⟩, ?_⟩)
      · obtain ⟨ha, hb⟩ := t.2.2.2.2 e
        obtain ⟨x, hx, rfl⟩ := good12 ha
        obtain ⟨y, hy, rfl⟩ := good12 hb
        exact ⟨x, y, hx, hy, rfl, rfl⟩
      · have go : ∀ {M : Mm} {j : Nat} {v : Int32}, 404 * n ≤ j → j < 404 * n + 4 → FB A (fun i j => i = 1 ∧ 404 * n ≤ j ∧ j < 404 * n + 4) z M → FB A (fun i j => i = 1 ∧ 404 * n ≤ j ∧ j < 404 * n + 4) z (sI M (A 1) j v) := fun a b F => FB.sI S2.2 F ⟨rfl, a, b⟩
        exact go (by omega) (by omega) (go (by omega) (by omega) (go (by omega) (by omega) (go (by omega) (by omega) FB.rf)))
      · simp [zI_sI]
      · simp [zI_sI]
      · simp [zI_sI]
      · simp [zI_sI]
    · rw [if_neg t, if_neg t, if_neg (not_not_intro rfl)]
      exact wp_some.mpr (wp_some.mpr ⟨rfl, V0⟩)
  · unfold f_X8_put f_X9_put
    simp only [gd, ok, x0, x1, dq, sb.1, s, and_self, if_true, x_placeB sb hp, b_some, mq, lt_, r_noB hp]
    rw [if_pos (by decide)]
    exact wp_some.mpr (wp_some.mpr ⟨rfl, V0⟩)
theorem t_plug (V : Inv h1 M1 h2 M2 B A pic) : Sim (f_X8_plug h1 (B 0) p M1) (f_X9_plug h2 (A 0) p M2) h1 h2 B A pic := by
  have V0 := V.t0
  have S1 := V.1
  have S2 := V.2.1
  have s := S2.s
  obtain ⟨x0, -, x1, -⟩ := S1.2.1
  have sb := S1.2.2.2.1
  by_cases hp : 0 ≤ p ∧ p < 12
  · obtain ⟨n, hn, rfl⟩ := good12 hp
    have sp := sb.2.2.2.2.2.2.2.2.2.1 n hn
    have f0 : 404 * n < 5328 := by omega
    have f3 : 404 * n + 3 < 5328 := by omega
    unfold f_X8_plug f_X9_plug
    simp only [gd, ok, x0, x1, dq, sb.1, s, and_self, if_true, x_placeAt sb hn, b_some, mq, sp, r_no hn, lt_]
    simp (disch := omega) only [i_mulL, i_addL, i_inb, f0, f3, if_true, i_nat]
    refine t_place V0 hn (by decide) (fun e => absurd e (by decide)) (fun z => sI (sI z (A 1) (404 * n) 5) (A 1) (404 * n + 3) 0) (fun z => ⟨?_, ?_, fun e => absurd e (by decide), ?_⟩)
    · have go : ∀ {M : Mm} {j : Nat} {v : Int32}, 404 * n ≤ j → j < 404 * n + 4 → FB A (fun i j => i = 1 ∧ 404 * n ≤ j ∧ j < 404 * n + 4) z M → FB A (fun i j => i = 1 ∧ 404 * n ≤ j ∧ j < 404 * n + 4) z (sI M (A 1) j v) := fun a b F => FB.sI S2.2 F ⟨rfl, a, b⟩
      exact go (by omega) (by omega) (go (by omega) (by omega) FB.rf)
    · simp [zI_sI]
    · simp [zI_sI]
  · unfold f_X8_plug f_X9_plug
    simp only [gd, ok, x0, x1, dq, sb.1, s, and_self, if_true, x_placeB sb hp, b_some, mq, lt_, r_noB hp]
    rw [if_neg (by decide)]
    exact wp_some.mpr (wp_some.mpr ⟨rfl, V0⟩)
theorem t_take (V : Inv h1 M1 h2 M2 B A pic) : Sim (f_X8_take h1 (B 0) p M1) (f_X9_take h2 (A 0) p M2) h1 h2 B A pic := by
  have V0 := V.t0
  have S1 := V.1
  have S2 := V.2.1
  have s := S2.s
  have q := S2.e
  obtain ⟨x0, -, x1, -⟩ := S1.2.1
  have sb := S1.2.2.2.1
  by_cases hp : 0 ≤ p ∧ p < 12
  · obtain ⟨n, hn, rfl⟩ := good12 hp
    have sp := sb.2.2.2.2.2.2.2.2.2.1 n hn
    have f0 : 404 * n < 5328 := by omega
    have f3 : 404 * n + 3 < 5328 := by omega
    have ek : zI M1 (aP B 0 n) 1 = zI M2 (A 1) (404 * n) := (V.2.2.2.1 n hn).1
    have ek2 : zI (sI M2 (A 0) 0 0) (A 1) (404 * n) = zI M2 (A 1) (404 * n) := by simp [zI_sI, q]
    unfold f_X8_take f_X9_take
    simp only [gd, ok, x0, x1, dq, sb.1, s, and_self, if_true, x_placeAt sb hn, b_some, mq, sp, r_no hn, lt_, ek]
    simp (disch := omega) only [i_mulL, i_addL, i_inb, f0, f3, if_true, i_nat, ek2, not_true_eq_false, if_false]
    by_cases e : zI M2 (A 1) (404 * n) = -1
    · rw [if_neg (not_not_intro e), if_neg (not_not_intro e)]
      exact wp_some.mpr (wp_some.mpr ⟨rfl, V0⟩)
    · rw [if_pos e, if_pos e]
      refine t_place V0 hn (by decide) (fun e => absurd e (by decide)) (fun z => sI (sI z (A 1) (404 * n) (-1)) (A 1) (404 * n + 3) 0) (fun z => ⟨?_, ?_, fun e => absurd e (by decide), ?_⟩)
      · have go : ∀ {M : Mm} {j : Nat} {v : Int32}, 404 * n ≤ j → j < 404 * n + 4 → FB A (fun i j => i = 1 ∧ 404 * n ≤ j ∧ j < 404 * n + 4) z M → FB A (fun i j => i = 1 ∧ 404 * n ≤ j ∧ j < 404 * n + 4) z (sI M (A 1) j v) := fun a b F => FB.sI S2.2 F ⟨rfl, a, b⟩
        exact go (by omega) (by omega) (go (by omega) (by omega) FB.rf)
      · simp [zI_sI]
      · simp [zI_sI]
  · unfold f_X8_take f_X9_take
    simp only [gd, ok, x0, x1, dq, sb.1, s, and_self, if_true, x_placeB sb hp, b_some, mq, lt_, r_noB hp]
    rw [if_pos (by decide)]
    exact wp_some.mpr (wp_some.mpr ⟨rfl, V0⟩)
theorem t_kind (V : Inv h1 M1 h2 M2 B A pic) : Sim ((f_X8_kind h1 (B 0) p M1).bind fun r => some (r, M1)) (f_X9_kind h2 (A 0) p M2) h1 h2 B A pic := by
  have V0 := V.t0
  have S1 := V.1
  have S2 := V.2.1
  have s := S2.s
  have q := S2.e
  obtain ⟨x0, -, x1, -⟩ := S1.2.1
  have sb := S1.2.2.2.1
  by_cases hp : 0 ≤ p ∧ p < 12
  · obtain ⟨n, hn, rfl⟩ := good12 hp
    have sp := sb.2.2.2.2.2.2.2.2.2.1 n hn
    have ek : zI M1 (aP B 0 n) 1 = zI M2 (A 1) (404 * n) := (V.2.2.2.1 n hn).1
    have ek2 : zI (sI M2 (A 0) 0 0) (A 1) (404 * n) = zI M2 (A 1) (404 * n) := by simp [zI_sI, q]
    unfold f_X8_kind f_X9_kind
    simp only [gd, ok, x0, x1, dq, sb.1, s, and_self, if_true, x_placeAt sb hn, b_some, mq, sp, lt_, ek, r_kindOf S2 hn, ek2]
    exact wp_some.mpr (wp_some.mpr ⟨rfl, V0⟩)
  · unfold f_X8_kind f_X9_kind
    simp only [gd, ok, x0, x1, dq, sb.1, s, and_self, if_true, x_placeB sb hp, b_some, mq, lt_, r_kindOfB hp]
    exact wp_some.mpr (wp_some.mpr ⟨rfl, V0⟩)
end P
