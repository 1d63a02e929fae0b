/-! CALLS: tear, fill -/
def tearV (v : Int32) : Int32 := if v < 2000000 then 2000000 else v
def cntR (f : Nat → Int32) (from_ : Nat) : Nat → Nat
  | 0 => 0
  | j + 1 => cntR f from_ j + if f (from_ + j) < 2000000 then 1 else 0
theorem tearV_lgl {v : Int32} (h : lgl v) : lgl (tearV v) := by
  unfold tearV
  split
  · exact Or.inr (Or.inl rfl)
  · exact h
/-- an own gauge's place: the common shape of a refused or a done act -/
theorem isO.G {I : Nat → Int32} {n : Nat} (h : isO I n) : isG I n := ⟨h.1, Int32.le_of_lt h.2⟩
theorem isO.n4 {I : Nat → Int32} {n : Nat} (h : isO I n) : ¬ I (404 * n) = 4 := fun e => by
  have := h.2
  rw [e] at this
  exact absurd this (by decide)
section T
variable {h h1 h2 : Hs} {B A : Nat → Nat} {M M1 M2 : Mm} {pic : Prop} {n t a c x y : Nat} {p k v : Int32} {I : Nat → Int32} {f : Nat → Int32}
theorem spS_own {I : Nat → Int32} (w : WF I) (hn : n < 12) (g : isO I n) : ∃ t, t ≤ 400 ∧ I (404 * n + 3) = Int32.ofNat t ∧ spS I n = t ∧ ∀ k, k < t → lgl (I (404 * n + 4 + k)) := by
  obtain ⟨-, -, t, ht, et, wk⟩ := w.1 n hn
  exact ⟨t, ht, et, by unfold spS; rw [if_neg g.n4, et, i_nat (by omega)], wk⟩
theorem x_tearOut (s : PlA h a c) (ht : t ≤ 400) (et : zI M a 4 = Int32.ofNat t) (hxy : x ≤ y) (hy : y < t) (hf : ∀ k, k < t → zI M c k = f k) (hl : ∀ k, k < t → lgl (f k)) :
    wp (f_X4_tearOut h a (Int32.ofNat x) (Int32.ofNat y) M) (fun z => z.1 = Int32.ofNat (cntR f x (y + 1 - x)) ∧ Fm (fun b _ => b = c) M z.2 ∧ ∀ k, k < t → zI z.2 c k = if x ≤ k ∧ k ≤ y then tearV (f k) else f k) := by
  have nac := s.ne s
  unfold f_X4_tearOut
  rw [wp_bind]
  refine loopW (fun n j (s : Int32 × Mm) => lp_X4_tearOut_5 h (Int32.ofNat y) a n s.1 (Int32.ofNat (x + j)) s.2) (y + 1 - x) (fun j s => s.1 = Int32.ofNat (cntR f x j) ∧ Fm (fun b _ => b = c) M s.2 ∧ ∀ k, k < t → zI s.2 c k = if x ≤ k ∧ k < x + j then tearV (f k) else f k) _ ?_ ?_ fuel 0 (0, M) (by omega) (by unfold fuel; omega) ⟨rfl, Fm.rf, fun k hk => by rw [if_neg (by omega)]; exact hf k hk⟩
  · rintro n j ⟨v, M1⟩ hj ⟨hv, F, hc⟩ ih
    have hv : v = _ := hv
    subst hv
    have hc : ∀ k, k < t → zI M1 c k = if x ≤ k ∧ k < x + j then tearV (f k) else f k := hc
    have F : Fm (fun b _ => b = c) M M1 := F
    have et1 : zI M1 a 4 = Int32.ofNat t := by rw [F.i nac]; exact et
    have ec : zI M1 c (x + j) = f (x + j) := by rw [hc _ (by omega), if_neg (by omega)]
    have lj := hl (x + j) (by omega)
    simp only [lp_X4_tearOut_5]
    rw [if_neg (show ¬ Int32.ofNat y < Int32.ofNat (x + j) by rw [i_lt (by omega) (by omega)]; omega)]
    simp only [gd, ok, s, and_self, if_true, et1]
    rw [if_neg (by rw [i_le (by omega) (by omega)]; omega), x_cellAt s ht et1 (show x + j < t by omega), ec, wp_bind, wp_some, wp_bind]
    have step : ∀ (w : Int32) (M2 : Mm), w = Int32.ofNat (cntR f x (j + 1)) → Fm (fun b _ => b = c) M M2 → (∀ k, k < t → zI M2 c k = if x ≤ k ∧ k < x + (j + 1) then tearV (f k) else f k) → wp (some (w, M2)) (fun y8 => wp (lt_ (Int32.ofNat (x + j) + 1) fun x9 => lp_X4_tearOut_5 h (Int32.ofNat y) a n y8.1 x9 y8.2) (fun z => wp (some (z.1, z.2.2)) fun z => z.1 = Int32.ofNat (cntR f x (y + 1 - x)) ∧ Fm (fun b _ => b = c) M z.2 ∧ ∀ k, k < t → zI z.2 c k = if x ≤ k ∧ k ≤ y then tearV (f k) else f k)) := by
      intro w M2 h1 h2 h3
      rw [wp_some, wp_lt, i_addL]
      exact ih (w, M2) ⟨h1, h2, h3⟩
    have same : ¬ f (x + j) < 2000000 → ∀ k, k < t → zI M1 c k = if x ≤ k ∧ k < x + (j + 1) then tearV (f k) else f k := by
      intro g k hk
      rw [hc k hk]
      by_cases e : k = x + j
      · subst e
        rw [if_neg (by omega), if_pos (by omega)]
        unfold tearV; rw [if_neg g]
      · by_cases e2 : x ≤ k ∧ k < x + j
        · rw [if_pos e2, if_pos (by omega)]
        · rw [if_neg e2, if_neg (by omega)]
    by_cases g1 : f (x + j) = 2000000
    · rw [if_pos g1]
      have g : ¬ f (x + j) < 2000000 := by rw [g1]; decide
      exact step _ _ (by simp only [cntR, if_neg g]; rfl) F (same g)
    · rw [if_neg g1]
      by_cases g2 : f (x + j) = 3000000
      · rw [if_pos g2]
        have g : ¬ f (x + j) < 2000000 := by rw [g2]; decide
        exact step _ _ (by simp only [cntR, if_neg g]; rfl) F (same g)
      · have g : f (x + j) < 2000000 := by
          by_cases z : f (x + j) < 2000000
          · exact z
          · rcases lgl_ge lj z with z | z
            · exact absurd z g1
            · exact absurd z g2
        rw [if_neg g2, x_set s ht et1 (show x + j < t by omega), wp_bind, wp_some, wp_lt, i_addL]
        refine step _ _ (by simp only [cntR, if_pos g]) (F.sI rfl) (fun k hk => ?_)
        rw [zI_sI]
        by_cases e : k = x + j
        · subst e
          rw [if_pos ⟨rfl, rfl⟩, if_pos (by omega)]
          unfold tearV; rw [if_pos g]
        · rw [if_neg (by simp [e]), hc k hk]
          by_cases e2 : x ≤ k ∧ k < x + j
          · rw [if_pos e2, if_pos (by omega)]
          · rw [if_neg e2, if_neg (by omega)]
  · rintro n ⟨v, M1⟩ ⟨hv, F, hc⟩
    have hv : v = _ := hv
    simp only [lp_X4_tearOut_5]
    rw [if_pos (show Int32.ofNat y < Int32.ofNat (x + (y + 1 - x)) by rw [i_lt (by omega) (by omega)]; omega), wp_some, wp_some]
    refine ⟨hv, F, fun k hk => ?_⟩
    have := hc k hk
    rw [this]
    by_cases e2 : x ≤ k ∧ k ≤ y
    · rw [if_pos e2, if_pos (by omega)]
    · rw [if_neg e2, if_neg (by omega)]
theorem r_tearL (S : Sh2 h A) (hn : n < 12) (ht : t ≤ 400) (hxy : x ≤ y) (hy : y < t) (hf : ∀ k, k < t → zI M (A 1) (404 * n + 4 + k) = f k) (hl : ∀ k, k < t → lgl (f k)) :
    wp (lp_X9_tear_43 h (Int32.ofNat n) (Int32.ofNat y) (A 0) fuel 0 (Int32.ofNat x) M) (fun z => z.1 = Int32.ofNat (cntR f x (y + 1 - x)) ∧ FB A (fun i j => i = 1 ∧ 404 * n + 4 ≤ j ∧ j < 404 * n + 404) M z.2.2 ∧ ∀ k, k < t → zI z.2.2 (A 1) (404 * n + 4 + k) = if x ≤ k ∧ k ≤ y then tearV (f k) else f k) := by
  have s := S.s
  refine loopW (fun m j (s : Int32 × Mm) => lp_X9_tear_43 h (Int32.ofNat n) (Int32.ofNat y) (A 0) m s.1 (Int32.ofNat (x + j)) s.2) (y + 1 - x) (fun j s => s.1 = Int32.ofNat (cntR f x j) ∧ FB A (fun i j => i = 1 ∧ 404 * n + 4 ≤ j ∧ j < 404 * n + 404) M s.2 ∧ ∀ k, k < t → zI s.2 (A 1) (404 * n + 4 + k) = if x ≤ k ∧ k < x + j then tearV (f k) else f k) _ ?_ ?_ fuel 0 (0, M) (by omega) (by unfold fuel; omega) ⟨rfl, FB.rf, fun k hk => by rw [if_neg (by omega)]; exact hf k hk⟩
  · rintro m j ⟨v, M1⟩ hj ⟨hv, F, hc⟩ ih
    have hv : v = _ := hv
    subst hv
    have hc : ∀ k, k < t → zI M1 (A 1) (404 * n + 4 + k) = if x ≤ k ∧ k < x + j then tearV (f k) else f k := hc
    have F : FB A (fun i j => i = 1 ∧ 404 * n + 4 ≤ j ∧ j < 404 * n + 404) M M1 := F
    have ec : zI M1 (A 1) (404 * n + 4 + (x + j)) = f (x + j) := by rw [hc _ (by omega), if_neg (by omega)]
    have lj := hl (x + j) (by omega)
    have f0 : 404 * n + 4 + (x + j) < 5328 := by omega
    simp only [lp_X9_tear_43]
    rw [if_neg (show ¬ Int32.ofNat y < Int32.ofNat (x + j) by rw [i_lt (by omega) (by omega)]; omega)]
    simp (disch := omega) only [dq, gd, ok, s, and_self, if_true, i_mulL, i_addL, i_add, i_inb, f0, i_nat, lt_, ec]
    have step : ∀ (w : Int32) (M2 : Mm), w = Int32.ofNat (cntR f x (j + 1)) → FB A (fun i j => i = 1 ∧ 404 * n + 4 ≤ j ∧ j < 404 * n + 404) M M2 → (∀ k, k < t → zI M2 (A 1) (404 * n + 4 + k) = if x ≤ k ∧ k < x + (j + 1) then tearV (f k) else f k) → wp (lp_X9_tear_43 h (Int32.ofNat n) (Int32.ofNat y) (A 0) m w (Int32.ofNat (x + j + 1)) M2) (fun z => z.1 = Int32.ofNat (cntR f x (y + 1 - x)) ∧ FB A (fun i j => i = 1 ∧ 404 * n + 4 ≤ j ∧ j < 404 * n + 404) M z.2.2 ∧ ∀ k, k < t → zI z.2.2 (A 1) (404 * n + 4 + k) = if x ≤ k ∧ k ≤ y then tearV (f k) else f k) := fun w M2 h1 h2 h3 => ih (w, M2) ⟨h1, h2, h3⟩
    by_cases g : f (x + j) < 2000000
    · have g3 : ¬ f (x + j) = 3000000 := fun z => by rw [z] at g; exact absurd g (by decide)
      rw [wp_bind, if_neg (Int32.not_le.mpr g), wp_some, wp_bind, if_neg g3, wp_some]
      have cc : Int32.ofNat (cntR f x j) + 1 = Int32.ofNat (cntR f x (j + 1)) := by simp only [cntR, if_pos g, i_addL]
      rw [cc]
      refine step _ _ rfl (F.sI S.2 (by omega)) (fun k hk => ?_)
      rw [zI_sI]
      by_cases e : k = x + j
      · subst e
        rw [if_pos ⟨rfl, rfl⟩, if_pos (by omega)]
        unfold tearV; rw [if_pos g]
      · rw [if_neg (by omega), hc k hk]
        by_cases e2 : x ≤ k ∧ k < x + j
        · rw [if_pos e2, if_pos (by omega)]
        · rw [if_neg e2, if_neg (by omega)]
    · rw [wp_bind, if_pos (Int32.not_lt.mp g), wp_some, wp_bind]
      have cc : Int32.ofNat (cntR f x j) + 0 = Int32.ofNat (cntR f x (j + 1)) := by simp only [cntR, if_neg g, Int32.add_zero, Nat.add_zero]
      rw [cc]
      by_cases g3 : f (x + j) = 3000000
      · rw [if_pos g3, wp_some]
        refine step _ _ rfl F (fun k hk => ?_)
        rw [hc k hk]
        by_cases e : k = x + j
        · subst e
          rw [if_neg (by omega), if_pos (by omega)]
          unfold tearV; rw [if_neg g]
        · by_cases e2 : x ≤ k ∧ k < x + j
          · rw [if_pos e2, if_pos (by omega)]
          · rw [if_neg e2, if_neg (by omega)]
      · have g2 : f (x + j) = 2000000 := (lgl_ge lj g).resolve_right g3
        rw [if_neg g3, wp_some]
        refine step _ _ rfl (F.sI S.2 (by omega)) (fun k hk => ?_)
        rw [zI_sI]
        by_cases e : k = x + j
        · subst e
          rw [if_pos ⟨rfl, rfl⟩, if_pos (by omega)]
          unfold tearV; rw [if_neg g, g2]
        · rw [if_neg (by omega), hc k hk]
          by_cases e2 : x ≤ k ∧ k < x + j
          · rw [if_pos e2, if_pos (by omega)]
          · rw [if_neg e2, if_neg (by omega)]
  · rintro m ⟨v, M1⟩ ⟨hv, F, hc⟩
    have hv : v = _ := hv
    simp only [lp_X9_tear_43]
    rw [if_pos (show Int32.ofNat y < Int32.ofNat (x + (y + 1 - x)) by rw [i_lt (by omega) (by omega)]; omega), wp_some]
    refine ⟨hv, F, fun k hk => ?_⟩
    have := hc k hk
    rw [this]
    by_cases e2 : x ≤ k ∧ k ≤ y
    · rw [if_pos e2, if_pos (by omega)]
    · rw [if_neg e2, if_neg (by omega)]
/-- an act that changes the cells alone of an own gauge -/
theorem Inv.cells {M1' M2' M1'' M2'' : Mm} (V : Inv h1 M1 h2 M2 B A pic) (hn : n < 12) (ht : t ≤ 400) (et : zI M2 (A 1) (404 * n + 3) = Int32.ofNat t)
    (F1 : FB B (fun i j => i = 124 ∨ i = 224 ∨ (i = 0 ∧ (j = 8 ∨ j = 9))) M1 M1') (k1 : PR M1' (aP B 2 0) (aC B 2 0) (zI M2 (A 1)) n) (u8 : zI M1' (B 0) 8 = Int32.ofNat n) (u9 : zI M1' (B 0) 9 = -1)
    (F2 : FB A (fun i j => i = 2 ∨ (i = 0 ∧ j = 4)) M2 M2') (hw : ∀ i, i < 5328 → zI M2' (A 2) i = zI M2 (A 1) i) (hc : zI M2' (A 0) 4 = 1)
    (G1 : FB B (fun i _ => i = 200 + n) M1' M1'') (G2 : FB A (fun i j => i = 1 ∧ 404 * n + 4 ≤ j ∧ j < 404 * n + 404) M2' M2'')
    (he : ∀ k, k < t → zI M1'' (aC B 0 n) k = zI M2'' (A 1) (404 * n + 4 + k)) (hl : ∀ k, k < t → lgl (zI M2'' (A 1) (404 * n + 4 + k))) : Inv h1 M1'' h2 M2'' B A pic := by
  have FA : FB B (fun i j => i = 124 ∨ i = 224 ∨ (i = 0 ∧ (j = 8 ∨ j = 9)) ∨ i = 200 + n) M1 M1'' := (F1.up fun i j z => by omega).tr (G1.up fun i j z => by omega)
  have FC : FB A (fun i j => i = 2 ∨ (i = 0 ∧ j = 4) ∨ (i = 1 ∧ 404 * n + 4 ≤ j ∧ j < 404 * n + 404)) M2 M2'' := (F2.up fun i j z => by omega).tr (G2.up fun i j z => by omega)
  have eI : ∀ j, j < 4 → zI M2'' (A 1) (404 * n + j) = zI M2 (A 1) (404 * n + j) := fun j hj => FC.i (by omega)
  have e0 := eI 0 (by omega); have e1 := eI 1 (by omega); have e2 := eI 2 (by omega); have e3 := eI 3 (by omega)
  rw [Nat.add_zero] at e0
  have P := V.2.2.2.1 n hn
  have W := V.2.2.1.1 n hn
  refine V.actP hn (FA.up fun i j z => by omega) ?_ ?_ (k1.fb G1 fun j => by omega) (FC.up fun i j z => by omega) ?_ ?_ ?_ ?_ (V.2.2.2.2.2.1.cg FA FC (fun j => by omega) (fun j => by omega))
  · exact (G1.i (by omega)).trans u8
  · exact (G1.i (by omega)).trans u9
  · intro i hi; rw [G2.i (by omega)]; exact hw i hi
  · rw [G2.i (by omega)]; exact hc
  · have g : ∀ j, zI M1'' (aP B 0 n) j = zI M1 (aP B 0 n) j := fun j => FA.i (by omega)
    unfold PR isG
    rw [g, g, g, g, e0, e1, e2, e3]
    refine ⟨P.1, P.2.1, P.2.2.1, fun k hk => ?_⟩
    rw [et, i_nat (by omega)] at hk
    exact he k hk
  · unfold WFp
    rw [e0, e1, e2, e3]
    exact ⟨W.1, W.2.1, t, ht, et, hl⟩
theorem t_tear {a b : Int32} (V : Inv h1 M1 h2 M2 B A pic) : Sim (f_X8_tear h1 (B 0) p a b M1) (f_X9_tear h2 (A 0) p a b M2) h1 h2 B A pic := by
  have V0 := V.t0
  have S1 := V.1
  have S2 := V.2.1
  have s := S2.s
  have q := S2.e
  have hB := S1.1
  have qB : ∀ i j, (B i = B j) = (i = j) := fun i j => propext ⟨hB i j, fun e => by rw [e]⟩
  obtain ⟨x0, -, x1, -⟩ := S1.2.1
  have sb := S1.2.2.2.1
  have eI : zI (sI M2 (A 0) 0 0) (A 1) = zI M2 (A 1) := funext fun j => by simp [zI_sI, q]
  by_cases hp : 0 ≤ p ∧ p < 12
  · obtain ⟨n, hn, rfl⟩ := good12 hp
    have sp := sb.2.2.2.2.2.2.2.2.2.1 n hn
    unfold f_X8_tear f_X9_tear
    simp only [gd, ok, x0, x1, dq, sb.1, s, and_self, if_true, x_fed sb V.2.2.2.1 hn, b_some, lt_, r_isOwn S2 hn, eI]
    by_cases g : isO (zI M2 (A 1)) n
    · obtain ⟨t, ht, et, est, hl⟩ := spS_own V.2.2.1 hn g
      have r := V.2.2.2.1 n hn
      have e3 : zI M1 (aP B 0 n) 4 = Int32.ofNat t := r.2.2.1.trans et
      have rsp := (r_spans (M := sI M2 (A 0) 0 0) S2 hn (by rw [eI]; exact V.2.2.1)).1
      rw [eI, est] at rsp
      simp only [if_pos g, mq, sp, and_self, if_true, e3, rsp, b_some]
      rw [if_neg (show ¬ (1 : Int32) = 0 by decide)]
      by_cases g1 : a < 0
      · rw [if_pos g1, if_pos g1]; exact Sim.no V0
      · rw [if_neg g1, if_neg g1]
        by_cases g2 : b < a
        · rw [if_pos g2, if_pos g2]; exact Sim.no V0
        · rw [if_neg g2, if_neg g2]
          by_cases g3 : b < Int32.ofNat t
          · rw [if_pos g3, if_pos g3]
            have hb0 : 0 ≤ b := Int32.le_trans (Int32.not_lt.mp g1) (Int32.not_lt.mp g2)
            obtain ⟨y, hy, rfl⟩ := i_of hb0 g3 (by omega)
            have hab : a < Int32.ofNat (y + 1) := by
              rw [Int32.lt_iff_toInt_lt, i_int (by omega)]
              have := Int32.not_lt.mp g2
              rw [Int32.le_iff_toInt_le, i_int (by omega)] at this
              omega
            obtain ⟨x, hx, rfl⟩ := i_of (Int32.not_lt.mp g1) hab (by omega)
            unfold Sim
            rw [wp_bind]
            have P0 := V0.2.2.2.1 n hn
            refine (x_keepP S1 hn (V0.2.2.1.1 n hn) P0).mono ?_
            rintro M1' ⟨F1, k1, u8, u9⟩
            have P1 : PR M1' (aP B 0 n) (aC B 0 n) (zI M2 (A 1)) n := r.fb F1 fun j => by omega
            have cells : ∀ k, k < t → zI M1' (aC B 0 n) k = zI M2 (A 1) (404 * n + 4 + k) := fun k hk => P1.2.2.2 k (by rw [et, i_nat (by omega)]; exact hk)
            rw [wp_bind]
            refine (x_tearOut sp ht (P1.2.2.1.trans et) (show x ≤ y by omega) hy cells hl).mono ?_
            rintro ⟨v1, M1''⟩ ⟨hv1, G1, c1⟩
            have hv1 : v1 = _ := hv1
            have G1' : FB B (fun i _ => i = 200 + n) M1' M1'' := G1.fb fun i j z => by simp only [aC, qB] at z; omega
            rw [wp_some, wp_bind]
            refine (r_act S2).mono ?_
            rintro M2' ⟨F2, hw, hc⟩
            have eI2 : zI M2' (A 1) = zI M2 (A 1) := by rw [← eI]; exact funext fun j => F2.i (by omega)
            rw [wp_bind]
            refine (r_tearL S2 hn ht (show x ≤ y by omega) hy (fun k hk => by rw [eI2]) hl).mono ?_
            rintro ⟨v2, v3, M2''⟩ ⟨hv2, G2, c2⟩
            have hv2 : v2 = _ := hv2
            rw [wp_some]
            refine ⟨by rw [hv1, hv2], V0.cells hn ht (by rw [eI]; exact et) F1 k1 u8 u9 F2 hw hc G1' G2 (fun k hk => ?_) (fun k hk => ?_)⟩
            · rw [c1 k hk, c2 k hk]
            · show lgl (zI M2'' (A 1) (404 * n + 4 + k))
              rw [c2 k hk]
              split
              · exact tearV_lgl (hl k hk)
              · exact hl k hk
          · rw [if_neg g3, if_neg g3]; exact Sim.no V0
    · simp only [if_neg g, mq, if_true]
      exact Sim.no V0
  · unfold f_X8_tear f_X9_tear
    simp only [gd, ok, x0, x1, dq, sb.1, s, and_self, if_true, x_fedB sb hp, b_some, mq, lt_, r_isOwnB S2 hp]
    exact Sim.no V0
theorem t_fill {a b : Int32} (V : Inv h1 M1 h2 M2 B A pic) : Sim (f_X8_fill h1 (B 0) p a b M1) (f_X9_fill h2 (A 0) p a b M2) h1 h2 B A pic := by
  have V0 := V.t0
  have S1 := V.1
  have S2 := V.2.1
  have s := S2.s
  have q := S2.e
  have hB := S1.1
  obtain ⟨x0, -, x1, -⟩ := S1.2.1
  have sb := S1.2.2.2.1
  have eI : zI (sI M2 (A 0) 0 0) (A 1) = zI M2 (A 1) := funext fun j => by simp [zI_sI, q]
  by_cases hp : 0 ≤ p ∧ p < 12
  · obtain ⟨n, hn, rfl⟩ := good12 hp
    have sp := sb.2.2.2.2.2.2.2.2.2.1 n hn
    unfold f_X8_fill f_X9_fill
    simp only [gd, ok, x0, x1, dq, sb.1, s, and_self, if_true, x_fed sb V.2.2.2.1 hn, b_some, lt_, r_isOwn S2 hn, eI, x_within]
    by_cases g : isO (zI M2 (A 1)) n
    · obtain ⟨t, ht, et, est, hl⟩ := spS_own V.2.2.1 hn g
      have r := V.2.2.2.1 n hn
      have e3 : zI M1 (aP B 0 n) 4 = Int32.ofNat t := r.2.2.1.trans et
      have rsp := (r_spans (M := sI M2 (A 0) 0 0) S2 hn (by rw [eI]; exact V.2.2.1)).1
      rw [eI, est] at rsp
      have cells : ∀ k, k < t → zI M1 (aC B 0 n) k = zI M2 (A 1) (404 * n + 4 + k) := fun k hk => r.2.2.2 k (by rw [et, i_nat (by omega)]; exact hk)
      simp only [if_pos g, mq, sp, and_self, if_true, rsp, b_some]
      rw [if_neg (show ¬ (1 : Int32) = 0 by decide)]
      by_cases ga : 0 ≤ a ∧ a < Int32.ofNat t
      · obtain ⟨y, hy, rfl⟩ := i_of ga.1 ga.2 (by omega)
        have f0 : 404 * n + 4 + y < 5328 := by omega
        rw [if_neg (nlt0 (show y < 2147483648 by omega)), if_neg (show ¬ Int32.ofNat t ≤ Int32.ofNat y by rw [i_le (by omega) (by omega)]; omega), x_hasGap sp ht e3 hy, b_some, cells y hy]
        simp (disch := omega) only [i_mulL, i_addL, i_add, i_inb, f0, if_true, i_nat]
        have d1 : ¬ (1 : Int32) = 0 := by decide
        by_cases gb : -1000000 ≤ b ∧ b ≤ 1000000
        · rw [if_pos gb, if_neg d1, if_neg (Int32.not_lt.mpr gb.1), if_pos gb.2]
          by_cases gg : zI M2 (A 1) (404 * n + 4 + y) = 2000000
          · rw [if_pos gg, if_pos d1, if_neg (not_not_intro gg)]
            unfold Sim
            rw [wp_bind]
            refine (x_keepP S1 hn (V0.2.2.1.1 n hn) (V0.2.2.2.1 n hn)).mono ?_
            rintro M1' ⟨F1, k1, u8, u9⟩
            have P1 : PR M1' (aP B 0 n) (aC B 0 n) (zI M2 (A 1)) n := r.fb F1 fun j => by omega
            have cells1 : ∀ k, k < t → zI M1' (aC B 0 n) k = zI M2 (A 1) (404 * n + 4 + k) := fun k hk => P1.2.2.2 k (by rw [et, i_nat (by omega)]; exact hk)
            rw [x_set sp ht (P1.2.2.1.trans et) hy, b_some, wp_some, wp_bind]
            refine (r_act S2).mono ?_
            rintro M2' ⟨F2, hw, hc⟩
            have eI2 : zI M2' (A 1) = zI M2 (A 1) := by rw [← eI]; exact funext fun j => F2.i (by omega)
            rw [wp_some]
            refine ⟨rfl, V0.cells hn ht (by rw [eI]; exact et) F1 k1 u8 u9 F2 hw hc (FB.rf.sI (a := 200 + 12 * 0 + n) hB (by omega)) (FB.rf.sI S2.2 (by omega)) (fun k hk => ?_) (fun k hk => ?_)⟩
            · show zI (sI M1' (aC B 0 n) y b) (aC B 0 n) k = zI (sI M2' (A 1) (404 * n + 4 + y) b) (A 1) (404 * n + 4 + k)
              by_cases e : k = y
              · subst e; simp [zI_sI]
              · rw [zI_sI, if_neg (by simp [e]), zI_sI, if_neg (by omega), cells1 k hk, eI2]
            · show lgl (zI (sI M2' (A 1) (404 * n + 4 + y) b) (A 1) (404 * n + 4 + k))
              by_cases e : k = y
              · subst e; rw [zI_sI, if_pos ⟨rfl, rfl⟩]; exact Or.inl gb
              · rw [zI_sI, if_neg (by omega), eI2]; exact hl k hk
          · rw [if_neg gg, if_neg (show ¬ ¬ (0 : Int32) = 0 by decide), if_pos gg]
            exact Sim.no V0
        · rw [if_neg gb, if_pos rfl]
          by_cases gg : zI M2 (A 1) (404 * n + 4 + y) = 2000000
          · rw [if_neg (not_not_intro gg)]
            by_cases b1 : b < -1000000
            · rw [if_pos b1]; exact Sim.no V0
            · rw [if_neg b1, if_neg (fun z => gb ⟨Int32.not_lt.mp b1, z⟩)]; exact Sim.no V0
          · rw [if_pos gg]; exact Sim.no V0
      · have xh := x_hasGapB (M := M1) sp ht e3 ga
        have A1 : Sim (some ((0 : Int32), M1)) (if a < 0 then some (0, sI M2 (A 0) 0 0) else if Int32.ofNat t ≤ a then some (0, sI M2 (A 0) 0 0) else if inb (404 * Int32.ofNat n + 4 + a) 5328 then (if ¬zI (sI M2 (A 0) 0 0) (A 1) (404 * Int32.ofNat n + 4 + a).toNatClampNeg = 2000000 then some (0, sI M2 (A 0) 0 0) else if b < -1000000 then some (0, sI M2 (A 0) 0 0) else if b ≤ 1000000 then (f_X9_act h2 (A 0) (sI M2 (A 0) 0 0)).bind fun z12 => if inb (404 * Int32.ofNat n + 4 + a) 5328 then some (1, sI z12 (A 1) (404 * Int32.ofNat n + 4 + a).toNatClampNeg b) else none else some (0, sI M2 (A 0) 0 0)) else none) h1 h2 B A pic := by
          by_cases a1 : a < 0
          · rw [if_pos a1]; exact Sim.no V0
          · rw [if_neg a1, if_pos (Int32.not_lt.mp fun z => ga ⟨Int32.not_lt.mp a1, z⟩)]; exact Sim.no V0
        rw [xh, b_some]
        by_cases gb : -1000000 ≤ b ∧ b ≤ 1000000
        · rw [if_pos gb, if_neg (show ¬ (1 : Int32) = 0 by decide), if_neg (show ¬ ¬ (0 : Int32) = 0 by decide)]
          rw [eI] at A1
          exact A1
        · rw [if_neg gb, if_pos rfl]
          rw [eI] at A1
          exact A1
    · simp only [if_neg g, mq, if_true]
      exact Sim.no V0
  · unfold f_X8_fill f_X9_fill
    simp only [gd, ok, x0, x1, dq, sb.1, s, and_self, if_true, x_fedB sb hp, b_some, mq, lt_, r_isOwnB S2 hp]
    exact Sim.no V0
end T
