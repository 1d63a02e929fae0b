/-! CALLS: read -/
theorem i_mul {a b : Nat} : Int32.ofNat a * Int32.ofNat b = Int32.ofNat (a * b) := (Int32.ofNat_mul a b).symm
theorem numS_lgl (kind : Nat) (X : Int64) : lgl (numS kind X) := by
  have rd : ∀ x, lgl (readS x) := fun x => by
    rcases readS_ok (x := x) with e | ⟨a, b⟩
    · exact Or.inr (Or.inl e)
    · refine Or.inl ⟨?_, ?_⟩
      · rw [Int32.le_iff_toInt_le, show (-1000000 : Int32).toInt = -1000000 by decide]; exact a
      · rw [Int32.le_iff_toInt_le, show (1000000 : Int32).toInt = 1000000 by decide]; exact b
  have ct : ∀ g e m w, lgl (cutS g e m w) := fun g e m w => by
    unfold cutS
    split
    · split
      · exact rd _
      · exact Or.inr (Or.inl rfl)
    · exact Or.inl (by decide)
  unfold numS
  split
  · have a := Int8.le_toInt X.toInt32.toInt8
    have b := Int8.toInt_lt X.toInt32.toInt8
    refine Or.inl ⟨?_, ?_⟩
    · rw [Int32.le_iff_toInt_le, Int8.toInt_toInt32, show (-1000000 : Int32).toInt = -1000000 by decide]; omega
    · rw [Int32.le_iff_toInt_le, Int8.toInt_toInt32, show (1000000 : Int32).toInt = 1000000 by decide]; omega
  · have a := Int16.le_toInt X.toInt32.toInt16
    have b := Int16.toInt_lt X.toInt32.toInt16
    refine Or.inl ⟨?_, ?_⟩
    · rw [Int32.le_iff_toInt_le, Int16.toInt_toInt32, show (-1000000 : Int32).toInt = -1000000 by decide]; omega
    · rw [Int32.le_iff_toInt_le, Int16.toInt_toInt32, show (1000000 : Int32).toInt = 1000000 by decide]; omega
  · exact rd _
  · exact rd _
  · exact ct _ _ _ _
  · exact ct _ _ _ _
def valS (k a b : Int32) (bt : Nat → Int32) (u kind s j : Nat) : Int32 := if k = 3 ∧ a ≤ Int32.ofNat s ∧ Int32.ofNat s ≤ b then 3000000 else if j * szN kind + szN kind ≤ u then numS kind (accB bt (j * szN kind) (szN kind)) else 2000000
theorem valS_lgl {k a b : Int32} {bt : Nat → Int32} {u kind s j : Nat} : lgl (valS k a b bt u kind s j) := by
  unfold valS
  split
  · exact Or.inr (Or.inr rfl)
  · split
    · exact numS_lgl _ _
    · exact Or.inr (Or.inl rfl)
theorem valS_cg {k a b : Int32} {bt bt' : Nat → Int32} {u kind s j : Nat} (h : ∀ i, i < u → bt i = bt' i) : valS k a b bt u kind s j = valS k a b bt' u kind s j := by
  unfold valS
  by_cases g : j * szN kind + szN kind ≤ u
  · rw [if_pos g, if_pos g, accB_cg fun i hi => h _ (by omega)]
  · rw [if_neg g, if_neg g]
section R
variable {h h1 h2 : Hs} {B A : Nat → Nat} {M M0 M1 M2 : Mm} {pic : Prop} {n u kind cnt t : Nat} {p q k a b : Int32}
theorem x_readLoop (S1 : Sh1 h B pic) (sp : PlA h (aP B 0 n) (aC B 0 n)) (hk : kind < 6) (hu : u ≤ 400) (hc : t + cnt ≤ 400) (eu : zI M0 (B 1) 1 = Int32.ofNat u) (e1 : zI M0 (aP B 0 n) 1 = k) (e2 : k = 3 → zI M0 (aP B 0 n) 2 = a ∧ zI M0 (aP B 0 n) 3 = b) (e4 : zI M0 (aP B 0 n) 4 = Int32.ofNat t) :
    wp (lp_X8_readTape_88 h (Int32.ofNat cnt) (Int32.ofNat (szN kind)) (Int32.ofNat kind) (B 0) (B 1) (aP B 0 n) fuel (0 : Int32) M0) (fun z => FB B (fun i j => i = 200 + n ∨ (i = 100 + n ∧ j = 4)) M0 z.2 ∧ zI z.2 (aP B 0 n) 4 = Int32.ofNat (t + cnt) ∧ (∀ j, j < t → zI z.2 (aC B 0 n) j = zI M0 (aC B 0 n) j) ∧ ∀ j, j < cnt → zI z.2 (aC B 0 n) (t + j) = valS k a b (zI M0 (B 2)) u kind (t + j) j) := by
  have hB := S1.1
  have z8 := szN_le (kind := kind)
  have ne : aC B 0 n ≠ aP B 0 n := fun e => by have := hB _ _ e; omega
  refine loopW (fun m i (s : Mm) => lp_X8_readTape_88 h (Int32.ofNat cnt) (Int32.ofNat (szN kind)) (Int32.ofNat kind) (B 0) (B 1) (aP B 0 n) m (Int32.ofNat i) s) cnt (fun i z => FB B (fun i j => i = 200 + n ∨ (i = 100 + n ∧ j = 4)) M0 z ∧ zI z (aP B 0 n) 4 = Int32.ofNat (t + i) ∧ (∀ j, j < t → zI z (aC B 0 n) j = zI M0 (aC B 0 n) j) ∧ ∀ j, j < i → zI z (aC B 0 n) (t + j) = valS k a b (zI M0 (B 2)) u kind (t + j) j) _ ?_ ?_ fuel 0 M0 (by omega) (by unfold fuel; omega) ⟨FB.rf, e4, fun _ _ => rfl, fun j hj => by omega⟩
  · rintro m i Mi hi ⟨F, g4, g0, gv⟩ ih
    have o4 : i * szN kind < 4000 := by
      have := Nat.mul_le_mul (show i ≤ 400 by omega) z8.2
      omega
    have eb : zI Mi (B 2) = zI M0 (B 2) := funext fun j => F.i (by omega)
    have g1 : zI Mi (aP B 0 n) 1 = k := (F.i (i := 100 + 12 * 0 + n) (by omega)).trans e1
    have g2 : k = 3 → zI Mi (aP B 0 n) 2 = a ∧ zI Mi (aP B 0 n) 3 = b := fun e => ⟨(F.i (i := 100 + 12 * 0 + n) (by omega)).trans (e2 e).1, (F.i (i := 100 + 12 * 0 + n) (by omega)).trans (e2 e).2⟩
    simp only [lp_X8_readTape_88]
    rw [if_neg (by rw [i_le (by omega) (by omega)]; omega), i_mul, x_readingAt S1 hu ((F.i (by omega)).trans eu) hk o4, b_some, x_add sp (show t + i < 400 by omega) g4, b_some, wp_lt, i_addL, eb]
    refine ih _ ⟨FB.sI (a := 100 + 12 * 0 + n) hB (FB.sI (a := 200 + 12 * 0 + n) hB F (Or.inl (by omega))) (Or.inr ⟨by omega, rfl⟩), ?_, fun j hj => ?_, fun j hj => ?_⟩
    · rw [zI_sI, if_pos ⟨rfl, rfl⟩]; rfl
    · rw [zI_sI, if_neg (fun z => ne z.1), zI_sI, if_neg (by omega)]
      exact g0 j hj
    · rw [zI_sI, if_neg (fun z => ne z.1), zI_sI]
      by_cases e : j = i
      · subst e
        rw [if_pos ⟨rfl, rfl⟩, g1]
        unfold valS
        by_cases k3 : k = 3
        · rw [(g2 k3).1, (g2 k3).2]
        · rw [if_neg (show ¬ (k = 3 ∧ _ ∧ _) from fun z => k3 z.1), if_neg (show ¬ (k = 3 ∧ _ ∧ _) from fun z => k3 z.1)]
      · rw [if_neg (by omega)]
        exact gv j (by omega)
  · rintro m Mi hP
    simp only [lp_X8_readTape_88]
    rw [if_pos (Int32.le_refl _), wp_some]
    exact hP
theorem r_readLoop (S : Sh2 h A) (hn : n < 12) (hk : kind < 6) (hu : u ≤ 400) (hc : t + cnt ≤ 400) :
    wp (lp_X9_read_89 h (Int32.ofNat t) (Int32.ofNat cnt) (Int32.ofNat (szN kind)) (Int32.ofNat u) (Int32.ofNat n) (Int32.ofNat kind) (A 0) (A 1) fuel (0 : Int32) M0) (fun z => FB A (fun i j => i = 1 ∧ 404 * n + 4 + t ≤ j ∧ j < 404 * n + 4 + t + cnt) M0 z.2 ∧ ∀ j, j < cnt → zI z.2 (A 1) (404 * n + 4 + (t + j)) = valS (zI M0 (A 1) (404 * n)) (zI M0 (A 1) (404 * n + 1)) (zI M0 (A 1) (404 * n + 2)) (zI M0 (A 4)) u kind (t + j) j) := by
  have s := S.s
  have z8 := szN_le (kind := kind)
  refine loopW (fun m i (s : Mm) => lp_X9_read_89 h (Int32.ofNat t) (Int32.ofNat cnt) (Int32.ofNat (szN kind)) (Int32.ofNat u) (Int32.ofNat n) (Int32.ofNat kind) (A 0) (A 1) m (Int32.ofNat i) s) cnt (fun i z => FB A (fun i j => i = 1 ∧ 404 * n + 4 + t ≤ j ∧ j < 404 * n + 4 + t + cnt) M0 z ∧ ∀ j, j < i → zI z (A 1) (404 * n + 4 + (t + j)) = valS (zI M0 (A 1) (404 * n)) (zI M0 (A 1) (404 * n + 1)) (zI M0 (A 1) (404 * n + 2)) (zI M0 (A 4)) u kind (t + j) j) _ ?_ ?_ fuel 0 M0 (by omega) (by unfold fuel; omega) ⟨FB.rf, fun j hj => by omega⟩
  · rintro m i Mi hi ⟨F, gv⟩ ih
    have eb : zI Mi (A 4) = zI M0 (A 4) := funext fun j => F.i (by omega)
    have g0 : zI Mi (A 1) (404 * n) = zI M0 (A 1) (404 * n) := F.i (by omega)
    have g1 : zI Mi (A 1) (404 * n + 1) = zI M0 (A 1) (404 * n + 1) := F.i (by omega)
    have g2 : zI Mi (A 1) (404 * n + 2) = zI M0 (A 1) (404 * n + 2) := F.i (by omega)
    have f0 : 404 * n < 5328 := by omega
    have f1 : 404 * n + 1 < 5328 := by omega
    have f2 : 404 * n + 2 < 5328 := by omega
    have f3 : 404 * n + 4 + (t + i) < 5328 := by omega
    have zi : szN kind * (i + 1) = i * szN kind + szN kind := by rw [Nat.mul_comm, Nat.succ_mul]
    have zc : szN kind * i = i * szN kind := Nat.mul_comm _ _
    have o4 : i * szN kind < 4000 := by
      have := Nat.mul_le_mul (show i ≤ 400 by omega) z8.2
      omega
    simp only [lp_X9_read_89]
    rw [if_neg (by rw [i_le (by omega) (by omega)]; omega)]
    simp (disch := omega) only [lt_, i_mulL, i_addL, i_add, gd, s, i_inb, f0, f1, f2, f3, if_true, i_nat, g0, g1, g2]
    have eyy : (if ¬ zI M0 (A 1) (404 * n) = 3 then some (0 : Int32) else if Int32.ofNat (t + i) < zI M0 (A 1) (404 * n + (OfNat.ofNat 1 : Nat)) then some 0 else if zI M0 (A 1) (404 * n + (OfNat.ofNat 2 : Nat)) < Int32.ofNat (t + i) then some 0 else some 1) = some (if zI M0 (A 1) (404 * n) = 3 ∧ zI M0 (A 1) (404 * n + 1) ≤ Int32.ofNat (t + i) ∧ Int32.ofNat (t + i) ≤ zI M0 (A 1) (404 * n + 2) then 1 else 0) := by
      by_cases k3 : zI M0 (A 1) (404 * n) = 3
      · rw [if_neg (not_not_intro k3)]
        by_cases k4 : Int32.ofNat (t + i) < zI M0 (A 1) (404 * n + (OfNat.ofNat 1 : Nat))
        · rw [if_pos k4, if_neg (fun z => Int32.not_le.mpr k4 z.2.1)]
        · rw [if_neg k4]
          by_cases k5 : zI M0 (A 1) (404 * n + (OfNat.ofNat 2 : Nat)) < Int32.ofNat (t + i)
          · rw [if_pos k5, if_neg (fun z => Int32.not_le.mpr k5 z.2.2)]
          · rw [if_neg k5, if_pos ⟨k3, Int32.not_lt.mp k4, Int32.not_lt.mp k5⟩]
      · rw [if_pos k3, if_neg (fun z => k3 z.1)]
    have eww : ∀ y24 : Int32, (if y24 = 0 then (if Int32.ofNat (szN kind) * Int32.ofNat (i + (OfNat.ofNat 1 : Nat)) ≤ Int32.ofNat u then (f_X9_number h (A 0) (Int32.ofNat (szN kind) * Int32.ofNat i) (Int32.ofNat kind) Mi).bind fun z27 => some z27 else some (2000000 : Int32)) else some (3000000 : Int32)) = some (if y24 = 0 then (if i * szN kind + szN kind ≤ u then numS kind (accB (zI M0 (A 4)) (i * szN kind) (szN kind)) else 2000000) else 3000000) := by
      intro y24
      by_cases y : y24 = 0
      · rw [if_pos y, if_pos y, i_mul, i_mul, show szN kind * (i + (OfNat.ofNat 1 : Nat)) = i * szN kind + szN kind from zi, zc]
        by_cases g : i * szN kind + szN kind ≤ u
        · rw [if_pos (by rw [i_le (by omega) (by omega)]; exact g), if_pos g, r_number S hk (by omega), b_some, eb]
        · rw [if_neg (by rw [i_le (by omega) (by omega)]; exact g), if_neg g]
      · rw [if_neg y, if_neg y]
    rw [eyy, b_some, eww, b_some]
    refine ih _ ⟨F.sI S.2 ⟨rfl, by show 404 * n + 4 + t ≤ 404 * n + 4 + (t + i); omega, by show 404 * n + 4 + (t + i) < _; omega⟩, fun j hj => ?_⟩
    rw [zI_sI]
    by_cases e : j = i
    · subst e
      rw [if_pos ⟨rfl, rfl⟩]
      unfold valS
      by_cases g : zI M0 (A 1) (404 * n) = 3 ∧ zI M0 (A 1) (404 * n + 1) ≤ Int32.ofNat (t + j) ∧ Int32.ofNat (t + j) ≤ zI M0 (A 1) (404 * n + 2)
      · rw [if_pos g, if_pos g, if_neg (by decide)]
      · rw [if_neg g, if_neg g, if_pos rfl]
    · rw [if_neg (fun z => e (by have := z.2; omega))]
      exact gv j (by omega)
  · rintro m Mi hP
    simp only [lp_X9_read_89]
    rw [if_pos (Int32.le_refl _), wp_some]
    exact hP
end R
