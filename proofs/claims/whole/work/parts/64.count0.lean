/-! WEAR: the reference -/
theorem i_sub {a b : Nat} (h : b ≤ a) : Int32.ofNat a - Int32.ofNat b = Int32.ofNat (a - b) := (Int32.ofNat_sub a b h).symm
theorem i64n {g : Nat} (h : g < 2147483648) : (Int32.ofNat g).toInt64 = Int64.ofNat g := Int32.toInt64_ofNat' (by
  rw [show Int32.maxValue.toInt = 2147483647 by decide]; omega)
theorem i64s {g : Nat} {e : Int64} (h : g + 1 < 2147483648) : (Int32.ofNat g).toInt64 * e + e = (Int32.ofNat (g + 1)).toInt64 * e := by
  rw [i64n (by omega), i64n h, Int64.ofNat_add, Int64.add_mul]
  congr 1
  exact (Int64.one_mul e).symm
def begS (I : Nat → Int32) (d : Nat) : Nat := (I (4848 + 40 * d + 1)).toNatClampNeg
def gOf (I : Nat → Int32) (d : Nat) : Option Nat := if (0 ≤ I (4848 + 40 * d) ∧ I (4848 + 40 * d) < 12) ∧ isG I (I (4848 + 40 * d)).toNatClampNeg then some (I (4848 + 40 * d)).toNatClampNeg else none
def wpA (I : Nat → Int32) (d : Nat) : Nat → Int64 := match gOf I d with
  | none => fun _ => 0
  | some m => wpt I d (trnL I m (begS I d)) (pilL (trnL I m (begS I d))).1 (pilL (trnL I m (begS I d))).2 ((pilL (trnL I m (begS I d))).2.length + ((pilL (trnL I m (begS I d))).1.length - 1))
def wgA (I : Nat → Int32) (d : Nat) : Int64 := match gOf I d with
  | none => 0
  | some m => (Int32.ofNat (gapF I m (begS I d) (spS I m - begS I d))).toInt64 * (1441440000000 / berS I d (bndS I d (I (4848 + 40 * d + 25))))
theorem redu_ne {t : Nat → Int32} : ∀ {n : Nat} {P : List Nat} {C : List Cy}, P ≠ [] → (redu t n P C).1 ≠ []
  | 0, P, C, h => h
  | n + 1, P, C, h => by
    unfold redu
    split
    · split
      · exact redu_ne (by simp)
      · exact h
    · exact h
theorem pil_pos {t : Nat → Int32} : ∀ {k : Nat}, 0 < k → 1 ≤ (pilN t k).1.length
  | k + 1, _ => by
    have := redu_ne (t := t) (n := k + 1) (P := k :: (pilN t k).1) (C := (pilN t k).2) (by simp)
    rcases hh : (pilN t (k + 1)).1 with _ | ⟨x, r⟩
    · exact absurd hh this
    · simp
theorem WFd.beg {I : Nat → Int32} {d : Nat} (w : WFd I d) : begS I d ≤ 400 ∧ I (4848 + 40 * d + 1) = Int32.ofNat (begS I d) := by
  obtain ⟨s, hs, e⟩ := w.2.1
  have : begS I d = s := by unfold begS; rw [e, i_nat (by omega)]
  rw [this]; exact ⟨hs, e⟩
/-- a detail's place: nowhere, no gauge, or a gauge -/
theorem gOf_cases {I : Nat → Int32} {d : Nat} (w : WFd I d) : (gOf I d = none ∧ (I (4848 + 40 * d) = -1 ∨ ∃ m, m < 12 ∧ I (4848 + 40 * d) = Int32.ofNat m ∧ ¬ isG I m)) ∨ ∃ m, m < 12 ∧ I (4848 + 40 * d) = Int32.ofNat m ∧ isG I m ∧ gOf I d = some m := by
  rcases w.1 with e | ⟨m, hm, e⟩
  · refine Or.inl ⟨?_, Or.inl e⟩
    unfold gOf
    rw [e, if_neg (fun z => absurd z.1 (by decide))]
  · have em : (I (4848 + 40 * d)).toNatClampNeg = m := by rw [e, i_nat (by omega)]
    have r12 : 0 ≤ I (4848 + 40 * d) ∧ I (4848 + 40 * d) < 12 := by
      rw [e]
      refine ⟨?_, ?_⟩
      · rw [show (0 : Int32) = Int32.ofNat 0 from rfl, i_le (by omega) (by omega)]; omega
      · rw [show (12 : Int32) = Int32.ofNat 12 from rfl, i_lt (by omega) (by omega)]; exact hm
    by_cases g : isG I m
    · refine Or.inr ⟨m, hm, e, g, ?_⟩
      unfold gOf
      rw [em, if_pos ⟨r12, g⟩]
    · refine Or.inl ⟨?_, Or.inr ⟨m, hm, e, g⟩⟩
      unfold gOf
      rw [em, if_neg (fun z => g z.2)]
section W
variable {h : Hs} {A : Nat → Nat} {M : Mm} {d m : Nat} {T L : List Int32} {P : List Nat} {C : List Cy}
theorem r_items (S : Sh2 h A) {I : Nat → Int32} (hI : zI M (A 1) = I) (hd : d < 12) (wd : WFd I d) (h16 : zI M (A 0) 16 = Int32.ofNat C.length) (h19 : zI M (A 0) 19 = Int32.ofNat P.length) (hT : stk M (A 6) T) (sA : stk M (A 8) (C.map fun c => Int32.ofNat c.1)) (sB : stk M (A 9) (C.map fun c => Int32.ofNat c.2.1)) (sR : stk M (A 12) (P.map (nth T)))
    (h4 : T.length ≤ 400) (hP4 : P.length ≤ 400) (hC2 : C.length ≤ 200) (hr : ∀ x ∈ T, rdg x) (hP : ∀ x ∈ P, x < T.length) (hC : ∀ y ∈ C, y.1 < T.length ∧ y.2.1 < T.length ∧ y.2.2 < T.length) (hPC : P.length = 0 → C.length = 0) (h0 : ∀ i, i < 7 → zJ M (A 13) i = 0) {w3 w2 : Int32} :
    wp (lp_X9_count0_73 h w3 w2 (Int32.ofNat d) (A 0) (A 1) fuel 0 0 M) (fun z => FB A (fun i _ => i = 13) M z.2.2 ∧ ∀ i, i < 7 → zJ z.2.2 (A 13) i = wpt I d T P C (C.length + (P.length - 1)) i) := by
  have s := S.s
  have q := S.e
  have d1 : ¬ (1 : Int32) = 0 := by decide
  refine loopW (fun n j (s : Int32 × Mm) => lp_X9_count0_73 h w3 w2 (Int32.ofNat d) (A 0) (A 1) n s.1 (Int32.ofNat j) s.2) (C.length + (P.length - 1)) (fun j s => FB A (fun i _ => i = 13) M s.2 ∧ s.1 = (if wwk I d T P C j = true then 1 else 0) ∧ ∀ i, i < 7 → zJ s.2 (A 13) i = wpt I d T P C j i) _ ?_ ?_ fuel 0 (0, M) (by omega) (by unfold fuel; omega) ⟨FB.rf, rfl, h0⟩
  · rintro n j ⟨v, M1⟩ hj ⟨F, hv, hp⟩ ih
    have F : FB A (fun i _ => i = 13) M M1 := F
    have hv : v = (if wwk I d T P C j = true then 1 else 0) := hv
    have hp : ∀ i, i < 7 → zJ M1 (A 13) i = wpt I d T P C j i := hp
    have hr1 : 1 ≤ P.length := by
      rcases Nat.eq_zero_or_pos P.length with z | z
      · have := hPC z; omega
      · exact z
    have e16 : zI M1 (A 0) 16 = Int32.ofNat C.length := (F.i (by omega)).trans h16
    have e19 : zI M1 (A 0) 19 = Int32.ofNat P.length := (F.i (by omega)).trans h19
    have eI : zI M1 (A 1) = I := by rw [← hI]; exact funext fun k => F.i (by omega)
    have wd1 : WFd (zI M1 (A 1)) d := by rw [eI]; exact wd
    have hT1 : stk M1 (A 6) T := hT.congr fun i _ => F.i (by omega)
    have f24 : 4848 + 40 * d + 24 < 5328 := by omega
    simp only [lp_X9_count0_73]
    rw [e16, e19, i_add, i_subL (by show 1 ≤ C.length + P.length; omega), if_pos (show Int32.ofNat j < Int32.ofNat (C.length + P.length - (OfNat.ofNat 1 : Nat)) by rw [i_lt (by omega) (by show C.length + P.length - 1 < _; omega)]; show j < C.length + P.length - 1; omega)]
    -- the effect
    have fin : ∀ (y20 : Int32) (Y : Int32), (y20 = 0 ↔ ¬ j < C.length) → Y = itE I d T P C j →
        wp (Option.bind (if ¬ v = 0 then some (1 : Int32) else (f_X9_base h (A 0) (Int32.ofNat d) M1).bind fun z38 => gd (inb (z38 + 24) (zN h (A 1))) (if Y < zI M1 (A 1) (z38 + 24).toNatClampNeg then some 0 else some 1)) fun y41 =>
          Option.bind (if ¬ y41 = 0 then (f_X9_boundOf h (A 0) (Int32.ofNat d) Y M1).bind fun z43 => dq (zR h (A 0) 20) fun q44 => gd (ok h q44 12) <| gd (inb z43 (zN h q44)) <| Option.bind (if y20 = 0 then some (720720000000 : Int64) else some (1441440000000 : Int64)) fun y47 => (f_X9_bears h (A 0) (Int32.ofNat d) z43 M1).bind fun z48 => gd (¬ z48 = 0) <| gd (inb z43 (zN h q44)) <| lt_ (sJ M1 q44 z43.toNatClampNeg ((zJ M1 q44 z43.toNatClampNeg) + (y47 / z48))) fun M51 => some M51 else some M1) fun y52 =>
          lt_ (Int32.ofNat j + 1) fun x53 => lp_X9_count0_73 h w3 w2 (Int32.ofNat d) (A 0) (A 1) n y41 x53 y52) (fun z => FB A (fun i _ => i = 13) M z.2.2 ∧ ∀ i, i < 7 → zJ z.2.2 (A 13) i = wpt I d T P C (C.length + (P.length - 1)) i) := by
      intro y20 Y hy hY
      have ey : (if ¬ v = 0 then some (1 : Int32) else (f_X9_base h (A 0) (Int32.ofNat d) M1).bind fun z38 => gd (inb (z38 + 24) (zN h (A 1))) (if Y < zI M1 (A 1) (z38 + 24).toNatClampNeg then some 0 else some 1)) = some (if wwk I d T P C (j + 1) = true then 1 else 0) := by
        unfold f_X9_base
        simp (disch := omega) only [b_some, i_mulL, i_Ladd, i_addL, gd, s, i_inb, f24, if_true, i_nat]
        rw [hv, eI, hY]
        show _ = some (if (wwk I d T P C j || !decide (itE I d T P C j < I (4848 + 40 * d + 24))) = true then 1 else 0)
        cases wwk I d T P C j with
        | true => rfl
        | false =>
          rw [if_neg (show ¬ ¬ (if false = true then (1 : Int32) else 0) = 0 by decide)]
          by_cases g : itE I d T P C j < I (4848 + 40 * d + 24) <;> simp [g]
      rw [ey, b_some]
      have b6 := bndS_ok (e := Y) wd
      have hB : bndS I d Y = itB I d T P C j := by rw [hY]; rfl
      cases hw : wwk I d T P C (j + 1) with
      | false =>
        rw [if_neg (show ¬ ¬ (if false = true then (1 : Int32) else 0) = 0 by decide), b_some, wp_lt, i_addL]
        refine ih (_, M1) ⟨F, by rw [hw]; rfl, fun i hi => ?_⟩
        show zJ M1 (A 13) i = if wwk I d T P C (j + 1) = true ∧ i = itB I d T P C j then _ else _
        rw [hw, if_neg (fun z => absurd z.1 (by decide))]
        exact hp i hi
      | true =>
        rw [if_pos (show ¬ (if true = true then (1 : Int32) else 0) = 0 by decide), r_boundOf S hd wd1, eI, b_some]
        have f2 : bndS I d Y < 7 := by omega
        have okb := berS_ok wd b6.2
        have e47 : (if y20 = 0 then some (720720000000 : Int64) else some (1441440000000 : Int64)) = some (if j < C.length then 1441440000000 else 720720000000) := by
          by_cases g : j < C.length
          · rw [if_pos g, if_neg (fun z => (hy.mp z) g)]
          · rw [if_neg g, if_pos (hy.mpr g)]
        rw [e47]
        simp (disch := omega) only [dq, gd, ok, s, and_self, if_true, i_inb, f2, i_nat, b_some, r_bears S hd b6.1, eI]
        rw [if_pos okb.nz, wp_bind, wp_lt, wp_some, wp_lt, i_addL]
        refine ih (_, _) ⟨F.sJ S.2 rfl, by rw [hw]; rfl, fun i hi => ?_⟩
        show zJ (sJ M1 (A 13) _ _) (A 13) i = if wwk I d T P C (j + 1) = true ∧ i = itB I d T P C j then wpt I d T P C j i + itU I d T P C j else wpt I d T P C j i
        rw [hw, zJ_sJ, hB]
        by_cases g : i = itB I d T P C j
        · subst g
          rw [if_pos (And.intro rfl rfl : A 13 = A 13 ∧ itB I d T P C j = itB I d T P C j), if_pos (And.intro rfl rfl : true = true ∧ itB I d T P C j = itB I d T P C j), hp _ hi]
          rfl
        · rw [if_neg (fun z => g z.2), if_neg (fun z => g z.2)]
          exact hp i hi
    by_cases g : j < C.length
    · obtain ⟨y, hy, y1, y2⟩ := cy_mem g
      have hyT := hC y hy
      have e8 : zI M1 (A 8) j = Int32.ofNat y.1 := by rw [F.i (by omega), sA.get (by simpa using g), y1]; exact nth_map g
      have e9 : zI M1 (A 9) j = Int32.ofNat y.2.1 := by rw [F.i (by omega), sB.get (by simpa using g), y2]; exact nth_map g
      have hj2 : j < 200 := by omega
      rw [if_neg (show ¬ Int32.ofNat C.length ≤ Int32.ofNat j by rw [i_le (by omega) (by omega)]; omega), b_some, if_neg d1, b_some, if_neg d1, b_some, if_neg d1,
        r_rangeOf S hT1 h4 hj2 e8 e9 ⟨hyT.1, hyT.2.1⟩, b_some, r_meanOf S hT1 h4 hj2 e8 e9 ⟨hyT.1, hyT.2.1⟩, b_some, r_effect S hd wd1 (far_ok (hr _ (nth_mem hyT.1)) (hr _ (nth_mem hyT.2.1))), b_some, b_some]
      refine fin 1 _ ⟨fun z => absurd z d1, fun z => absurd g z⟩ ?_
      unfold itE
      rw [if_pos g, eI, y1, y2]
    · have k1 : j - C.length < P.length := by omega
      have k2 : j - C.length + 1 < P.length := by omega
      have f1 : j - C.length < 400 := by omega
      have f2 : j - C.length + 1 < 400 := by omega
      have e12 : zI M1 (A 12) (j - C.length) = nth T (pG P (j - C.length)) := by rw [F.i (by omega), sR.get (by simpa using k1)]; exact nth_mapP k1
      have e12' : zI M1 (A 12) (j - C.length + 1) = nth T (pG P (j - C.length + 1)) := by rw [F.i (by omega), sR.get (by simpa using k2)]; exact nth_mapP k2
      have hx := hr _ (nth_mem (hP _ (pG_mem k1)))
      have hy := hr _ (nth_mem (hP _ (pG_mem k2)))
      rw [if_pos (show Int32.ofNat C.length ≤ Int32.ofNat j by rw [i_le (by omega) (by omega)]; omega), b_some, if_pos rfl, i_sub (by omega)]
      have hfar : ∀ a b : Int32, (if a ≤ b then some (b - a) else some (a - b)) = some (far a b) := fun a b => by unfold far; split <;> rfl
      simp (disch := omega) only [dq, gd, ok, s, and_self, if_true, i_inb, f1, i_nat, e12, b_some, i_addL]
      rw [if_pos (show j - C.length + (OfNat.ofNat 1 : Nat) < 400 from f2), show zI M1 (A 12) (j - C.length + (OfNat.ofNat 1 : Nat)) = nth T (pG P (j - C.length + 1)) from e12', b_some, hfar, b_some, r_effect S hd wd1 (far_ok hx hy), b_some, b_some]
      have FN := fin 0 _ ⟨fun _ => g, fun _ => rfl⟩ (show effS (zI M1 (A 1)) d (far (nth T (pG P (j - C.length))) (nth T (pG P (j - C.length + 1)))) (nth T (pG P (j - C.length)) + nth T (pG P (j - C.length + 1))) = itE I d T P C j by unfold itE; rw [if_neg g, eI])
      simp only [dq, gd, ok, s, and_self, if_true, i_addL] at FN ⊢
      exact FN
  · rintro n ⟨v, M1⟩ ⟨F, hv, hp⟩
    have F : FB A (fun i _ => i = 13) M M1 := F
    have e16 : zI M1 (A 0) 16 = Int32.ofNat C.length := (F.i (by omega)).trans h16
    have e19 : zI M1 (A 0) 19 = Int32.ofNat P.length := (F.i (by omega)).trans h19
    have nlt : ¬ Int32.ofNat (C.length + (P.length - 1)) < zI M1 (A 0) 16 + zI M1 (A 0) 19 - 1 := by
      rw [e16, e19]
      rcases Nat.eq_zero_or_pos P.length with z | z
      · rw [hPC z, z]; decide
      · rw [i_add, i_subL (by show 1 ≤ C.length + P.length; omega), i_lt (by omega) (by show C.length + P.length - 1 < _; omega)]
        show ¬ C.length + (P.length - 1) < C.length + P.length - 1
        omega
    simp only [lp_X9_count0_73]
    rw [if_neg nlt, e16, if_pos (show Int32.ofNat C.length ≤ Int32.ofNat (C.length + (P.length - 1)) by rw [i_le (by omega) (by omega)]; omega), wp_some]
    exact ⟨F, hp⟩
theorem r_gaps (S : Sh2 h A) {I : Nat → Int32} (hI : zI M (A 1) = I) (w : WF I) (hm : m < 12) {b : Nat} (hb : b ≤ 400) (h21 : zJ M (A 0) 21 = 0) {e : Int64} {w2 : Int32} :
    wp (lp_X9_count0_343 h e (Int32.ofNat (spS I m)) (Int32.ofNat m) (A 0) fuel (Int32.ofNat b) M) (fun z => FB A (fun i j => i = 0 ∧ j = 21) M z.2 ∧ zJ z.2 (A 0) 21 = (Int32.ofNat (gapF I m b (spS I m - b))).toInt64 * e) := by
  have hs := spS_le w hm
  refine loopW (fun n k s => lp_X9_count0_343 h e (Int32.ofNat (spS I m)) (Int32.ofNat m) (A 0) n (Int32.ofNat (b + k)) s) (spS I m - b) (fun k M' => FB A (fun i j => i = 0 ∧ j = 21) M M' ∧ zJ M' (A 0) 21 = (Int32.ofNat (gapF I m b k)).toInt64 * e) _ ?_ ?_ fuel 0 M (by omega) (by unfold fuel; omega) ⟨FB.rf, by rw [h21]; exact Int64.zero_mul.symm⟩
  · intro n k M1 hk ⟨F, hg⟩ ih
    have eI : zI M1 (A 1) = I := by rw [← hI]; exact funext fun k => F.i (by omega)
    have c1 := r_at (M := M1) S hm (by rw [eI]; exact w) (k := b + k) (by omega)
    rw [eI] at c1
    have hG := gapF_le I m b k
    simp only [lp_X9_count0_343]
    rw [if_neg (by rw [i_le (by omega) (by omega)]; omega), c1, b_some]
    by_cases g : celS I m (b + k) = 2000000
    · rw [if_neg (not_not_intro g), b_some, wp_lt, wp_lt, i_addL, hg, i64s (by omega)]
      refine ih _ ⟨F.sJ S.2 ⟨rfl, rfl⟩, ?_⟩
      rw [zJ_sJ, if_pos ⟨rfl, rfl⟩]
      simp only [gapF, g, if_true]
    · rw [if_pos g, b_some, wp_lt, wp_lt, i_addL, hg, Int64.add_zero]
      refine ih _ ⟨F.sJ S.2 ⟨rfl, rfl⟩, ?_⟩
      rw [zJ_sJ, if_pos ⟨rfl, rfl⟩]
      simp only [gapF, g, if_false, Nat.add_zero]
  · intro n M1 ⟨F, hg⟩
    simp only [lp_X9_count0_343]
    rw [if_pos (by rw [i_le (by omega) (by omega)]; omega), wp_some]
    exact ⟨F, hg⟩
end W
