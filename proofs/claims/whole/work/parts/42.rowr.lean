/-! THE REFERENCE: readRow -/
def scA (A : Nat → Nat) (b j : Nat) : Prop := (b = A 0 ∧ (j = 11 ∨ j = 12 ∨ j = 16 ∨ j = 19 ∨ j = 19)) ∨ ∃ i, 5 ≤ i ∧ i ≤ 12 ∧ b = A i
theorem scA.n {A : Nat → Nat} (hA : ∀ i j, A i = A j → i = j) {i j : Nat} (hi : 0 < i) (hi2 : i < 5) : ¬ scA A (A i) j := by
  rintro (⟨e, -⟩ | ⟨k, h1, h2, e⟩) <;> (have := hA _ _ e; omega)
theorem scA.n0 {A : Nat → Nat} (hA : ∀ i j, A i = A j → i = j) {j : Nat} (hj : ¬ (j = 11 ∨ j = 12 ∨ j = 16 ∨ j = 19 ∨ j = 19)) : ¬ scA A (A 0) j := by
  rintro (⟨-, e⟩ | ⟨k, h1, h2, e⟩)
  · exact hj e
  · have := hA _ _ e; omega
theorem Fm.fn {P : Nat → Nat → Prop} {M M' : Mm} (F : Fm P M M') {b : Nat} (n : ∀ j, ¬ P b j) : zI M' b = zI M b := funext fun j => F.i (n j)
section RR
variable {h : Hs} {A : Nat → Nat} {M : Mm} {p from_ : Nat}
theorem r_rowLoop (S : Sh2 h A) (w : WF (zI M (A 1))) (hn : p < 12) (hf : from_ ≤ 400) (e11 : zI M (A 0) 11 = 0) {c9 : ∀ k, from_ + k < spS (zI M (A 1)) p → lgl (celS (zI M (A 1)) p (from_ + k))} :
    wp (lp_X9_readRow_30 h (Int32.ofNat (spS (zI M (A 1)) p)) (if zI M (A 1) (404 * p) = 1 then 1 else 0) (Int32.ofNat p) (A 0) fuel (Int32.ofNat from_) M) (fun z => Fm (fun b j => (b = A 0 ∧ j = 11) ∨ b = A 5) M z.2 ∧ zI z.2 (A 0) 11 = Int32.ofNat (rowF (zI M (A 1)) p from_ (spS (zI M (A 1)) p - from_)).length ∧ stk z.2 (A 5) (rowF (zI M (A 1)) p from_ (spS (zI M (A 1)) p - from_))) := by
  have q := S.e
  have s := S.s
  have hs := spS_le w hn
  obtain ⟨I, hI⟩ : ∃ I, I = zI M (A 1) := ⟨_, rfl⟩
  rw [← hI] at w hs c9 ⊢
  refine loopW (fun n k s => lp_X9_readRow_30 h (Int32.ofNat (spS I p)) (if I (404 * p) = 1 then 1 else 0) (Int32.ofNat p) (A 0) n (Int32.ofNat (from_ + k)) s) (spS I p - from_) (fun k M' => Fm (fun b j => (b = A 0 ∧ j = 11) ∨ b = A 5) M M' ∧ zI M' (A 0) 11 = Int32.ofNat (rowF I p from_ k).length ∧ stk M' (A 5) (rowF I p from_ k)) _ ?_ ?_ fuel 0 M (by omega) (by unfold fuel; omega) ⟨Fm.rf, e11, trivial⟩
  · intro n k M1 hk ⟨F, h11, hS⟩ ih
    have hI1 : zI M1 (A 1) = I := by rw [hI]; exact F.fn fun j => by simp [q]
    have f1 : ¬ spS I p ≤ from_ + k := by omega
    have cl := c9 k (by omega)
    have hl := rowF_len I p from_ k
    have c1 := r_at (M := M1) S hn (by rw [hI1]; exact w) (k := from_ + k) (by omega)
    rw [hI1] at c1
    have hz1 : zI M1 (A 1) (404 * p + 1) = I (404 * p + 1) := by rw [hI1]
    simp only [lp_X9_readRow_30]
    rw [if_neg (by rw [i_le (by omega) (by omega)]; exact f1), wp_bind, c1, wp_some, wp_bind]
    have push : rowF I p from_ (k + 1) = celS I p (from_ + k) :: rowF I p from_ k → wp (some (sI (sI M1 (A 5) (rowF I p from_ k).length (celS I p (from_ + k))) (A 0) 11 (Int32.ofNat ((rowF I p from_ k).length + 1)))) (fun z => wp (lt_ (Int32.ofNat (from_ + k) + 1) fun x33 => lp_X9_readRow_30 h (Int32.ofNat (spS I p)) (if I (404 * p) = 1 then 1 else 0) (Int32.ofNat p) (A 0) n x33 z) fun z => Fm (fun b j => (b = A 0 ∧ j = 11) ∨ b = A 5) M z.2 ∧ zI z.2 (A 0) 11 = Int32.ofNat (rowF I p from_ (spS I p - from_)).length ∧ stk z.2 (A 5) (rowF I p from_ (spS I p - from_))) := by
      intro e
      rw [wp_some, wp_lt, i_addL]
      refine ih _ ⟨(F.sI (Or.inr rfl)).sI (Or.inl ⟨rfl, rfl⟩), ?_, ?_⟩
      · rw [e, zI_sI]; simp
      · rw [e]
        refine ⟨by simp [zI_sI, q], hS.congr fun i hi => ?_⟩
        have : ¬ i = (rowF I p from_ k).length := by omega
        simp [zI_sI, q, this]
    have skip : rowF I p from_ (k + 1) = rowF I p from_ k → wp (some M1) (fun z => wp (lt_ (Int32.ofNat (from_ + k) + 1) fun x33 => lp_X9_readRow_30 h (Int32.ofNat (spS I p)) (if I (404 * p) = 1 then 1 else 0) (Int32.ofNat p) (A 0) n x33 z) fun z => Fm (fun b j => (b = A 0 ∧ j = 11) ∨ b = A 5) M z.2 ∧ zI z.2 (A 0) 11 = Int32.ofNat (rowF I p from_ (spS I p - from_)).length ∧ stk z.2 (A 5) (rowF I p from_ (spS I p - from_))) := by
      intro e
      rw [wp_some, wp_lt, i_addL]
      refine ih _ ⟨F, ?_, ?_⟩
      · rw [e]; exact h11
      · rw [e]; exact hS
    by_cases g : celS I p (from_ + k) < 2000000
    · have g' : ¬ 2000000 ≤ celS I p (from_ + k) := Int32.not_le.mpr g
      have eR : rowF I p from_ (k + 1) = keepS (I (404 * p) = 1) (I (404 * p + 1)) (rowF I p from_ k) (celS I p (from_ + k)) := by simp only [rowF]; rw [if_neg g']
      rw [eR] at push skip
      have n0 : ¬ (11 : Nat) = (rowF I p from_ k).length ∨ True := Or.inr trivial
      rw [if_pos g]
      generalize rowF I p from_ k = R at *
      have f2 : R.length < 400 := by omega
      have d5 : ∀ v w, zI (sI M1 (A 5) v w) (A 0) 11 = Int32.ofNat R.length := fun v w => by simp [zI_sI, q, h11]
      have f3 : 404 * p + 1 < 5328 := by omega
      rcases R with _ | ⟨x, r⟩
      · have P := push rfl
        have e0 : Int32.ofNat ([] : List Int32).length = 0 := rfl
        rw [wp_bind, h11, e0, if_neg (by decide), wp_some, wp_bind]
        refine wp.mono (P := fun _ => True) (by split <;> exact ⟨_, rfl, trivial⟩) ?_
        rintro y -
        have d0 : (0 : Nat) < 400 := by decide
        have hi : inb (0 : Int32) 400 := by decide
        have ht : (0 : Int32).toNatClampNeg = 0 := rfl
        simp only [dq, gd, ok, s, and_self, if_true, inb, Int32.le_refl, ht] at hi ⊢
        rw [if_pos hi]
        rw [ite_self, wp_lt, show zI (sI M1 (A 5) 0 (celS I p (from_ + k))) (A 0) 11 = 0 from d5 _ _, wp_lt]
        exact P
      · simp only [i_addL] at push skip
        have e2 : (x :: r).length - 1 = r.length := by simp
        have e3 : r.length < 400 := by simp at f2; omega
        have e4 : 1 ≤ (x :: r).length := by simp
        have ex : zI M1 (A 5) r.length = x := hS.1
        have nz : ¬ Int32.ofNat (x :: r).length = 0 := by
          rw [show (0 : Int32) = Int32.ofNat 0 from rfl, i_inj (by omega) (by omega)]; simp
        have nl : ¬ Int32.ofNat (x :: r).length ≤ 0 := by
          rw [show (0 : Int32) = Int32.ofNat 0 from rfl, i_le (by omega) (by omega)]; simp
        rw [wp_bind, h11, if_pos nz]
        simp (disch := omega) only [dq, gd, ok, s, and_self, if_true, i_subL, e2, i_inb, e3, i_nat, ex, nl, if_false, i_mulL, i_addL, f3, f2, hz1]
        rw [wp_some, wp_bind]
        have hfar : (if celS I p (from_ + k) ≤ x then some (x - celS I p (from_ + k)) else some (celS I p (from_ + k) - x)) = some (far (celS I p (from_ + k)) x) := by
          unfold far; split <;> rfl
        rw [hfar, wp_some]
        by_cases e1 : I (404 * p) = 1
        · rw [if_neg (show ¬ (if I (404 * p) = 1 then (1 : Int32) else 0) = 0 by rw [if_pos e1]; decide)]
          by_cases e6 : I (404 * p + 1) ≤ far (celS I p (from_ + k)) x
          · rw [if_pos e6]
            rw [wp_lt, d5, wp_lt, i_addL]
            exact push (by simp only [keepS]; rw [if_neg fun z => Int32.not_lt.mpr e6 z.2])
          · rw [if_neg e6]
            exact skip (by simp only [keepS]; rw [if_pos ⟨e1, Int32.not_le.mp e6⟩])
        · rw [if_pos (show (if I (404 * p) = 1 then (1 : Int32) else 0) = 0 by rw [if_neg e1]), wp_lt, d5, wp_lt, i_addL]
          exact push (by simp only [keepS]; rw [if_neg fun z => e1 z.1])
    · rw [if_neg g]
      exact skip (by simp only [rowF]; rw [if_pos (Int32.not_lt.mp g)])
  · intro n M1 ⟨F, h11, hS⟩
    simp only [lp_X9_readRow_30]
    rw [if_pos (by rw [i_le (by omega) (by omega)]; omega), wp_some]
    exact ⟨F, h11, hS⟩
theorem celS_lgl {I : Nat → Int32} {n k : Nat} (w : WF I) (hn : n < 12) (hk : k < spS I n) : lgl (celS I n k) := by
  unfold celS
  unfold spS at hk
  obtain ⟨-, w4, t, ht, et, wk⟩ := w.1 n hn
  by_cases e : I (404 * n) = 4
  · obtain ⟨a, b, ha, hb, ea, eb⟩ := w4 e
    rw [if_pos e]
    unfold sumS lgl
    split
    · split
      · exact Or.inr (Or.inl rfl)
      · next g => exact Or.inl ⟨Int32.not_lt.mp fun z => g (Or.inr z), Int32.not_lt.mp fun z => g (Or.inl z)⟩
    · split
      · exact Or.inr (Or.inl rfl)
      · exact Or.inr (Or.inr rfl)
  · rw [if_neg e, et, i_nat (by omega)] at hk
    rw [if_neg e]
    exact wk k hk
theorem r_readRow (S : Sh2 h A) (w : WF (zI M (A 1))) (hn : p < 12) (hf : from_ ≤ 400) :
    wp (f_X9_readRow h (A 0) (Int32.ofNat p) (Int32.ofNat from_) M) (fun M' => Fm (scA A) M M' ∧ zI M' (A 0) 11 = Int32.ofNat (rowL (zI M (A 1)) p from_).length ∧ stk M' (A 5) (rowL (zI M (A 1)) p from_)) := by
  have q := S.e
  have s := S.s
  have hs := spS_le w hn
  unfold f_X9_readRow
  rw [wp_gd]
  refine ⟨⟨s.1.1, s.1.2⟩, ?_⟩
  rw [wp_lt]
  have hI0 : zI (sI M (A 0) 11 0) (A 1) = zI M (A 1) := funext fun j => by simp [zI_sI, q]
  have F0 : Fm (scA A) M (sI M (A 0) 11 0) := Fm.rf.sI (Or.inl ⟨rfl, Or.inl rfl⟩)
  rw [wp_bind, r_kindOf S hn, wp_some, wp_bind, hI0]
  have e4 : (if ¬ zI M (A 1) (404 * p) = 1 then some (0 : Int32) else some 1) = some (if zI M (A 1) (404 * p) = 1 then 1 else 0) := by
    by_cases e : zI M (A 1) (404 * p) = 1 <;> simp [e]
  have e5 := (r_spans (M := sI M (A 0) 11 0) S hn (by rw [hI0]; exact w)).1
  rw [hI0] at e5
  rw [e4, wp_some, wp_bind, e5, wp_some, wp_bind]
  have L := r_rowLoop (M := sI M (A 0) 11 0) (from_ := from_) S (by rw [hI0]; exact w) hn hf (by simp [zI_sI]) (c9 := fun k hk => celS_lgl (by rw [hI0]; exact w) hn hk)
  rw [hI0] at L
  refine L.mono ?_
  rintro ⟨v1, M1⟩ ⟨F1, h11, hS⟩
  have F1' : Fm (scA A) M M1 := F0.tr (F1.up fun b j z => by
    rcases z with z | z
    · exact Or.inl ⟨z.1, Or.inl z.2⟩
    · exact Or.inr ⟨5, by omega, by omega, z⟩)
  have h11 : zI M1 (A 0) 11 = _ := h11
  have hS : stk M1 (A 5) _ := hS
  have hI1 : zI M1 (A 1) = zI M (A 1) := F1'.fn fun j => scA.n S.2 (by omega) (by omega)
  have hRl := rowF_len (zI M (A 1)) p from_ (spS (zI M (A 1)) p - from_)
  rw [wp_bind, r_kindOf S hn, wp_some, hI1]
  unfold rowL
  by_cases e : zI M (A 1) (404 * p) = 2
  · rw [if_pos e, if_pos e, s.2.2.2.2.2.1, wp_dq, s.2.2.2.2.2.2.2.1, wp_dq, wp_bind]
    show wp (f_X9_turnsOf h (A 0) (A 5) (zI M1 (A 0) 11) (A 7) M1) _
    rw [h11]
    have k5 : ok h (A 5) 11 := s.2.2.2.2.2.2.2.2.2.2.2.2.2.2.2.2.2.2.1
    have k7 : ok h (A 7) 11 := s.2.2.2.2.2.2.2.2.2.2.2.2.2.2.2.2.2.2.2.2.1
    have n5 : zN h (A 5) = 400 := by simp only [s]
    have n7 : zN h (A 7) = 400 := by simp only [s]
    refine (r_turnsOf (f := nth (rowF (zI M (A 1)) p from_ (spS (zI M (A 1)) p - from_))) k5 k7 n5 n7 (by simp [q]) (by omega) (fun i hi => hS.get hi)).mono ?_
    rintro ⟨v2, M2⟩ ⟨hv, F2, hS2⟩
    have hv : v2 = _ := hv
    have hS2 : stk M2 (A 7) _ := hS2
    have hTl := tOn_len (nth (rowF (zI M (A 1)) p from_ (spS (zI M (A 1)) p - from_))) (rowF (zI M (A 1)) p from_ (spS (zI M (A 1)) p - from_)).length
    rw [wp_bind]
    show wp (lp_X9_readRow_191 h v2 (A 0) (A 5) (A 7) fuel 0 M2) _
    rw [hv]
    generalize tOn (nth (rowF (zI M (A 1)) p from_ (spS (zI M (A 1)) p - from_))) (rowF (zI M (A 1)) p from_ (spS (zI M (A 1)) p - from_)).length = T at *
    refine loopW (fun n k s => lp_X9_readRow_191 h (Int32.ofNat T.length) (A 0) (A 5) (A 7) n (Int32.ofNat k) s) T.length (fun k M' => Fm (scA A) M M' ∧ (∀ i, zI M' (A 7) i = zI M2 (A 7) i) ∧ ∀ i, i < k → zI M' (A 5) i = zI M2 (A 7) i) _ ?_ ?_ fuel 0 M2 (by omega) (by unfold fuel; omega) ⟨F1'.tr (F2.up fun b j z => Or.inr ⟨7, by omega, by omega, z⟩), fun _ => rfl, by omega⟩
    · intro n k M3 hk ⟨F3, g1, g2⟩ ih
      have f1 : ¬ T.length ≤ k := by omega
      have f2 : k < 400 := by omega
      simp only [lp_X9_readRow_191]
      simp (disch := omega) only [i_le, f1, if_false, gd, ok, s, and_self, if_true, i_inb, f2, i_nat, lt_, i_addL, g1]
      refine ih _ ⟨F3.sI (Or.inr ⟨5, by omega, by omega, rfl⟩), fun i => by simp [zI_sI, q, g1], fun i hi => ?_⟩
      by_cases e : i = k
      · subst e; simp [zI_sI]
      · simp [zI_sI, e]; exact g2 i (by omega)
    · intro n M3 ⟨F3, g1, g2⟩
      simp only [lp_X9_readRow_191]
      rw [if_pos (Int32.le_refl _), wp_some, wp_lt, wp_some]
      refine ⟨F3.sI (Or.inl ⟨rfl, Or.inl rfl⟩), ?_, ?_⟩
      · rw [zI_sI]; simp [hv]
      · refine stk.of (f := fun _ => 0) fun i hi => ?_
        rw [← hS2.get hi, ← g2 i hi]
        simp [zI_sI, q]
  · rw [if_neg e, if_neg e, wp_some]
    exact ⟨F1', h11, hS⟩
end RR
