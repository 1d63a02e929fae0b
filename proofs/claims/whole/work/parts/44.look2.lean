/-! THE REFERENCE: look, whole -/
def LKr (M : Mm) (A : Nat → Nat) (L T : List Int32) (P : List Nat) (C : List Cy) : Prop :=
  zI M (A 0) 11 = Int32.ofNat L.length ∧ zI M (A 0) 12 = Int32.ofNat T.length ∧ stk M (A 6) T ∧ CC M A C ∧ zI M (A 0) 19 = Int32.ofNat P.length ∧ stk M (A 12) (P.map (nth T))
theorem flt_step {P : List Nat} {k : Nat} (hP : P.Pairwise (fun x y => y < x)) : P.filter (fun x => decide (x < k + 1)) = if k ∈ P then k :: P.filter (fun x => decide (x < k)) else P.filter (fun x => decide (x < k)) := by
  induction P with
  | nil => simp
  | cons x r ih =>
    obtain ⟨h1, h2⟩ := List.pairwise_cons.mp hP
    have ih := ih h2
    by_cases e : x = k
    · subst e
      have n1 : x ∉ r := fun z => Nat.lt_irrefl _ (h1 x z)
      rw [if_neg n1] at ih
      have a1 : (x :: r).filter (fun y => decide (y < x + 1)) = x :: r.filter (fun y => decide (y < x + 1)) := List.filter_cons_of_pos (by simp)
      have a2 : (x :: r).filter (fun y => decide (y < x)) = r.filter (fun y => decide (y < x)) := List.filter_cons_of_neg (by simp)
      rw [if_pos List.mem_cons_self, a1, a2, ih]
    · have e' : ¬ k = x := fun z => e z.symm
      by_cases g : x < k
      · have n1 : k ∉ r := fun z => by have := h1 k z; omega
        rw [if_neg n1] at ih
        have a1 : (x :: r).filter (fun y => decide (y < k + 1)) = x :: r.filter (fun y => decide (y < k + 1)) := List.filter_cons_of_pos (by simp; omega)
        have a2 : (x :: r).filter (fun y => decide (y < k)) = x :: r.filter (fun y => decide (y < k)) := List.filter_cons_of_pos (by simpa using g)
        rw [if_neg (by simp [e', n1]), a1, a2, ih]
      · have a1 : (x :: r).filter (fun y => decide (y < k + 1)) = r.filter (fun y => decide (y < k + 1)) := List.filter_cons_of_neg (by simp; omega)
        have a2 : (x :: r).filter (fun y => decide (y < k)) = r.filter (fun y => decide (y < k)) := List.filter_cons_of_neg (by simp; omega)
        rw [a1, a2, ih]
        by_cases m : k ∈ r
        · rw [if_pos m, if_pos (List.mem_cons_of_mem _ m)]
        · rw [if_neg m, if_neg (by simp [e', m])]
section L2
variable {h : Hs} {A : Nat → Nat} {M : Mm} {T : List Int32} {p from_ : Nat}
theorem r_lookA (S : Sh2 h A) (hT4 : T.length ≤ 400) (h12 : zI M (A 0) 12 = Int32.ofNat T.length) (hT : stk M (A 6) T) (h16 : zI M (A 0) 16 = 0) :
    wp (lp_X9_look_33 h (A 0) (A 6) fuel 0 M) (fun z => Fm (ccA A) M z.2 ∧ US z.2 (A 11) T.length (pilL T).1 ∧ CC z.2 A (pilL T).2) := by
  have s := S.s
  have q := S.e
  refine loopW (fun n k s => lp_X9_look_33 h (A 0) (A 6) n (Int32.ofNat k) s) T.length (fun k M' => Fm (ccA A) M M' ∧ US M' (A 11) k (pilN (nth T) k).1 ∧ CC M' A (pilN (nth T) k).2) _ ?_ ?_ fuel 0 M (by omega) (by unfold fuel; omega) ⟨Fm.rf, ⟨fun i hi => by omega, (fun x hx => nomatch hx), List.Pairwise.nil⟩, h16, trivial, trivial, trivial⟩
  · intro n k M1 hk ⟨F, hU, hC⟩ ih
    have hlen := pilN_len (nth T) k
    have hstep : pilN (nth T) (k + 1) = redu (nth T) (k + 1) (k :: (pilN (nth T) k).1) (pilN (nth T) k).2 := rfl
    have n012 : ¬ ccA A (A 0) 12 := by rintro (⟨-, z⟩ | z | z | z | z) <;> simp [q] at z
    have n6 : ∀ j, ¬ ccA A (A 6) j := by rintro j (⟨z, -⟩ | z | z | z | z) <;> simp [q] at z
    have e12 : zI M1 (A 0) 12 = Int32.ofNat T.length := by rw [F.i n012]; exact h12
    have hT1 : stk M1 (A 6) T := hT.congr fun i _ => F.i (n6 i)
    generalize (pilN (nth T) k).1 = P at *
    generalize (pilN (nth T) k).2 = C at *
    have f1 : k < 400 := by omega
    simp only [lp_X9_look_33]
    rw [e12, if_neg (by rw [i_le (by omega) (by omega)]; omega)]
    simp (disch := omega) only [dq, gd, ok, s, and_self, if_true, i_inb, f1, i_nat]
    refine wp_ltE fun M2 e2 => ?_
    rw [wp_bind]
    have F2 : Fm (ccA A) M M2 := by rw [e2]; exact F.sI (Or.inr (Or.inr (Or.inr (Or.inr rfl))))
    have U2 : US M2 (A 11) k P := by
      refine ⟨fun i hi => ?_, hU.2⟩
      have : ¬ i = k := by omega
      rw [e2, zI_sI, if_neg (by simp [this])]; exact hU.1 i hi
    have C2 : CC M2 A C := by
      obtain ⟨c1, c2, c3, c4⟩ := hC
      refine ⟨by rw [e2]; simpa [zI_sI, q] using c1, c2.congr fun i _ => ?_, c3.congr fun i _ => ?_, c4.congr fun i _ => ?_⟩ <;> (rw [e2]; simp [zI_sI, q])
    refine (r_strike S hT4 hk rfl (k + 1) P C fuel M2 (by omega) (by unfold fuel; omega) (by omega) U2 (by rw [e2]; simp [zI_sI]) (hT1.congr fun i _ => by rw [e2]; simp [zI_sI, q]) C2).mono ?_
    rintro ⟨v, M3⟩ ⟨P', k1, k2, k3, k4, k5⟩
    have k3 : ∀ i, k ≤ i → zI M3 (A 11) i = zI M2 (A 11) i := k3
    have k4 : US M3 (A 11) k P' := k4
    rw [wp_lt, i_addL]
    have e1 : (redu (nth T) (k + 1) (k :: P) C).1 = k :: P' := by rw [k1]
    refine ih M3 ⟨F2.tr k2, ?_, by rw [hstep]; exact k5⟩
    rw [hstep, e1]
    obtain ⟨u1, u2, u3⟩ := k4
    refine ⟨fun i hi => ?_, fun x hx => ?_, List.pairwise_cons.mpr ⟨fun x hx => u2 x hx, u3⟩⟩
    · by_cases e : i = k
      · subst e
        rw [k3 i (Nat.le_refl _), e2]
        simp [zI_sI]
      · rw [u1 i (by omega)]; simp [e]
    · rcases List.mem_cons.mp hx with rfl | z
      · omega
      · have := u2 x z; omega
  · intro n M1 ⟨F, hU, hC⟩
    have n012 : ¬ ccA A (A 0) 12 := by rintro (⟨-, z⟩ | z | z | z | z) <;> simp [q] at z
    have e12 : zI M1 (A 0) 12 = Int32.ofNat T.length := by rw [F.i n012]; exact h12
    simp only [lp_X9_look_33]
    rw [e12, if_pos (Int32.le_refl _), wp_some]
    exact ⟨F, hU, hC⟩
theorem r_lookB (S : Sh2 h A) (hT4 : T.length ≤ 400) {P : List Nat} (h12 : zI M (A 0) 12 = Int32.ofNat T.length) (hT : stk M (A 6) T) (h19 : zI M (A 0) 19 = 0) (hU : US M (A 11) T.length P) :
    wp (lp_X9_look_235 h (A 0) (A 6) fuel 0 M) (fun z => Fm (fun b j => (b = A 0 ∧ j = 19) ∨ b = A 12) M z.2 ∧ zI z.2 (A 0) 19 = Int32.ofNat P.length ∧ stk z.2 (A 12) (P.map (nth T))) := by
  have s := S.s
  have q := S.e
  have hlenP : ∀ k, (P.filter (fun x => decide (x < k))).length ≤ k := by
    intro k
    induction k with
    | zero => simp
    | succ k ih =>
      rw [flt_step hU.2.2]
      split
      · simp only [List.length_cons]; omega
      · omega
  have h0 : P.filter (fun x => decide (x < 0)) = [] := List.filter_eq_nil_iff.mpr (by simp)
  refine loopW (fun n k s => lp_X9_look_235 h (A 0) (A 6) n (Int32.ofNat k) s) T.length (fun k M' => Fm (fun b j => (b = A 0 ∧ j = 19) ∨ b = A 12) M M' ∧ zI M' (A 0) 19 = Int32.ofNat (P.filter (fun x => decide (x < k))).length ∧ stk M' (A 12) ((P.filter (fun x => decide (x < k))).map (nth T))) _ ?_ ?_ fuel 0 M (by omega) (by unfold fuel; omega) ⟨Fm.rf, by rw [h0]; exact h19, by rw [h0]; trivial⟩
  · intro n k M1 hk ⟨F, hl, hS⟩ ih
    have e12 : zI M1 (A 0) 12 = Int32.ofNat T.length := by rw [F.i (by simp [q])]; exact h12
    have e6 : zI M1 (A 6) k = nth T k := by rw [F.i (by simp [q]), hT.get hk]; rfl
    have e11 : zI M1 (A 11) k = zI M (A 11) k := F.i (by simp [q])
    have hl2 := hlenP k
    have hst := flt_step (k := k) hU.2.2
    have hu := hU.1 k hk
    generalize P.filter (fun x => decide (x < k)) = R at *
    have f1 : k < 400 := by omega
    have f2 : R.length < 400 := by omega
    simp only [lp_X9_look_235]
    rw [e12, if_neg (by rw [i_le (by omega) (by omega)]; omega)]
    simp (disch := omega) only [dq, gd, ok, s, and_self, if_true, i_inb, f1, i_nat, e11, hl, f2, e6, lt_, i_addL]
    by_cases z : zI M (A 11) k = 0
    · rw [if_pos z, wp_bind, wp_some]
      rw [if_pos (hu.mp z)] at hst
      have c1 : zI (sI M1 (A 12) R.length (nth T k)) (A 0) 19 = Int32.ofNat R.length := by simpa [zI_sI, q] using hl
      rw [c1, i_addL]
      refine ih _ ⟨(F.sI (Or.inr rfl)).sI (Or.inl ⟨rfl, rfl⟩), ?_, ?_⟩
      · rw [hst, zI_sI, if_pos ⟨rfl, rfl⟩]; rfl
      · rw [hst]
        refine ⟨by simp [zI_sI, q], hS.congr fun i hi => ?_⟩
        simp only [List.length_map] at hi
        have : ¬ i = R.length := by omega
        simp [zI_sI, q, this]
    · rw [if_neg z, wp_bind, wp_some]
      rw [if_neg fun m => z (hu.mpr m)] at hst
      refine ih _ ⟨F, ?_, ?_⟩
      · rw [hst]; exact hl
      · rw [hst]; exact hS
  · intro n M1 ⟨F, hl, hS⟩
    have e12 : zI M1 (A 0) 12 = Int32.ofNat T.length := by rw [F.i (by simp [q])]; exact h12
    have eP : P.filter (fun x => decide (x < T.length)) = P := List.filter_eq_self.mpr fun x hx => by simpa using hU.2.1 x hx
    rw [eP] at hl hS
    simp only [lp_X9_look_235]
    rw [e12, if_pos (Int32.le_refl _), wp_some]
    exact ⟨F, hl, hS⟩
theorem r_look (S : Sh2 h A) (w : WF (zI M (A 1))) (hn : p < 12) (hf : from_ ≤ 400) :
    wp (f_X9_look h (A 0) (Int32.ofNat p) (Int32.ofNat from_) M) (fun M' => Fm (scA A) M M' ∧ LKr M' A (rowL (zI M (A 1)) p from_) (trnL (zI M (A 1)) p from_) (pilL (trnL (zI M (A 1)) p from_)).1 (pilL (trnL (zI M (A 1)) p from_)).2) := by
  have s := S.s
  have q := S.e
  have hs := spS_le w hn
  unfold f_X9_look
  rw [wp_gd]
  refine ⟨⟨s.1.1, s.1.2⟩, ?_⟩
  rw [wp_bind]
  refine (r_readRow S w hn hf).mono ?_
  rintro M1 ⟨F1, h11, hS⟩
  have k5 : ok h (A 5) 11 := s.2.2.2.2.2.2.2.2.2.2.2.2.2.2.2.2.2.2.1
  have k6 : ok h (A 6) 11 := s.2.2.2.2.2.2.2.2.2.2.2.2.2.2.2.2.2.2.2.1
  have n5 : zN h (A 5) = 400 := by simp only [s]
  have n6 : zN h (A 6) = 400 := by simp only [s]
  have r8 : zR h (A 0) 8 = some (A 5) := by simp only [s]
  have r9 : zR h (A 0) 9 = some (A 6) := by simp only [s]
  have hLl := rowL_len (zI M (A 1)) p from_
  have hTl := trnL_len (zI M (A 1)) p from_
  rw [r8, wp_dq, r9, wp_dq, wp_bind, h11]
  refine (r_turnsOf (f := nth (rowL (zI M (A 1)) p from_)) k5 k6 n5 n6 (by simp [q]) (by omega) (fun i hi => hS.get hi)).mono ?_
  rintro ⟨v2, M2⟩ ⟨hv0, F2, hS0⟩
  have hv : v2 = Int32.ofNat (trnL (zI M (A 1)) p from_).length := hv0
  have hS2 : stk M2 (A 6) (trnL (zI M (A 1)) p from_) := hS0
  clear hv0 hS0
  have h11b : zI M2 (A 0) 11 = Int32.ofNat (rowL (zI M (A 1)) p from_).length := by rw [F2.i (by simp [q])]; exact h11
  have F2' : Fm (scA A) M M2 := F1.tr (F2.up fun b j z => Or.inr ⟨6, by omega, by omega, z⟩)
  generalize trnL (zI M (A 1)) p from_ = T at *
  generalize rowL (zI M (A 1)) p from_ = L at *
  rw [wp_lt, wp_lt, wp_bind, hv]
  refine (r_lookA (T := T) S (by omega) (by simp [zI_sI]) (hS2.congr fun i _ => by simp [zI_sI, q]) (by simp [zI_sI])).mono ?_
  rintro ⟨v3, M3⟩ ⟨F3, hU, hC⟩
  have hU : US M3 (A 11) T.length (pilL T).1 := hU
  have hC : CC M3 A (pilL T).2 := hC
  have n0 : ∀ j, j ≠ 16 → ¬ ccA A (A 0) j := by
    rintro j hj (⟨-, z⟩ | z | z | z | z)
    · exact hj z
    all_goals simp [q] at z
  have n6' : ∀ j, ¬ ccA A (A 6) j := by rintro j (⟨z, -⟩ | z | z | z | z) <;> simp [q] at z
  have F3' : Fm (scA A) M M3 := ((F2'.sI (Or.inl ⟨rfl, Or.inr (Or.inl rfl)⟩)).sI (Or.inl ⟨rfl, Or.inr (Or.inr (Or.inl rfl))⟩)).tr (F3.up fun b j z => by
    rcases z with z | z | z | z | z
    · exact Or.inl ⟨z.1, Or.inr (Or.inr (Or.inl z.2))⟩
    · exact Or.inr ⟨8, by omega, by omega, z⟩
    · exact Or.inr ⟨9, by omega, by omega, z⟩
    · exact Or.inr ⟨10, by omega, by omega, z⟩
    · exact Or.inr ⟨11, by omega, by omega, z⟩)
  have e12 : zI M3 (A 0) 12 = Int32.ofNat T.length := by rw [F3.i (n0 12 (by decide))]; simp [zI_sI]
  have e11 : zI M3 (A 0) 11 = Int32.ofNat L.length := by rw [F3.i (n0 11 (by decide))]; simpa [zI_sI] using h11b
  have hS3 : stk M3 (A 6) T := hS2.congr fun i _ => by rw [F3.i (n6' i)]; simp [zI_sI, q]
  rw [wp_lt, wp_bind]
  refine (r_lookB (T := T) S (by omega) (by simpa [zI_sI] using e12) (hS3.congr fun i _ => by simp [zI_sI, q]) (by simp [zI_sI]) (P := (pilL T).1) ⟨fun i hi => by simpa [zI_sI, q] using hU.1 i hi, hU.2⟩).mono ?_
  rintro ⟨v4, M4⟩ ⟨F4, h19, hR⟩
  rw [wp_some]
  refine ⟨(F3'.sI (Or.inl ⟨rfl, Or.inr (Or.inr (Or.inr (Or.inl rfl)))⟩)).tr (F4.up fun b j z => ?_), ?_, ?_, ?_, ?_, h19, hR⟩
  · rcases z with z | z
    · exact Or.inl ⟨z.1, Or.inr (Or.inr (Or.inr (Or.inl z.2)))⟩
    · exact Or.inr ⟨12, by omega, by omega, z⟩
  · show zI M4 (A 0) 11 = _
    rw [F4.i (by simp [q])]; simpa [zI_sI] using e11
  · show zI M4 (A 0) 12 = _
    rw [F4.i (by simp [q])]; simpa [zI_sI] using e12
  · exact hS3.congr fun i _ => by show zI M4 (A 6) i = _; rw [F4.i (by simp [q])]; simp [zI_sI, q]
  · obtain ⟨c1, c2, c3, c4⟩ := hC
    refine ⟨?_, c2.congr fun i _ => ?_, c3.congr fun i _ => ?_, c4.congr fun i _ => ?_⟩
    · show zI M4 (A 0) 16 = _
      rw [F4.i (by simp [q])]; simpa [zI_sI] using c1
    all_goals (show zI M4 _ i = _; rw [F4.i (by simp [q])]; simp [zI_sI, q])
end L2
