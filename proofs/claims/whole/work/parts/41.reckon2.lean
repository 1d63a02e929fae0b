/-! THE CLASS: reckon, whole -/
theorem redu_mem {t : Nat → Int32} : ∀ {n : Nat} {P : List Nat} {C : List Cy} {x : Nat}, x ∈ (redu t n P C).1 → x ∈ P
  | 0, P, C, x, h => h
  | n + 1, P, C, x, h => by
    unfold redu at h
    split at h
    · split at h
      · have := redu_mem h
        simp only [List.mem_cons] at this ⊢
        rcases this with z | z | z <;> simp [z]
      · exact h
    · exact h
theorem pilN_mem {t : Nat → Int32} : ∀ {k x : Nat}, x ∈ (pilN t k).1 → x < k
  | 0, x, h => nomatch h
  | k + 1, x, h => by
    have := redu_mem (show x ∈ (redu t (k + 1) (k :: (pilN t k).1) (pilN t k).2).1 from h)
    rcases List.mem_cons.mp this with rfl | z
    · omega
    · have := pilN_mem z; omega
theorem pcB.sc {B : Nat → Nat} {b j : Nat} (h : pcB B b j) : scB B b j := by
  rcases h with ⟨e, -⟩ | e | e | e | e
  · exact ⟨3, by omega, by omega, e⟩
  · exact ⟨6, by omega, by omega, e⟩
  · exact ⟨7, by omega, by omega, e⟩
  · exact ⟨8, by omega, by omega, e⟩
  · exact ⟨9, by omega, by omega, e⟩
theorem pcB.n5 {B : Nat → Nat} (hB : ∀ i j, B i = B j → i = j) {j : Nat} : ¬ pcB B (B 5) j := by
  rintro (⟨e, -⟩ | e | e | e | e) <;> (have := hB _ _ e; omega)
theorem pcB.n3 {B : Nat → Nat} (hB : ∀ i j, B i = B j → i = j) {j : Nat} (hj : j < 10) : ¬ pcB B (B 3) j := by
  rintro (⟨-, e⟩ | e | e | e | e)
  · omega
  all_goals (have := hB _ _ e; omega)
/-- what the class's row holds behind a reckoning -/
def LKc (M : Mm) (B : Nat → Nat) (L T : List Int32) (P : List Nat) (C : List Cy) (g r : Nat) : Prop :=
  zI M (B 3) 6 = Int32.ofNat g ∧ zI M (B 3) 7 = Int32.ofNat r ∧ zI M (B 3) 8 = Int32.ofNat L.length ∧ zI M (B 3) 9 = Int32.ofNat T.length ∧ stk M (B 5) T ∧ PC M B P C
section PU
variable {h : Hs} {B : Nat → Nat} {M : Mm} {T : List Int32} {I : Nat → Int32} {p from_ : Nat}
theorem x_pileUp (hB : ∀ i j, B i = B j → i = j) (s : RwA h B) (hT4 : T.length ≤ 400) (h9 : zI M (B 3) 9 = Int32.ofNat T.length) (hT : stk M (B 5) T) :
    wp (f_X5_pileUp h (B 3) M) (fun M' => Fm (pcB B) M M' ∧ PC M' B (pilL T).1 (pilL T).2) := by
  have q : ∀ i j, (B i = B j) = (i = j) := fun i j => propext ⟨hB i j, fun e => by rw [e]⟩
  unfold f_X5_pileUp
  rw [wp_gd]
  refine ⟨⟨s.1.1, s.1.2⟩, ?_⟩
  rw [wp_lt, wp_lt, wp_bind]
  refine loopW (fun n k s => lp_X5_pileUp_12 h (B 3) n (Int32.ofNat k) s) T.length (fun k M' => Fm (pcB B) M M' ∧ PC M' B (pilN (nth T) k).1 (pilN (nth T) k).2) _ ?_ ?_ fuel 0 _ (by omega) (by unfold fuel; omega) ⟨(Fm.rf.sI (Or.inl ⟨rfl, Or.inl rfl⟩)).sI (Or.inl ⟨rfl, Or.inr rfl⟩), by simp [zI_sI]; rfl, by simp [zI_sI]; rfl, trivial, trivial, trivial, trivial⟩
  · intro n k M1 hk ⟨F, pc⟩ ih
    have hlen := pilN_len (nth T) k
    have e9 : zI M1 (B 3) 9 = Int32.ofNat T.length := by rw [F.i (pcB.n3 hB (by omega))]; exact h9
    have hT1 : stk M1 (B 5) T := hT.congr fun i _ => F.i (pcB.n5 hB)
    have hx : ∀ x ∈ (pilN (nth T) k).1, x < k := fun x hx => pilN_mem hx
    have hstep : pilN (nth T) (k + 1) = redu (nth T) (k + 1) (k :: (pilN (nth T) k).1) (pilN (nth T) k).2 := rfl
    generalize (pilN (nth T) k).1 = P at *
    generalize (pilN (nth T) k).2 = C at *
    obtain ⟨h10, h11, hS, h7, h8, h9'⟩ := pc
    have f2 : ¬ 400 ≤ P.length := by omega
    have f3 : P.length < 400 := by omega
    simp only [lp_X5_pileUp_12]
    rw [e9, if_neg (by rw [i_le (by omega) (by omega)]; omega), wp_bind, h10, if_neg (by rw [i_neg (by omega)]; exact id)]
    simp (disch := omega) only [dq, gd, ok, s, and_self, if_true, i_le, f2, if_false, i_inb, f3, i_nat]
    refine wp_ltE fun M2 e2 => ?_
    have c2 : zI M2 (B 3) 10 = Int32.ofNat P.length := by rw [e2, zI_sI]; simpa [q] using h10
    rw [c2, i_addL, wp_lt, wp_some, wp_bind]
    have F3 : Fm (pcB B) M (sI M2 (B 3) 10 (Int32.ofNat (P.length + (OfNat.ofNat 1 : Nat)))) := by
      rw [e2]; exact (F.sI (Or.inr (Or.inl rfl))).sI (Or.inl ⟨rfl, Or.inl rfl⟩)
    have p3 : PC (sI M2 (B 3) 10 (Int32.ofNat (P.length + (OfNat.ofNat 1 : Nat)))) B (k :: P) C := by
      rw [e2]
      refine ⟨by rw [zI_sI, if_pos ⟨rfl, rfl⟩]; rfl, by simpa [zI_sI, q] using h11, ⟨by simp [zI_sI, q], hS.congr fun i hi => ?_⟩, h7.congr fun i _ => by simp [zI_sI, q], h8.congr fun i _ => by simp [zI_sI, q], h9'.congr fun i _ => by simp [zI_sI, q]⟩
      simp only [List.length_map] at hi
      have : ¬ i = P.length := by omega
      simp [zI_sI, q, this]
    refine (x_reduce hB s (T := T) hT4 (k + 1) (k :: P) C 0 fuel _ (by simp; omega) (by unfold fuel; omega) (by simp; omega) (by simp; omega) (by simp; omega) (fun x hx2 => ?_) (hT1.congr fun i _ => ?_) p3).mono ?_
    · rcases List.mem_cons.mp hx2 with rfl | z
      · exact hk
      · have := hx x z; omega
    · rw [e2]; simp [zI_sI, q]
    rintro ⟨v, M4⟩ ⟨F4, p4⟩
    rw [wp_lt, i_addL]
    refine ih M4 ⟨F3.tr F4, ?_⟩
    rw [hstep]; exact p4
  · intro n M1 ⟨F, pc⟩
    have e9 : zI M1 (B 3) 9 = Int32.ofNat T.length := by rw [F.i (pcB.n3 hB (by omega))]; exact h9
    simp only [lp_X5_pileUp_12]
    rw [e9, if_pos (Int32.le_refl _), wp_some, wp_some]
    exact ⟨F, pc⟩
theorem x_reckon (hB : ∀ i j, B i = B j → i = j) (s : RwA h B) (sb : BdA h B 0) (w : WF I) (hn : p < 12) (hg : isG I p) (r : PRs M B 0 I) (hf : from_ ≤ 400) :
    wp (f_X5_reckon h (B 3) (aB B 0) (aP B 0 p) (Int32.ofNat from_) M) (fun M' => Fm (scB B) M M' ∧ LKc M' B (rowL I p from_) (trnL I p from_) (pilL (trnL I p from_)).1 (pilL (trnL I p from_)).2 (gapF I p from_ (spS I p - from_)) (redF I p from_ (spS I p - from_))) := by
  have q : ∀ i j, (B i = B j) = (i = j) := fun i j => propext ⟨hB i j, fun e => by rw [e]⟩
  have s3 : ∀ j, scB B (B 3) j := fun j => ⟨3, by omega, by omega, rfl⟩
  have hs := spS_le w hn
  unfold f_X5_reckon
  rw [wp_gd]
  refine ⟨⟨s.1.1, s.1.2⟩, ?_⟩
  rw [wp_lt, wp_lt, wp_lt, wp_gd]
  refine ⟨⟨sb.1.1, sb.1.2⟩, ?_⟩
  generalize hM0 : sI (sI (sI M (B 3) 6 0) (B 3) 7 0) (B 3) 8 0 = M0
  have F0 : Fm (scB B) M M0 := by rw [← hM0]; exact ((Fm.rf.sI (s3 _)).sI (s3 _)).sI (s3 _)
  have r0 := r.scr hB F0
  rw [wp_bind, x_spansOf sb r0 w hn hg, wp_some, wp_bind]
  refine (x_rowLoop hB s sb w hn hg r0 hf (by rw [← hM0]; simp [zI_sI]) (by rw [← hM0]; simp [zI_sI]) (by rw [← hM0]; simp [zI_sI])).mono ?_
  rintro ⟨v1, M1⟩ ⟨F1, h6, h7, h8, hS⟩
  have F1 : Fm (scB B) M M1 := F0.tr F1
  have sp := sb.2.2.2.2.2.2.2.2.2.1 p hn
  rw [wp_gd]
  refine ⟨⟨sp.1.1, sp.1.2⟩, ?_⟩
  have ek : zI M1 (aP B 0 p) 1 = I (404 * p) := ((r.scr hB F1) p hn).1
  have hRl := rowF_len I p from_ (spS I p - from_)
  -- the row, turned where it must be
  rw [wp_bind]
  have row : wp (if ¬ zI M1 (aP B 0 p) 1 = 2 then some M1 else dq (zR h (B 3) 0) fun q16 => (f_X5_copyTurns h q16 (zI M1 (B 3) 8) q16 M1).bind fun z17 => lt_ (sI z17.2 (B 3) 8 z17.1) fun M18 => some M18)
      (fun M2 => Fm (scB B) M M2 ∧ zI M2 (B 3) 6 = Int32.ofNat (gapF I p from_ (spS I p - from_)) ∧ zI M2 (B 3) 7 = Int32.ofNat (redF I p from_ (spS I p - from_)) ∧ zI M2 (B 3) 8 = Int32.ofNat (rowL I p from_).length ∧ stk M2 (B 4) (rowL I p from_)) := by
    rw [ek]
    unfold rowL
    by_cases e : I (404 * p) = 2
    · have h8 : zI M1 (B 3) 8 = _ := h8
      rw [if_neg (not_not_intro e), s.2.1, wp_dq, wp_bind, h8, if_pos e]
      refine (x_copyTurns (f := nth (rowF I p from_ (spS I p - from_))) s.2.2.2.2.2.2.2.1 s.2.2.2.2.2.2.2.1 s.2.2.2.2.2.2.2.2.2.2.2.2.2.1 s.2.2.2.2.2.2.2.2.2.2.2.2.2.1 (by omega) (fun i hi => hS.get hi)).mono ?_
      rintro ⟨v2, M2⟩ ⟨hv, F2, hS2⟩
      have hv : v2 = _ := hv
      have F2' : Fm (scB B) M M2 := F1.tr (F2.up fun b j e => ⟨4, by omega, by omega, e⟩)
      rw [wp_lt, wp_some, hv]
      refine ⟨F2'.sI (s3 _), ?_, ?_, ?_, ?_⟩
      · rw [zI_sI, if_neg (by simp), F2.i (by simp [q])]; exact h6
      · rw [zI_sI, if_neg (by simp), F2.i (by simp [q])]; exact h7
      · rw [zI_sI]; simp
      · exact hS2.congr fun i _ => by rw [zI_sI]; simp [q]
    · rw [if_pos e, if_neg e, wp_some]
      exact ⟨F1, h6, h7, h8, hS⟩
  refine row.mono ?_
  rintro M2 ⟨F2, h6, h7, h8, hS⟩
  have hLl := rowL_len I p from_
  rw [s.2.1, wp_dq, s.2.2.1, wp_dq, wp_bind, h8]
  refine (x_copyTurns (f := nth (rowL I p from_)) s.2.2.2.2.2.2.2.1 s.2.2.2.2.2.2.2.2.1 s.2.2.2.2.2.2.2.2.2.2.2.2.2.1 s.2.2.2.2.2.2.2.2.2.2.2.2.2.2.1 (by omega) (fun i hi => hS.get hi)).mono ?_
  rintro ⟨v3, M3⟩ ⟨hv, F3, hS3⟩
  have hv : v3 = Int32.ofNat (trnL I p from_).length := hv
  have hS3 : stk M3 (B 5) (trnL I p from_) := hS3
  have F3' : Fm (scB B) M M3 := F2.tr (F3.up fun b j e => ⟨5, by omega, by omega, e⟩)
  have hTl := trnL_len I p from_
  rw [wp_lt, wp_bind, hv]
  refine (x_pileUp hB s (T := trnL I p from_) (by omega) (by rw [zI_sI]; simp) (hS3.congr fun i _ => by rw [zI_sI]; simp [q])).mono ?_
  rintro M4 ⟨F4, pc⟩
  rw [wp_some]
  have g3 : ∀ j, j < 10 → zI M4 (B 3) j = zI (sI M3 (B 3) 9 (Int32.ofNat (trnL I p from_).length)) (B 3) j := fun j hj => F4.i (pcB.n3 hB hj)
  refine ⟨(F3'.sI (s3 _)).tr (F4.up fun b j z => z.sc), ?_, ?_, ?_, ?_, ?_, pc⟩
  · rw [g3 6 (by omega), zI_sI, if_neg (by simp), F3.i (by simp [q])]; exact h6
  · rw [g3 7 (by omega), zI_sI, if_neg (by simp), F3.i (by simp [q])]; exact h7
  · rw [g3 8 (by omega), zI_sI, if_neg (by simp), F3.i (by simp [q])]; exact h8
  · rw [g3 9 (by omega), zI_sI]; simp
  · exact hS3.congr fun i _ => by rw [F4.i (pcB.n5 hB), zI_sI]; simp [q]
end PU
