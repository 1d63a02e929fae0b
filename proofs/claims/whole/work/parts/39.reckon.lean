/-! THE CLASS: reckon, first part: the row -/
theorem spS_le {I : Nat → Int32} {n : Nat} (w : WF I) (hn : n < 12) : spS I n ≤ 400 := by
  unfold spS
  obtain ⟨-, w4, t, ht, et, -⟩ := w.1 n hn
  split
  · next e =>
    obtain ⟨a, b, ha, hb, ea, eb⟩ := w4 e
    obtain ⟨-, -, ta, hta, eta, -⟩ := w.1 a ha
    rw [ea, i_nat (by omega)]
    split
    · rw [eta, i_nat (by omega)]
      exact Nat.le_trans (Nat.min_le_left _ _) hta
    · omega
  · rw [et, i_nat (by omega)]; exact ht
def nth (R : List Int32) (i : Nat) : Int32 := R.reverse.getD i 0
def rowL (I : Nat → Int32) (p from_ : Nat) : List Int32 := if I (404 * p) = 2 then tOn (nth (rowF I p from_ (spS I p - from_))) (rowF I p from_ (spS I p - from_)).length else rowF I p from_ (spS I p - from_)
def trnL (I : Nat → Int32) (p from_ : Nat) : List Int32 := tOn (nth (rowL I p from_)) (rowL I p from_).length
def pilL (T : List Int32) : List Nat × List Cy := pilN (nth T) T.length
theorem rowL_len (I : Nat → Int32) (p from_ : Nat) : (rowL I p from_).length ≤ spS I p - from_ := by
  have h := rowF_len I p from_ (spS I p - from_)
  unfold rowL
  split
  · exact Nat.le_trans (tOn_len _ _) h
  · exact h
theorem trnL_len (I : Nat → Int32) (p from_ : Nat) : (trnL I p from_).length ≤ spS I p - from_ := Nat.le_trans (tOn_len _ _) (rowL_len I p from_)
/-- the class's scratch cells -/
def scB (B : Nat → Nat) (b _ : Nat) : Prop := ∃ i, 3 ≤ i ∧ i ≤ 9 ∧ b = B i
theorem scB.n {B : Nat → Nat} (hB : ∀ i j, B i = B j → i = j) {i j : Nat} (hi : i < 3 ∨ 9 < i) : ¬ scB B (B i) j := by
  rintro ⟨k, h1, h2, e⟩
  have := hB _ _ e
  omega
theorem PRs.scr {M M' : Mm} {B : Nat → Nat} {β : Nat} {I : Nat → Int32} (hB : ∀ i j, B i = B j → i = j) (r : PRs M B β I) (F : Fm (scB B) M M') : PRs M' B β I := fun n hn => (r n hn).fr (fun j => F.i (scB.n hB (by omega))) (fun j => F.i (scB.n hB (by omega)))
section RK
variable {h : Hs} {B : Nat → Nat} {M : Mm} {I : Nat → Int32} {p from_ : Nat}
theorem x_rowLoop (hB : ∀ i j, B i = B j → i = j) (s : RwA h B) (sb : BdA h B 0) (w : WF I) (hn : p < 12) (hg : isG I p) (r : PRs M B 0 I) (hf : from_ ≤ 400) (e6 : zI M (B 3) 6 = 0) (e7 : zI M (B 3) 7 = 0) (e8 : zI M (B 3) 8 = 0) :
    wp (lp_X5_reckon_25 h (Int32.ofNat (spS I p)) (B 3) (aB B 0) (aP B 0 p) fuel (Int32.ofNat from_) M) (fun z => Fm (scB B) M z.2 ∧ zI z.2 (B 3) 6 = Int32.ofNat (gapF I p from_ (spS I p - from_)) ∧ zI z.2 (B 3) 7 = Int32.ofNat (redF I p from_ (spS I p - from_)) ∧ zI z.2 (B 3) 8 = Int32.ofNat (rowF I p from_ (spS I p - from_)).length ∧ stk z.2 (B 4) (rowF I p from_ (spS I p - from_))) := by
  have hs := spS_le w hn
  have ne34 : B 3 ≠ B 4 := fun e => by have := hB _ _ e; omega
  have s3 : scB B (B 3) 6 ∧ scB B (B 3) 7 ∧ scB B (B 3) 8 := ⟨⟨3, by omega, by omega, rfl⟩, ⟨3, by omega, by omega, rfl⟩, ⟨3, by omega, by omega, rfl⟩⟩
  have up : ∀ b j, ((b = B 3 ∧ j = 8) ∨ b = B 4) → scB B b j := by
    rintro b j (⟨rfl, -⟩ | rfl)
    · exact ⟨3, by omega, by omega, rfl⟩
    · exact ⟨4, by omega, by omega, rfl⟩
  refine loopW (fun n k s => lp_X5_reckon_25 h (Int32.ofNat (spS I p)) (B 3) (aB B 0) (aP B 0 p) n (Int32.ofNat (from_ + k)) s) (spS I p - from_) (fun k M' => Fm (scB B) M M' ∧ zI M' (B 3) 6 = Int32.ofNat (gapF I p from_ k) ∧ zI M' (B 3) 7 = Int32.ofNat (redF I p from_ k) ∧ zI M' (B 3) 8 = Int32.ofNat (rowF I p from_ k).length ∧ stk M' (B 4) (rowF I p from_ k)) _ ?_ ?_ fuel 0 M (by omega) (by unfold fuel; omega) ⟨Fm.rf, e6, e7, e8, trivial⟩
  · intro n k M1 hk ⟨F, h6, h7, h8, hS⟩ ih
    have r1 := r.scr hB F
    have f1 : ¬ spS I p ≤ from_ + k := by omega
    obtain ⟨c1, c2⟩ := x_cellOf sb r1 w hn hg (k := from_ + k) (by omega)
    have hl := rowF_len I p from_ k
    have hall : ∀ x ∈ rowF I p from_ k, rdg x := rowF_rdg fun j hj => (x_cellOf sb r1 w hn hg (k := from_ + j) (by omega)).2
    have hG := gapF_le I p from_ k
    have hE := redF_le I p from_ k
    simp only [lp_X5_reckon_25]
    rw [if_neg (by rw [i_le (by omega) (by omega)]; exact f1), c1, wp_bind, wp_some, wp_bind]
    have z6 : ∀ v : Int32, zI (sI M1 (B 3) 6 v) (B 3) 6 = v := fun v => by rw [zI_sI]; simp
    by_cases g : celS I p (from_ + k) = 2000000
    · rw [if_neg (not_not_intro g), wp_lt, wp_some, wp_lt, i_addL, h6, i_addL]
      refine ih _ ⟨F.sI s3.1, ?_, ?_, ?_, ?_⟩
      · rw [zI_sI]; simp only [gapF, g, if_true, and_self]
      · rw [zI_sI]; simp only [redF, g]; simpa using h7
      · rw [zI_sI]; simp only [rowF, g]; simpa using h8
      · simp only [rowF, g, Int32.le_refl, if_true]; exact hS.congr fun i _ => by rw [zI_sI, if_neg fun z => ne34 z.1.symm]
    · rw [if_pos g]
      by_cases g3 : celS I p (from_ + k) = 3000000
      · rw [if_pos g3, wp_some, wp_lt, i_addL]
        refine ih _ ⟨F, ?_, ?_, ?_, ?_⟩
        · simp only [gapF, g3]; simpa using h6
        · simp only [redF, g3]; simpa using h7
        · simp only [rowF, g3]; simpa using h8
        · simp only [rowF, g3]; simpa using hS
      · rw [if_neg g3, wp_lt, wp_bind]
        have hlt : celS I p (from_ + k) < 2000000 := by
          by_cases z : celS I p (from_ + k) < 2000000
          · exact z
          · rcases lgl_ge c2 z with z | z
            · exact absurd z g
            · exact absurd z g3
        have hv := lgl_lt c2 hlt
        have r7 := r1.scr hB (Fm.rf.sI (v := zI M1 (B 3) 7 + 1) s3.2.1)
        have sp := sb.2.2.2.2.2.2.2.2.2.1 p hn
        have n3 : aP B 0 p ≠ B 3 := fun e => by have := hB _ _ e; omega
        have n4 : aP B 0 p ≠ B 4 := fun e => by have := hB _ _ e; omega
        refine (x_keep s ne34 sp n3 n4 (r7 p hn).1 ((r7 p hn).2.1 hg).1 hv hall (by omega) (by rw [zI_sI]; simpa using h8) (hS.congr fun i _ => by rw [zI_sI, if_neg fun z => ne34 z.1.symm])).mono ?_
        rintro M2 ⟨F2, k8, kS⟩
        rw [wp_some, wp_lt, i_addL]
        have hnl : ¬ 2000000 ≤ celS I p (from_ + k) := Int32.not_le.mpr hlt
        refine ih _ ⟨(F.sI s3.2.1).tr (F2.up up), ?_, ?_, ?_, ?_⟩
        · rw [F2.i (by rintro (z | z); exact absurd z.2 (by decide); exact ne34 z), zI_sI]
          simp only [gapF, g, if_false]; simpa using h6
        · rw [F2.i (by rintro (z | z); exact absurd z.2 (by decide); exact ne34 z), zI_sI]
          simp only [redF, hlt, if_true, and_self, h7, i_addL]
        · simp only [rowF, hnl, if_false]; exact k8
        · simp only [rowF, hnl, if_false]; exact kS
  · intro n M1 ⟨F, h6, h7, h8, hS⟩
    simp only [lp_X5_reckon_25]
    rw [if_pos (by rw [i_le (by omega) (by omega)]; omega), wp_some]
    exact ⟨F, h6, h7, h8, hS⟩
end RK
