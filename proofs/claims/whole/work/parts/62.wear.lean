/-! WEAR: the class -/
def wkF (E : Nat → Int32) (lim : Int32) : Nat → Bool
  | 0 => false
  | j + 1 => wkF E lim j || !decide (E j < lim)
def ptF (E : Nat → Int32) (lim : Int32) (Bn : Nat → Nat) (U : Nat → Int64) : Nat → Nat → Int64
  | 0, _ => 0
  | j + 1, i => if wkF E lim (j + 1) = true ∧ i = Bn j then ptF E lim Bn U j i + U j else ptF E lim Bn U j i
def lsF (E : Nat → Int32) (lim : Int32) (U : Nat → Int64) : Nat → Int64
  | 0 => 0
  | j + 1 => if wkF E lim (j + 1) = true then lsF E lim U j + U j else lsF E lim U j
def sum7 (s : Int64) (p : Nat → Int64) : Int64 := s + p 0 + p 1 + p 2 + p 3 + p 4 + p 5 + p 6
theorem sum7_add {p p' : Nat → Int64} {i : Nat} {u : Int64} {s : Int64} (hi : i < 7) (h : p' i = p i + u) (ho : ∀ k, k ≠ i → p' k = p k) : sum7 s p' = sum7 s p + u := by
  unfold sum7
  rcases (show i = 0 ∨ i = 1 ∨ i = 2 ∨ i = 3 ∨ i = 4 ∨ i = 5 ∨ i = 6 by omega) with rfl | rfl | rfl | rfl | rfl | rfl | rfl
  · rw [h, ho 1 (by decide), ho 2 (by decide), ho 3 (by decide), ho 4 (by decide), ho 5 (by decide), ho 6 (by decide)]; ac_rfl
  · rw [h, ho 0 (by decide), ho 2 (by decide), ho 3 (by decide), ho 4 (by decide), ho 5 (by decide), ho 6 (by decide)]; ac_rfl
  · rw [h, ho 0 (by decide), ho 1 (by decide), ho 3 (by decide), ho 4 (by decide), ho 5 (by decide), ho 6 (by decide)]; ac_rfl
  · rw [h, ho 0 (by decide), ho 1 (by decide), ho 2 (by decide), ho 4 (by decide), ho 5 (by decide), ho 6 (by decide)]; ac_rfl
  · rw [h, ho 0 (by decide), ho 1 (by decide), ho 2 (by decide), ho 3 (by decide), ho 5 (by decide), ho 6 (by decide)]; ac_rfl
  · rw [h, ho 0 (by decide), ho 1 (by decide), ho 2 (by decide), ho 3 (by decide), ho 4 (by decide), ho 6 (by decide)]; ac_rfl
  · rw [h, ho 0 (by decide), ho 1 (by decide), ho 2 (by decide), ho 3 (by decide), ho 4 (by decide), ho 5 (by decide)]; ac_rfl
theorem ls_sum {E : Nat → Int32} {lim : Int32} {Bn : Nat → Nat} {U : Nat → Int64} : ∀ {n : Nat}, (∀ j, j < n → Bn j < 7) → lsF E lim U n = sum7 0 (ptF E lim Bn U n)
  | 0, _ => by simp only [lsF, sum7, ptF]; decide
  | n + 1, h => by
    have ih := ls_sum (E := E) (lim := lim) (Bn := Bn) (U := U) (n := n) fun j hj => h j (by omega)
    simp only [lsF]
    by_cases g : wkF E lim (n + 1) = true
    · rw [if_pos g, ih]
      refine (sum7_add (h n (by omega)) ?_ ?_).symm
      · simp only [ptF]; rw [if_pos ⟨g, trivial⟩]
      · intro k hk; simp only [ptF]; rw [if_neg fun z => hk z.2]
    · rw [if_neg g, ih]
      congr 1
      funext k
      simp only [ptF]; rw [if_neg fun z => g z.1]
def cyF (C : List Cy) (k : Nat) : Nat := (C.reverse.getD k (0, 0, 0)).1
def cyS (C : List Cy) (k : Nat) : Nat := (C.reverse.getD k (0, 0, 0)).2.1
def pG (P : List Nat) (k : Nat) : Nat := P.reverse.getD k 0
theorem nth_mapP {P : List Nat} {f : Nat → Int32} {k : Nat} (h : k < P.length) : nth (P.map f) k = f (pG P k) := by
  unfold nth pG
  rw [← List.map_reverse, List.getD_eq_getElem?_getD, List.getElem?_map, List.getD_eq_getElem?_getD, List.getElem?_eq_getElem (by simpa using h)]
  rfl
theorem pG_mem {P : List Nat} {k : Nat} (h : k < P.length) : pG P k ∈ P := by
  unfold pG
  rw [List.getD_eq_getElem?_getD, List.getElem?_eq_getElem (by simpa using h)]
  exact List.mem_reverse.mp (List.getElem_mem _)
theorem cy_mem {C : List Cy} {k : Nat} (h : k < C.length) : ∃ y ∈ C, y.1 = cyF C k ∧ y.2.1 = cyS C k := by
  refine ⟨C.reverse.getD k (0, 0, 0), ?_, rfl, rfl⟩
  rw [List.getD_eq_getElem?_getD, List.getElem?_eq_getElem (by simpa using h)]
  exact List.mem_reverse.mp (List.getElem_mem _)
/-- what counts, one by one: cycles, then halves -/
def itE (I : Nat → Int32) (d : Nat) (T : List Int32) (P : List Nat) (C : List Cy) (j : Nat) : Int32 :=
  if j < C.length then effS I d (far (nth T (cyF C j)) (nth T (cyS C j))) (nth T (cyF C j) + nth T (cyS C j))
  else effS I d (far (nth T (pG P (j - C.length))) (nth T (pG P (j - C.length + 1)))) (nth T (pG P (j - C.length)) + nth T (pG P (j - C.length + 1)))
def itB (I : Nat → Int32) (d : Nat) (T : List Int32) (P : List Nat) (C : List Cy) (j : Nat) : Nat := bndS I d (itE I d T P C j)
def itU (I : Nat → Int32) (d : Nat) (T : List Int32) (P : List Nat) (C : List Cy) (j : Nat) : Int64 := (if j < C.length then 1441440000000 else 720720000000) / berS I d (itB I d T P C j)
abbrev wpt (I : Nat → Int32) (d : Nat) (T : List Int32) (P : List Nat) (C : List Cy) (n : Nat) : Nat → Int64 := ptF (itE I d T P C) (I (4848 + 40 * d + 24)) (itB I d T P C) (itU I d T P C) n
abbrev wls (I : Nat → Int32) (d : Nat) (T : List Int32) (P : List Nat) (C : List Cy) (n : Nat) : Int64 := lsF (itE I d T P C) (I (4848 + 40 * d + 24)) (itU I d T P C) n
abbrev wwk (I : Nat → Int32) (d : Nat) (T : List Int32) (P : List Nat) (C : List Cy) (n : Nat) : Bool := wkF (itE I d T P C) (I (4848 + 40 * d + 24)) n
def WS (M : Mm) (B : Nat → Nat) (w : Bool) (ls : Int64) (pt : Nat → Int64) : Prop := zI M (B 10) 3 = (if w = true then 1 else 0) ∧ zJ M (B 10) 1 = ls ∧ ∀ i, i < 7 → zJ M (B 11) i = pt i
theorem FB.sJ {B : Nat → Nat} {K : Nat → Nat → Prop} {M M1 : Mm} (hB : ∀ i j, B i = B j → i = j) {a j : Nat} {v : Int64} (h1 : FB B K M M1) (h : K a j) : FB B K M (sJ M1 (B a) j v) := fun b k z => by
  have : ¬ (B b = B a ∧ k = j) := fun ⟨e1, e2⟩ => z (by rw [hB _ _ e1, e2]; exact h)
  rw [zJ_sJ, if_neg this, zI_sJ2]; exact h1 b k z
section W
variable {h : Hs} {B A : Nat → Nat} {M : Mm} {I : Nat → Int32} {d c n : Nat} {e : Int32} {T : List Int32} {P : List Nat} {C : List Cy} {w : Bool} {ls : Int64} {pt : Nat → Int64}
theorem x_use (hB : ∀ i j, B i = B j → i = j) (sx : ShX h B) (sd : DtA h B 0 d) (wd : WFd I d) (dr : DR M B 0 d I d) (hd : d < 12) (ws : WS M B w ls pt) {q : Int32} {u : Int64} (hq : (q = 1 ∧ u = 1441440000000 / berS I d (bndS I d e)) ∨ (q = 2 ∧ u = 720720000000 / berS I d (bndS I d e))) :
    wp (f_X7_use h (B 10) (aD B 0 d) e q M) (fun M' => FB B (fun i _ => i = 10 ∨ i = 11) M M' ∧ WS M' B (w || !decide (e < I (4848 + 40 * d + 24))) (if (w || !decide (e < I (4848 + 40 * d + 24))) = true then ls + u else ls) (fun i => if (w || !decide (e < I (4848 + 40 * d + 24))) = true ∧ i = bndS I d e then pt i + u else pt i)) := by
  obtain ⟨o10, r0, o11, n11⟩ := sx.2.2.2.2.2.2.2.2.2.1
  have qB : ∀ i j, (B i = B j) = (i = j) := fun i j => propext ⟨hB i j, fun e => by rw [e]⟩
  obtain ⟨w3, w1, w11⟩ := ws
  have e5 : zI M (aD B 0 d) 5 = I (4848 + 40 * d + 24) := dr.2.2.1
  have b6 := bndS_ok (e := e) wd
  have d1 : ¬ (1 : Int32) = 0 := by decide
  unfold f_X7_use
  rw [wp_gd]
  refine ⟨o10, ?_⟩
  have ey : (if ¬ zI M (B 10) 3 = 0 then some (1 : Int32) else gd (ok h (aD B 0 d) 2) (if e < zI M (aD B 0 d) 5 then some 0 else some 1)) = some (if (w || !decide (e < I (4848 + 40 * d + 24))) = true then 1 else 0) := by
    rw [w3, e5, gd, if_pos sd.1]
    cases w with
    | true => rfl
    | false =>
      rw [if_neg (by decide)]
      by_cases g : e < I (4848 + 40 * d + 24) <;> simp [g]
  rw [wp_bind, ey, wp_some, wp_gd]
  refine ⟨by split <;> simp, ?_⟩
  generalize (w || !decide (e < I (4848 + 40 * d + 24))) = w'
  refine wp_ltE fun M5 hM5 => ?_
  have F5 : FB B (fun i _ => i = 10 ∨ i = 11) M M5 := by rw [hM5]; exact FB.rf.sI hB (Or.inl rfl)
  have z3 : zI M5 (B 10) 3 = (if w' = true then 1 else 0) := by rw [hM5]; simp [zI_sI]
  have dr5 : DR M5 B 0 d I d := dr.fb F5 fun i j => by omega
  have j1 : zJ M5 (B 10) 1 = ls := by rw [hM5, zJ_sI2]; exact w1
  have j11 : ∀ i, i < 7 → zJ M5 (B 11) i = pt i := fun i hi => by rw [hM5, zJ_sI2]; exact w11 i hi
  rw [z3]
  cases w' with
  | false =>
    rw [if_pos (show (if false = true then (1 : Int32) else 0) = 0 by decide), wp_some]
    exact ⟨F5, by rw [z3], j1, fun i hi => by simp [j11 i hi]⟩
  | true =>
    have hq1 : (1 : Int32) ≤ q := by rcases hq with ⟨rfl, -⟩ | ⟨rfl, -⟩ <;> decide
    have hqz : ¬ q.toInt64 = 0 := by rcases hq with ⟨rfl, -⟩ | ⟨rfl, -⟩ <;> decide
    have hu : 1441440000000 / berS I d (bndS I d e) / q.toInt64 = u := by
      rcases hq with ⟨rfl, rfl⟩ | ⟨rfl, rfl⟩
      · exact div_one64
      · exact half_ber (berS_ok wd b6.2)
    rw [if_pos rfl, if_neg d1, if_pos hq1, wp_gd]
    refine ⟨sd.1, ?_⟩
    rw [wp_bind, x_boundFor sd wd dr5, wp_some, wp_bind, x_useUnder sd wd dr5 b6.2, wp_some, wp_gd]
    refine ⟨hqz, ?_⟩
    rw [wp_lt, hu]
    refine wp_ltE fun M6 hM6 => ?_
    have f1 : ¬ 7 ≤ bndS I d e := by omega
    have f2 : bndS I d e < 7 := by omega
    rw [if_neg (nlt0 (show bndS I d e < 2147483648 by omega)), r0, wp_dq, wp_gd]
    refine ⟨o11, ?_⟩
    rw [n11]
    simp (disch := omega) only [i_le, f1, if_false, gd, i_inb, f2, if_true, i_nat]
    rw [wp_lt, wp_some]
    refine ⟨?_, ?_, ?_, fun i hi => ?_⟩
    · rw [hM6]; exact (F5.sJ hB (Or.inl rfl)).sJ hB (Or.inr rfl)
    · rw [zI_sJ2, hM6, zI_sJ2, z3]
    · rw [zJ_sJ, if_neg (by simp [qB]), hM6, zJ_sJ, if_pos ⟨rfl, rfl⟩, j1]
    · rw [zJ_sJ, hM6]
      by_cases g : i = bndS I d e
      · subst g
        rw [if_pos ⟨rfl, rfl⟩, zJ_sJ, if_neg (by simp [qB]), j11 _ hi]; simp
      · rw [if_neg (by simp [g]), zJ_sJ, if_neg (by simp [qB]), j11 _ hi]; simp [g]
end W
