/-! THE CLASS: the pile -/
theorem x_within {h : Hs} {M : Mm} {v lo hi : Int32} : f_X8_isWithin h v.toInt64 lo hi M = some (if lo ≤ v ∧ v ≤ hi then 1 else 0) := by
  unfold f_X8_isWithin
  simp only [Int64.lt_iff_toInt_lt, Int32.toInt_toInt64, ← Int32.lt_iff_toInt_lt]
  by_cases h1 : v < lo
  · rw [if_pos h1, if_neg fun z => Int32.not_le.mpr h1 z.1]
  · rw [if_neg h1]
    by_cases h2 : hi < v
    · rw [if_pos h2, if_neg fun z => Int32.not_le.mpr h2 z.2]
    · rw [if_neg h2, if_pos ⟨Int32.not_lt.mp h1, Int32.not_lt.mp h2⟩]
theorem betw_iff {v a d : Int32} : ((if d < a then d else a) ≤ v ∧ v ≤ (if a < d then d else a)) = betw v a d := by
  apply propext
  unfold betw
  by_cases h1 : a < d
  · have h2 : ¬ d < a := fun z => Int32.lt_irrefl (Int32.lt_trans h1 z)
    simp [h1, h2]
  · by_cases h2 : d < a
    · simp [h1, h2]
    · have e : a = d := by grind
      subst e
      simp [h1]
def clos (t : Nat → Int32) (P : List Nat) : Bool := match P with
  | d :: c :: b :: a :: _ => decide (betw (t b) (t a) (t d) ∧ betw (t c) (t a) (t d))
  | _ => false
def PC (M : Mm) (B : Nat → Nat) (P : List Nat) (C : List Cy) : Prop :=
  zI M (B 3) 10 = Int32.ofNat P.length ∧ zI M (B 3) 11 = Int32.ofNat C.length ∧ stk M (B 6) (P.map Int32.ofNat) ∧ stk M (B 7) (C.map fun c => Int32.ofNat c.1) ∧ stk M (B 8) (C.map fun c => Int32.ofNat c.2.1) ∧ stk M (B 9) (C.map fun c => Int32.ofNat c.2.2)
def pcB (B : Nat → Nat) (b j : Nat) : Prop := (b = B 3 ∧ (j = 10 ∨ j = 11)) ∨ b = B 6 ∨ b = B 7 ∨ b = B 8 ∨ b = B 9
section PL
variable {h : Hs} {B : Nat → Nat} {M : Mm} {T : List Int32} {k a b c d : Nat} {r P : List Nat} {C : List Cy}
theorem x_turnAt (s : RwA h B) (hk : k < 400) : f_X5_turnAt h (B 3) (Int32.ofNat k) M = some (zI M (B 5) k) := by
  unfold f_X5_turnAt
  have f1 : ¬ 400 ≤ k := by omega
  simp (disch := omega) only [gd, ok, dq, s, and_self, if_true, i_neg, i_le, i_inb, i_nat, f1, hk, if_false]
theorem x_restAt (s : RwA h B) (hk : k < 400) : f_X5_restAt h (B 3) (Int32.ofNat k) M = some (zI M (B 6) k) := by
  unfold f_X5_restAt
  have f1 : ¬ 400 ≤ k := by omega
  simp (disch := omega) only [gd, ok, dq, s, and_self, if_true, i_neg, i_le, i_inb, i_nat, f1, hk, if_false]
theorem x_firstOf (s : RwA h B) (hk : k < 200) : f_X5_firstOf h (B 3) (Int32.ofNat k) M = some (zI M (B 7) k) := by
  unfold f_X5_firstOf
  have f1 : ¬ 200 ≤ k := by omega
  simp (disch := omega) only [gd, ok, dq, s, and_self, if_true, i_neg, i_le, i_inb, i_nat, f1, hk, if_false]
theorem x_secondOf (s : RwA h B) (hk : k < 200) : f_X5_secondOf h (B 3) (Int32.ofNat k) M = some (zI M (B 8) k) := by
  unfold f_X5_secondOf
  have f1 : ¬ 200 ≤ k := by omega
  simp (disch := omega) only [gd, ok, dq, s, and_self, if_true, i_neg, i_le, i_inb, i_nat, f1, hk, if_false]
theorem x_closerOf (s : RwA h B) (hk : k < 200) : f_X5_closerOf h (B 3) (Int32.ofNat k) M = some (zI M (B 9) k) := by
  unfold f_X5_closerOf
  have f1 : ¬ 200 ≤ k := by omega
  simp (disch := omega) only [gd, ok, dq, s, and_self, if_true, i_neg, i_le, i_inb, i_nat, f1, hk, if_false]
theorem x_closes (s : RwA h B) (hT : stk M (B 5) T) (hT4 : T.length ≤ 400) (hP : ∀ x ∈ P, x < T.length) (hP4 : P.length ≤ 400) (h10 : zI M (B 3) 10 = Int32.ofNat P.length) (hS : stk M (B 6) (P.map Int32.ofNat)) :
    f_X5_closesCycle h (B 3) M = some (if clos (nth T) P then 1 else 0) := by
  unfold f_X5_closesCycle
  simp only [gd, ok, s, and_self, if_true, h10]
  rcases P with _ | ⟨d, _ | ⟨c, _ | ⟨b, _ | ⟨a, r⟩⟩⟩⟩
  · rfl
  · rfl
  · rfl
  · rfl
  · obtain ⟨sd, sc, sb, sa, -⟩ := hS
    simp only [List.length_map, List.length_cons] at sd sc sb sa hP4
    have ha := hP a (by simp)
    have hb := hP b (by simp)
    have hc := hP c (by simp)
    have hd := hP d (by simp)
    have f1 : 4 ≤ r.length + 1 + 1 + 1 + 1 := by omega
    have f2 : r.length + 1 + 1 + 1 + 1 - 4 = r.length := by omega
    have f3 : r.length + 1 + 1 + 1 + 1 - 3 = r.length + 1 := by omega
    have f4 : r.length + 1 + 1 + 1 + 1 - 2 = r.length + 1 + 1 := by omega
    have f5 : r.length + 1 + 1 + 1 + 1 - 1 = r.length + 1 + 1 + 1 := by omega
    have ra := x_restAt (M := M) s (k := r.length) (by omega)
    have rb := x_restAt (M := M) s (k := r.length + 1) (by omega)
    have rc := x_restAt (M := M) s (k := r.length + 1 + 1) (by omega)
    have rd := x_restAt (M := M) s (k := r.length + 1 + 1 + 1) (by omega)
    rw [sa] at ra; rw [sb] at rb; rw [sc] at rc; rw [sd] at rd
    have ta := x_turnAt (M := M) s (k := a) (by omega)
    have tb := x_turnAt (M := M) s (k := b) (by omega)
    have tc := x_turnAt (M := M) s (k := c) (by omega)
    have td := x_turnAt (M := M) s (k := d) (by omega)
    rw [hT.get ha] at ta; rw [hT.get hb] at tb; rw [hT.get hc] at tc; rw [hT.get hd] at td
    simp (disch := omega) only [List.length_cons, i_Lle, f1, if_true, i_subL, f2, f3, f4, f5, ra, rb, rc, rd, b_some, ta, tb, tc, td, lt_, x_within, betw_iff]
    simp only [clos, decide_eq_true_eq]
    unfold nth
    have d1 : ¬ (1 : Int32) = 0 := by decide
    by_cases g1 : betw (T.reverse.getD b 0) (T.reverse.getD a 0) (T.reverse.getD d 0)
    · by_cases g2 : betw (T.reverse.getD c 0) (T.reverse.getD a 0) (T.reverse.getD d 0)
      · simp only [if_pos g1, if_pos g2, if_neg d1, if_pos (And.intro g1 g2)]
      · simp only [if_pos g1, if_neg g2, if_neg d1, if_true, if_neg fun z : betw (T.reverse.getD b 0) (T.reverse.getD a 0) (T.reverse.getD d 0) ∧ betw (T.reverse.getD c 0) (T.reverse.getD a 0) (T.reverse.getD d 0) => g2 z.2]
    · simp only [if_neg g1, if_true, if_neg fun z : betw (T.reverse.getD b 0) (T.reverse.getD a 0) (T.reverse.getD d 0) ∧ betw (T.reverse.getD c 0) (T.reverse.getD a 0) (T.reverse.getD d 0) => g1 z.1]
theorem x_take (hB : ∀ i j, B i = B j → i = j) (s : RwA h B) (hP4 : (d :: c :: b :: a :: r).length ≤ 400) (hC : C.length < 200) (pc : PC M B (d :: c :: b :: a :: r) C) :
    wp (f_X5_takeCycle h (B 3) M) (fun M' => Fm (pcB B) M M' ∧ PC M' B (d :: a :: r) ((b, c, d) :: C)) := by
  obtain ⟨h10, h11, hS, h7, h8, h9⟩ := pc
  obtain ⟨sd, sc, sb, sa, sr⟩ := hS
  simp only [List.length_map, List.length_cons] at sd sc sb sa hP4
  have q : ∀ i j, (B i = B j) = (i = j) := fun i j => propext ⟨hB i j, fun e => by rw [e]⟩
  have f1 : ¬ r.length + 1 + 1 + 1 < 3 := by omega
  have f2 : ¬ 400 ≤ r.length + 1 + 1 + 1 := by omega
  have f3 : ¬ 200 ≤ C.length := by omega
  have f5 : r.length + 1 + 1 + 1 + 1 - 1 = r.length + 1 + 1 + 1 := by omega
  have f6 : r.length + 1 + 1 + 1 - 2 = r.length + 1 := by omega
  have f7 : r.length + 1 + 1 + 1 - 1 = r.length + 1 + 1 := by omega
  have f8 : r.length + 1 + 1 + 1 < 400 := by omega
  have f9 : r.length + 1 < 400 := by omega
  have f10 : r.length + 1 + 1 < 400 := by omega
  have f11 : r.length + 1 + 1 + 1 + 1 - 2 = r.length + 1 + 1 := by omega
  unfold f_X5_takeCycle
  simp only [gd, ok, dq, s, and_self, if_true, h10, h11, List.length_cons]
  rw [wp_lt, i_subL (by simp), if_neg (by rw [i_ltL (by omega) (by simp)]; simpa using f1), if_neg (by rw [i_le (by omega) (by omega)]; simpa using f2), if_neg (by rw [i_neg (by omega)]; exact id), if_neg (by rw [i_le (by omega) (by omega)]; exact f3), if_neg (by rw [i_le (by omega) (by omega)]; exact f3), if_pos (by rw [i_lt (by omega) (by omega)]; exact hC)]
  rw [show r.length + 1 + 1 + 1 + 1 - (OfNat.ofNat 1 : Nat) = r.length + 1 + 1 + 1 from f5]
  simp (disch := omega) only [i_subL, f6, f7, i_inb, f8, f9, f10, hC, if_true, i_nat, sb, sc, sd]
  refine wp_ltE fun M1 e1 => ?_
  have a1 : zI M1 (B 3) 11 = Int32.ofNat C.length := by rw [e1, zI_sI]; simpa [q] using h11
  have b1 : ∀ i, zI M1 (B 6) i = zI M (B 6) i := fun i => by rw [e1, zI_sI]; simp [q]
  simp (disch := omega) only [a1, b1, i_inb, hC, if_true, i_nat, sb, sc, sd]
  refine wp_ltE fun M2 e2 => ?_
  have a2 : zI M2 (B 3) 11 = Int32.ofNat C.length := by rw [e2, zI_sI]; simpa [q] using a1
  have b2 : ∀ i, zI M2 (B 6) i = zI M (B 6) i := fun i => by rw [e2, zI_sI]; simpa [q] using b1 i
  simp (disch := omega) only [a2, b2, i_inb, hC, if_true, i_nat, sb, sc, sd]
  refine wp_ltE fun M3 e3 => ?_
  have a3 : zI M3 (B 3) 11 = Int32.ofNat C.length := by rw [e3, zI_sI]; simpa [q] using a2
  have b3 : ∀ i, zI M3 (B 6) i = zI M (B 6) i := fun i => by rw [e3, zI_sI]; simpa [q] using b2 i
  rw [a3, i_addL]
  refine wp_ltE fun M4 e4 => ?_
  have b4 : ∀ i, zI M4 (B 6) i = zI M (B 6) i := fun i => by rw [e4, zI_sI]; simpa [q] using b3 i
  rw [b4, sd]
  refine wp_ltE fun M5 e5 => ?_
  have c5 : zI M5 (B 3) 10 = Int32.ofNat (r.length + 1 + 1 + 1 + 1) := by rw [e5, e4, e3, e2, e1]; simpa [zI_sI, q] using h10
  simp (disch := omega) only [c5, i_subL, f11]
  rw [wp_lt, wp_some]
  refine ⟨?_, ?_, ?_, ?_, ?_, ?_, ?_⟩
  · rw [e5, e4, e3, e2, e1]
    exact (((((Fm.rf.sI (Or.inr (Or.inr (Or.inl rfl)))).sI (Or.inr (Or.inr (Or.inr (Or.inl rfl))))).sI (Or.inr (Or.inr (Or.inr (Or.inr rfl))))).sI (Or.inl ⟨rfl, Or.inr rfl⟩)).sI (Or.inr (Or.inl rfl))).sI (Or.inl ⟨rfl, Or.inl rfl⟩)
  · rw [zI_sI]; simp
  · rw [e5, e4]; simp [zI_sI, q]
  · refine ⟨?_, ?_, ?_⟩
    · simp only [List.length_cons, List.length_map]; rw [e5]; simp [zI_sI, q]
    · simp only [List.length_map]; rw [e5]; simp only [zI_sI, q]; simpa using (b4 r.length).trans sa
    · refine sr.congr fun i hi => ?_
      simp only [List.length_map] at hi
      rw [e5]; simp only [zI_sI, q]
      have : ¬ i = r.length + 1 := by omega
      simpa [this] using b4 i
  · refine ⟨?_, h7.congr fun i hi => ?_⟩
    · rw [e5, e4, e3, e2, e1]; simp [zI_sI, q]
    · simp only [List.length_map] at hi
      have : ¬ i = C.length := by omega
      rw [e5, e4, e3, e2, e1]; simp [zI_sI, q, this]
  · refine ⟨?_, h8.congr fun i hi => ?_⟩
    · rw [e5, e4, e3, e2, e1]; simp [zI_sI, q]
    · simp only [List.length_map] at hi
      have : ¬ i = C.length := by omega
      rw [e5, e4, e3, e2, e1]; simp [zI_sI, q, this]
  · refine ⟨?_, h9.congr fun i hi => ?_⟩
    · rw [e5, e4, e3, e2, e1]; simp [zI_sI, q]
    · simp only [List.length_map] at hi
      have : ¬ i = C.length := by omega
      rw [e5, e4, e3, e2, e1]; simp [zI_sI, q, this]
theorem x_reduce (hB : ∀ i j, B i = B j → i = j) (s : RwA h B) (hT4 : T.length ≤ 400) {w : Int32} : ∀ (f : Nat) (P : List Nat) (C : List Cy) (i n : Nat) (M : Mm), P.length ≤ f → f < n → 2 * i + P.length ≤ 800 → P.length + 2 * C.length ≤ 400 → P.length ≤ 400 → (∀ x ∈ P, x < T.length) → stk M (B 5) T → PC M B P C →
    wp (lp_X5_pileUp_61 h w (B 3) n (Int32.ofNat i) M) (fun z => Fm (pcB B) M z.2 ∧ PC z.2 B (redu (nth T) f P C).1 (redu (nth T) f P C).2) := by
  intro f
  induction f with
  | zero =>
    intro P C i n M h1 h2 h3 h4 h5 h6 h7 h8
    obtain ⟨n, rfl⟩ : ∃ m, n = m + 1 := ⟨n - 1, by omega⟩
    have hP : P = [] := List.length_eq_zero_iff.mp (by omega)
    subst hP
    simp only [lp_X5_pileUp_61]
    rw [wp_ite]
    refine ⟨fun _ => ?_, fun _ => ?_⟩
    · rw [wp_some]; exact ⟨Fm.rf, h8⟩
    · have hx : f_X5_closesCycle h (B 3) M = some 0 := by rw [x_closes s h7 hT4 h6 h5 h8.1 h8.2.2.1]; simp [clos]
      rw [wp_bind, hx, wp_some, if_pos rfl, wp_some]
      exact ⟨Fm.rf, h8⟩
  | succ f ih =>
    intro P C i n M h1 h2 h3 h4 h5 h6 h7 h8
    obtain ⟨n, rfl⟩ : ∃ m, n = m + 1 := ⟨n - 1, by omega⟩
    have hx := x_closes s h7 hT4 h6 h5 h8.1 h8.2.2.1
    by_cases g : clos (nth T) P = true
    · rcases P with _ | ⟨d, _ | ⟨c, _ | ⟨b, _ | ⟨a, r⟩⟩⟩⟩
      · exact absurd g (by simp [clos])
      · exact absurd g (by simp [clos])
      · exact absurd g (by simp [clos])
      · exact absurd g (by simp [clos])
      · simp only [List.length_cons] at h1 h3 h4 h5
        simp only [lp_X5_pileUp_61]
        rw [if_pos g] at hx
        rw [if_neg (by rw [i_Lle (by omega) (by simp)]; simp; omega), wp_bind, hx, wp_some, if_neg (by decide), wp_bind]
        refine (x_take hB s (by simp; omega) (by omega) h8).mono ?_
        rintro M1 ⟨F1, p1⟩
        rw [wp_lt, i_addL]
        have e1 : redu (nth T) (f + 1) (d :: c :: b :: a :: r) C = redu (nth T) f (d :: a :: r) ((b, c, d) :: C) := by
          simp only [clos, decide_eq_true_eq] at g
          simp only [redu]; rw [if_pos g]
        rw [e1]
        have n5 : ∀ j, ¬ pcB B (B 5) j := by
          rintro j (⟨e, -⟩ | e | e | e | e) <;> (have := hB _ _ e; omega)
        refine (ih (d :: a :: r) ((b, c, d) :: C) (i + 1) n M1 (by simp; omega) (by omega) (by simp; omega) (by simp; omega) (by simp; omega) (fun x hx => h6 x (by simp at hx ⊢; rcases hx with z | z | z <;> simp [z])) (h7.congr fun j _ => F1.i (n5 j)) p1).mono ?_
        rintro z ⟨F2, p2⟩
        exact ⟨F1.tr F2, p2⟩
    · have e1 : redu (nth T) (f + 1) P C = (P, C) := by
        simp only [redu]
        split
        · next d c b a r _ =>
          simp only [clos, decide_eq_true_eq] at g
          rw [if_neg g]
        · rfl
      rw [e1]
      simp only [lp_X5_pileUp_61]
      rw [wp_ite]
      refine ⟨fun _ => ?_, fun _ => ?_⟩
      · rw [wp_some]; exact ⟨Fm.rf, h8⟩
      · rw [if_neg g] at hx
        rw [wp_bind, hx, wp_some, if_pos rfl, wp_some]
        exact ⟨Fm.rf, h8⟩
end PL
