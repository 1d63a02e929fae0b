/-! THE REFERENCE: look: turns that stand, turns that are struck out -/
/-- those below k that are not struck out: Q, the greatest first -/
def US (M : Mm) (a k : Nat) (Q : List Nat) : Prop := (∀ i, i < k → (zI M a i = 0 ↔ i ∈ Q)) ∧ (∀ x ∈ Q, x < k) ∧ Q.Pairwise (fun x y => y < x)
theorem nlt0 {a : Nat} (h : a < 2147483648) : ¬ Int32.ofNat a < 0 := by rw [i_neg h]; exact id
theorem m1lt : (-1 : Int32) < 0 := by decide
def preI (k : Nat) : Int32 := if k = 0 then -1 else Int32.ofNat (k - 1)
def headI (Q : List Nat) : Int32 := match Q with
  | [] => -1
  | x :: _ => Int32.ofNat x
theorem US.pop {M : Mm} {a k x : Nat} {r : List Nat} (u : US M a k (x :: r)) : US M a x r := by
  obtain ⟨u1, u2, u3⟩ := u
  have hx := u2 x List.mem_cons_self
  have h3 := List.pairwise_cons.mp u3
  refine ⟨fun i hi => ?_, fun y hy => h3.1 y hy, h3.2⟩
  rw [u1 i (by omega), List.mem_cons]
  exact ⟨fun z => z.resolve_left (by omega), Or.inr⟩
section LK
variable {h : Hs} {A : Nat → Nat} {M : Mm} {T : List Int32}
theorem r_aheadL (S : Sh2 h A) : ∀ (k n : Nat) (Q : List Nat), k ≤ 400 → k < n → US M (A 11) k Q → lp_X9_ahead_4 h (A 0) M n (preI k) = some (headI Q) := by
  have s := S.s
  intro k
  induction k with
  | zero =>
    intro n Q _ hn u
    obtain ⟨n, rfl⟩ : ∃ m, n = m + 1 := ⟨n - 1, by omega⟩
    have hQ : Q = [] := by
      rcases Q with _ | ⟨x, r⟩
      · rfl
      · exact absurd (u.2.1 x List.mem_cons_self) (by omega)
    subst hQ
    rfl
  | succ k ih =>
    intro n Q hk hn u
    obtain ⟨n, rfl⟩ : ∃ m, n = m + 1 := ⟨n - 1, by omega⟩
    have e : preI (k + 1) = Int32.ofNat k := rfl
    have f1 : k < 400 := by omega
    rw [e]
    simp only [lp_X9_ahead_4]
    simp (disch := omega) only [i_neg, if_false, gd, ok, dq, s, and_self, if_true, i_inb, f1, i_nat]
    by_cases z : zI M (A 11) k = 0
    · have hm := (u.1 k (by omega)).mp z
      rw [if_pos z]
      rcases Q with _ | ⟨x, r⟩
      · exact absurd hm List.not_mem_nil
      · have hx := u.2.1 x List.mem_cons_self
        rcases List.mem_cons.mp hm with rfl | hm
        · rfl
        · have := (List.pairwise_cons.mp u.2.2).1 k hm
          omega
    · rw [if_neg z]
      have hm : k ∉ Q := fun z2 => z ((u.1 k (by omega)).mpr z2)
      have e2 : Int32.ofNat k + -1 = preI k := by
        unfold preI
        by_cases e3 : k = 0
        · subst e3; decide
        · rw [if_neg e3, i_dec (by omega)]
      simp only [lt_, e2]
      refine ih n Q (by omega) (by omega) ⟨fun i hi => u.1 i (by omega), fun x hx => ?_, u.2.2⟩
      have := u.2.1 x hx
      have : x ≠ k := fun e => hm (e ▸ hx)
      omega
theorem r_ahead (S : Sh2 h A) {k : Nat} {Q : List Nat} (hk : k ≤ 400) (u : US M (A 11) k Q) : f_X9_ahead h (A 0) (Int32.ofNat k) M = some (headI Q) := by
  unfold f_X9_ahead
  have e2 : Int32.ofNat k - 1 = preI k := by
    unfold preI
    by_cases e3 : k = 0
    · subst e3; decide
    · rw [if_neg e3, i_subL (by show 1 ≤ k; omega)]
  simp only [lt_, e2, r_aheadL S k fuel Q hk (by unfold fuel; omega) u, b_some]
theorem r_ahead1 : f_X9_ahead h (A 0) (-1) M = some (-2) := by
  unfold f_X9_ahead fuel
  rfl
theorem r_ahead2 : f_X9_ahead h (A 0) (-2) M = some (-3) := by
  unfold f_X9_ahead fuel
  rfl
theorem r_between {v a b : Int32} : f_X9_between h v a b M = some (if betw v a b then 1 else 0) := by
  unfold f_X9_between betw
  by_cases h1 : a < b
  · have g1 : ¬ b ≤ a := Int32.not_le.mpr h1
    rw [if_neg g1]
    by_cases h2 : v < a
    · have g2 : ¬ a ≤ v := Int32.not_le.mpr h2
      simp [h1, h2, g2]
    · have g2 : a ≤ v := Int32.not_lt.mp h2
      by_cases h3 : b < v
      · have g3 : ¬ v ≤ b := Int32.not_le.mpr h3
        simp [h1, h2, h3, g3]
      · have g3 : v ≤ b := Int32.not_lt.mp h3
        simp [h1, h2, h3, g2, g3]
  · have g1 : b ≤ a := Int32.not_lt.mp h1
    rw [if_pos g1]
    by_cases h2 : v < b
    · have g2 : ¬ b ≤ v := Int32.not_le.mpr h2
      simp [h1, h2, g2]
    · have g2 : b ≤ v := Int32.not_lt.mp h2
      by_cases h3 : a < v
      · have g3 : ¬ v ≤ a := Int32.not_le.mpr h3
        simp [h1, h2, h3, g3]
      · have g3 : v ≤ a := Int32.not_lt.mp h3
        simp [h1, h2, h3, g2, g3]
def CC (M : Mm) (A : Nat → Nat) (C : List Cy) : Prop := zI M (A 0) 16 = Int32.ofNat C.length ∧ stk M (A 8) (C.map fun c => Int32.ofNat c.1) ∧ stk M (A 9) (C.map fun c => Int32.ofNat c.2.1) ∧ stk M (A 10) (C.map fun c => Int32.ofNat c.2.2)
def ccA (A : Nat → Nat) (b j : Nat) : Prop := (b = A 0 ∧ j = 16) ∨ b = A 8 ∨ b = A 9 ∨ b = A 10 ∨ b = A 11
theorem r_strike (S : Sh2 h A) {d : Nat} (hT : T.length ≤ 400) (hd : d < T.length) {w3 : Int32} (hw : w3 = Int32.ofNat d) : ∀ (f : Nat) (P : List Nat) (C : List Cy) (n : Nat) (M : Mm), P.length + 1 ≤ f → f + 1 < n → P.length + 2 * C.length < 400 → US M (A 11) d P → zI M (A 11) d = 0 → stk M (A 6) T → CC M A C →
    wp (lp_X9_look_51 h w3 (A 0) (A 11) (A 6) n 1 M) (fun z => ∃ P', redu (nth T) f (d :: P) C = (d :: P', (redu (nth T) f (d :: P) C).2) ∧ Fm (ccA A) M z.2 ∧ (∀ i, d ≤ i → zI z.2 (A 11) i = zI M (A 11) i) ∧ US z.2 (A 11) d P' ∧ CC z.2 A (redu (nth T) f (d :: P) C).2) := by
  subst hw
  have s := S.s
  have q := S.e
  intro f
  induction f with
  | zero => intro P C n M h1; omega
  | succ f ih =>
    intro P C n M h1 h2 h3 hU hz hS hC
    obtain ⟨n, rfl⟩ : ∃ m, n = m + 1 := ⟨n - 1, by omega⟩
    have a1 := r_ahead S (by omega) hU
    have stay : redu (nth T) (f + 1) (d :: P) C = (d :: P, C) → wp (lp_X9_look_51 h (Int32.ofNat d) (A 0) (A 11) (A 6) n 0 M) (fun z => ∃ P', redu (nth T) (f + 1) (d :: P) C = (d :: P', (redu (nth T) (f + 1) (d :: P) C).2) ∧ Fm (ccA A) M z.2 ∧ (∀ i, d ≤ i → zI z.2 (A 11) i = zI M (A 11) i) ∧ US z.2 (A 11) d P' ∧ CC z.2 A (redu (nth T) (f + 1) (d :: P) C).2) := by
      intro e
      rw [e]
      obtain ⟨m, rfl⟩ : ∃ m, n = m + 1 := ⟨n - 1, by omega⟩
      simp only [lp_X9_look_51]
      rw [if_pos trivial, wp_some]
      exact ⟨P, rfl, Fm.rf, fun _ _ => rfl, hU, hC⟩
    simp only [lp_X9_look_51]
    rw [if_neg (by decide), wp_bind]
    rcases P with _ | ⟨c, _ | ⟨b, _ | ⟨a, r⟩⟩⟩
    · have a1 : f_X9_ahead h (A 0) (Int32.ofNat d) M = some (-1) := a1
      rw [a1, wp_some, wp_bind, r_ahead1, wp_some, wp_bind, r_ahead2, wp_some, wp_bind, if_pos m1lt, wp_some, if_neg (by decide)]
      exact stay rfl
    · have hc := hU.2.1 c (by simp)
      have a1 : f_X9_ahead h (A 0) (Int32.ofNat d) M = some (Int32.ofNat c) := a1
      have a2 : f_X9_ahead h (A 0) (Int32.ofNat c) M = some (-1) := r_ahead S (k := c) (by omega) hU.pop
      rw [a1, wp_some, wp_bind, a2, wp_some, wp_bind, r_ahead1, wp_some, wp_bind, if_neg (nlt0 (show c < 2147483648 by omega)), if_pos m1lt, wp_some, if_neg (by decide)]
      exact stay rfl
    · have hc := hU.2.1 c (by simp)
      have hb := hU.2.1 b (by simp)
      have a1 : f_X9_ahead h (A 0) (Int32.ofNat d) M = some (Int32.ofNat c) := a1
      have a2 : f_X9_ahead h (A 0) (Int32.ofNat c) M = some (Int32.ofNat b) := r_ahead S (k := c) (by omega) hU.pop
      have a3 : f_X9_ahead h (A 0) (Int32.ofNat b) M = some (-1) := r_ahead S (k := b) (by omega) hU.pop.pop
      rw [a1, wp_some, wp_bind, a2, wp_some, wp_bind, a3, wp_some, wp_bind, if_neg (nlt0 (show c < 2147483648 by omega)), if_neg (nlt0 (show b < 2147483648 by omega)), if_pos m1lt, wp_some, if_neg (by decide)]
      exact stay rfl
    · have hc := hU.2.1 c (by simp)
      have hb := hU.2.1 b (by simp)
      have ha := hU.2.1 a (by simp)
      have a1 : f_X9_ahead h (A 0) (Int32.ofNat d) M = some (Int32.ofNat c) := a1
      have a2 : f_X9_ahead h (A 0) (Int32.ofNat c) M = some (Int32.ofNat b) := r_ahead S (k := c) (by omega) hU.pop
      have a3 : f_X9_ahead h (A 0) (Int32.ofNat b) M = some (Int32.ofNat a) := r_ahead S (k := b) (by omega) hU.pop.pop
      simp only [List.length_cons] at h1 h3
      have hbc : b < c := (List.pairwise_cons.mp hU.2.2).1 b (by simp)
      have hab : a < b := (List.pairwise_cons.mp hU.pop.2.2).1 a (by simp)
      have ta := hS.get (i := a) (by omega)
      have tb := hS.get (i := b) (by omega)
      have tc := hS.get (i := c) (by omega)
      have td := hS.get (i := d) (by omega)
      have fa : a < 400 := by omega
      have fb : b < 400 := by omega
      have fc : c < 400 := by omega
      have fd : d < 400 := by omega
      rw [a1, wp_some, wp_bind, a2, wp_some, wp_bind, a3, wp_some, wp_bind, if_neg (nlt0 (show c < 2147483648 by omega)), if_neg (nlt0 (show b < 2147483648 by omega)), if_neg (nlt0 (show a < 2147483648 by omega))]
      have y : (gd (ok h (A 6) 11) (gd (inb (Int32.ofNat b) (zN h (A 6))) (gd (inb (Int32.ofNat a) (zN h (A 6))) (gd (inb (Int32.ofNat d) (zN h (A 6))) ((f_X9_between h (zI M (A 6) (Int32.ofNat b).toNatClampNeg) (zI M (A 6) (Int32.ofNat a).toNatClampNeg) (zI M (A 6) (Int32.ofNat d).toNatClampNeg) M).bind fun z21 => if z21 = 0 then some (0 : Int32) else gd (inb (Int32.ofNat c) (zN h (A 6))) (gd (inb (Int32.ofNat a) (zN h (A 6))) (gd (inb (Int32.ofNat d) (zN h (A 6))) ((f_X9_between h (zI M (A 6) (Int32.ofNat c).toNatClampNeg) (zI M (A 6) (Int32.ofNat a).toNatClampNeg) (zI M (A 6) (Int32.ofNat d).toNatClampNeg) M).bind fun z26 => if z26 = 0 then some 0 else some 1))))))))
          = some (if clos (nth T) (d :: c :: b :: a :: r) = true then 1 else 0) := by
        have d1 : ¬ (1 : Int32) = 0 := by decide
        simp (disch := omega) only [gd, ok, s, and_self, if_true, i_inb, i_nat, fa, fb, fc, fd, ta, tb, tc, td, r_between, b_some, clos, decide_eq_true_eq]
        unfold nth
        by_cases g1 : betw (T.reverse.getD b 0) (T.reverse.getD a 0) (T.reverse.getD d 0)
        · by_cases g2 : betw (T.reverse.getD c 0) (T.reverse.getD a 0) (T.reverse.getD d 0)
          · simp only [if_pos g1, if_pos g2, if_neg d1, if_pos (And.intro g1 g2)]
          · simp only [if_pos g1, if_neg g2, if_neg d1, if_true, if_neg fun z : betw (T.reverse.getD b 0) (T.reverse.getD a 0) (T.reverse.getD d 0) ∧ betw (T.reverse.getD c 0) (T.reverse.getD a 0) (T.reverse.getD d 0) => g2 z.2]
        · simp only [if_neg g1, if_true, if_neg fun z : betw (T.reverse.getD b 0) (T.reverse.getD a 0) (T.reverse.getD d 0) ∧ betw (T.reverse.getD c 0) (T.reverse.getD a 0) (T.reverse.getD d 0) => g1 z.1]
      rw [y, wp_some]
      by_cases g : clos (nth T) (d :: c :: b :: a :: r) = true
      · have e1 : redu (nth T) (f + 1) (d :: c :: b :: a :: r) C = redu (nth T) f (d :: a :: r) ((b, c, d) :: C) := by
          simp only [clos, decide_eq_true_eq] at g
          simp only [redu]; rw [if_pos g]
        rw [e1, if_pos g, if_pos (by decide)]
        obtain ⟨h16, h8, h9, h10⟩ := hC
        have fC : C.length < 200 := by omega
        have iC : inb (Int32.ofNat C.length) 200 := by rw [i_inb (by omega)]; exact fC
        have nC : (Int32.ofNat C.length).toNatClampNeg = C.length := i_nat (by omega)
        simp only [dq, gd, ok, s, and_self, if_true]
        rw [if_pos (show inb (Int32.ofNat b) 400 by rw [i_inb (by omega)]; exact fb), wp_lt, if_pos (show inb (Int32.ofNat c) 400 by rw [i_inb (by omega)]; exact fc), i_nat (show b < 2147483648 by omega), i_nat (show c < 2147483648 by omega)]
        refine wp_ltE fun M2 e2 => ?_
        have c2 : zI M2 (A 0) 16 = Int32.ofNat C.length := by rw [e2]; simpa [zI_sI, q] using h16
        rw [c2, if_pos iC, nC]
        refine wp_ltE fun M3 e3 => ?_
        have c3 : zI M3 (A 0) 16 = Int32.ofNat C.length := by rw [e3]; simpa [zI_sI, q] using c2
        rw [c3, if_pos iC, nC]
        refine wp_ltE fun M4 e4 => ?_
        have c4 : zI M4 (A 0) 16 = Int32.ofNat C.length := by rw [e4]; simpa [zI_sI, q] using c3
        rw [c4, if_pos iC, nC]
        refine wp_ltE fun M5 e5 => ?_
        have c5 : zI M5 (A 0) 16 = Int32.ofNat C.length := by rw [e5]; simpa [zI_sI, q] using c4
        rw [c5, i_addL]
        refine wp_ltE fun M6 e6 => ?_
        have F6 : Fm (ccA A) M M6 := by
          rw [e6, e5, e4, e3, e2]
          exact (((((Fm.rf.sI (Or.inr (Or.inr (Or.inr (Or.inr rfl))))).sI (Or.inr (Or.inr (Or.inr (Or.inr rfl))))).sI (Or.inr (Or.inl rfl))).sI (Or.inr (Or.inr (Or.inl rfl)))).sI (Or.inr (Or.inr (Or.inr (Or.inl rfl))))).sI (Or.inl ⟨rfl, rfl⟩)
        have s6 : ∀ i, zI M6 (A 11) i = if i = c then 1 else if i = b then 1 else zI M (A 11) i := fun i => by
          rw [e6, e5, e4, e3, e2]; simp [zI_sI, q]
        have U6 : US M6 (A 11) d (a :: r) := by
          obtain ⟨u1, u2, u3⟩ := hU
          refine ⟨fun i hi => ?_, fun x hx => u2 x (by simp at hx ⊢; rcases hx with z | z <;> simp [z]), (List.pairwise_cons.mp (List.pairwise_cons.mp u3).2).2⟩
          rw [s6]
          have m1 := (List.pairwise_cons.mp u3).1
          have m2 := (List.pairwise_cons.mp (List.pairwise_cons.mp u3).2).1
          by_cases i1 : i = c
          · subst i1
            rw [if_pos rfl]
            exact ⟨fun z => absurd z (by decide), fun z => by have := m1 i (by simp at z ⊢; rcases z with z | z <;> simp [z]); omega⟩
          · by_cases i2 : i = b
            · subst i2
              rw [if_neg i1, if_pos rfl]
              exact ⟨fun z => absurd z (by decide), fun z => by have := m2 i z; omega⟩
            · rw [if_neg i1, if_neg i2, u1 i hi]
              simp [i1, i2]
        have C6 : CC M6 A ((b, c, d) :: C) := by
          refine ⟨by rw [e6, zI_sI, if_pos ⟨rfl, rfl⟩]; rfl, ⟨?_, h8.congr fun i hi => ?_⟩, ⟨?_, h9.congr fun i hi => ?_⟩, ?_, h10.congr fun i hi => ?_⟩
          all_goals (rw [e6, e5, e4, e3, e2])
          all_goals (try simp only [List.length_map] at hi)
          all_goals first | (simp [zI_sI, q]; done) | (have : ¬ i = C.length := by omega); simp [zI_sI, q, this]
        refine (ih (a :: r) ((b, c, d) :: C) n M6 (by simp; omega) (by omega) (by simp; omega) U6 ?_ (hS.congr fun i _ => ?_) C6).mono ?_
        · rw [s6, if_neg (by omega), if_neg (by omega)]; exact hz
        · exact F6.i (by rintro (z | z | z | z | z) <;> simp [q] at z)
        rintro z ⟨P', k1, k2, k3, k4, k5⟩
        refine ⟨P', k1, F6.tr k2, fun i hi => ?_, k4, k5⟩
        rw [k3 i hi, s6, if_neg (by omega), if_neg (by omega)]
      · rw [if_neg g, if_neg (by decide)]
        refine stay ?_
        simp only [clos, decide_eq_true_eq] at g
        simp only [redu]; rw [if_neg g]
end LK
