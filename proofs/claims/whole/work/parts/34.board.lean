/-! THE CLASS: ladders, the board's shape, its readers -/
abbrev LdA (h : Hs) (a t v m : Nat) : Prop := ok h a 3 ∧ zR h a 0 = some t ∧ zR h a 1 = some v ∧ ok h t 11 ∧ ok h v 11 ∧ zN h t = m ∧ zN h v = m
/-- the first of T that is not below x, among r of them from k on -/
def fnb (T : Nat → Int32) (x : Int32) : Nat → Nat → Option Nat
  | 0, _ => none
  | r + 1, k => if T k < x then fnb T x r (k + 1) else some k
theorem fnb_lt {T : Nat → Int32} {x : Int32} : ∀ {r k i : Nat}, fnb T x r k = some i → k ≤ i ∧ i < k + r
  | 0, _, _, h => nomatch h
  | r + 1, k, i, h => by
    unfold fnb at h
    split at h
    · have := fnb_lt h; omega
    · cases h; omega
theorem fnb_cg {T T' : Nat → Int32} {x : Int32} : ∀ {r k : Nat}, (∀ i, k ≤ i → i < k + r → T i = T' i) → fnb T x r k = fnb T' x r k
  | 0, _, _ => rfl
  | r + 1, k, h => by
    unfold fnb
    rw [h k (by omega) (by omega), fnb_cg (r := r) (k := k + 1) fun i h1 h2 => h i (by omega) (by omega)]
def fnbI (T : Nat → Int32) (x : Int32) (c : Nat) : Int32 := match fnb T x c 0 with
  | none => -1
  | some i => Int32.ofNat i
section X3
variable {h : Hs} {a t v m a' t' v' c k : Nat} {M : Mm} {p x y : Int32}
theorem x_takes (s : LdA h a t v m) (hm : m ≤ 6) (ec : zI M a 2 = Int32.ofNat c) (hc : c ≤ m) : f_X3_takes h a p M = some (if c < m ∧ (c = 0 ∨ zI M t (c - 1) < p) then 1 else 0) := by
  unfold f_X3_takes
  simp (disch := omega) only [gd, ok, dq, s, and_self, if_true, ec, i_lt, i_ltL]
  by_cases h1 : c < m
  · by_cases h2 : c = 0
    · subst h2; simp [h1]
    · have f1 : ¬ c < 1 := by omega
      have f2 : c - 1 < m := by omega
      simp (disch := omega) only [h1, f1, if_true, if_false, i_subL, i_inb, i_nat, f2, h2, false_or, true_and]
      by_cases h3 : p ≤ zI M t (c - 1)
      · rw [if_pos h3, if_neg (Int32.not_lt.mpr h3)]
      · rw [if_neg h3, if_pos (Int32.not_le.mp h3)]
  · simp [h1]
theorem x_addL (s : LdA h a t v m) (hm : m ≤ 6) (ec : zI M a 2 = Int32.ofNat c) (hc : c < m) (nt : t ≠ a) (nv : v ≠ a) : f_X3_add h a x y M = some (Int32.ofNat (c + 1), sI (sI (sI M t c x) v c y) a 2 (Int32.ofNat (c + 1))) := by
  unfold f_X3_add
  have f1 : ¬ m ≤ c := by omega
  have n1 := nt.symm
  have n2 := nv.symm
  simp (disch := omega) only [gd, ok, dq, lt_, s, and_self, if_true, ec, i_neg, i_le, i_inb, i_nat, f1, hc, if_false, zI_sI, n1, n2, false_and, i_addL, Option.bind_some]
theorem x_topAt (s : LdA h a t v m) (hm : m ≤ 6) (hk : k < m) : f_X3_topAt h a (Int32.ofNat k) M = some (zI M t k) := by
  unfold f_X3_topAt
  have f1 : ¬ m ≤ k := by omega
  simp (disch := omega) only [gd, ok, dq, s, and_self, if_true, i_neg, i_le, i_inb, i_nat, f1, hk, if_false]
theorem x_valueAt (s : LdA h a t v m) (hm : m ≤ 6) (hk : k < m) : f_X3_valueAt h a (Int32.ofNat k) M = some (zI M v k) := by
  unfold f_X3_valueAt
  have f1 : ¬ m ≤ k := by omega
  simp (disch := omega) only [gd, ok, dq, s, and_self, if_true, i_neg, i_le, i_inb, i_nat, f1, hk, if_false]
theorem x_valueN : f_X3_valueAt h a (-1) M = some 0 := rfl
theorem x_first (s : LdA h a t v m) (hm : m ≤ 6) (ec : zI M a 2 = Int32.ofNat c) (hc : c ≤ m) : f_X3_firstNotBelow h a x M = some (fnbI (zI M t) x c) := by
  have K : ∀ (r k n : Nat), r + k = c → r < n → lp_X3_firstNotBelow_2 h x a M n (Int32.ofNat k) = some (match fnb (zI M t) x r k with | none => .inr (Int32.ofNat c) | some i => .inl (Int32.ofNat i)) := by
    intro r
    induction r with
    | zero =>
      intro k n hk hn
      obtain ⟨n, rfl⟩ : ∃ q, n = q + 1 := ⟨n - 1, by omega⟩
      have : k = c := by omega
      subst this
      simp only [lp_X3_firstNotBelow_2, gd, ok, s, and_self, if_true, ec, Int32.le_refl, fnb]
    | succ r ih =>
      intro k n hk hn
      obtain ⟨n, rfl⟩ : ∃ q, n = q + 1 := ⟨n - 1, by omega⟩
      have f1 : ¬ c ≤ k := by omega
      have f2 : ¬ m ≤ k := by omega
      have f3 : k < m := by omega
      simp (disch := omega) only [lp_X3_firstNotBelow_2, gd, ok, dq, s, and_self, if_true, ec, i_le, f1, f2, f3, i_inb, i_nat, if_false, fnb, lt_, i_addL]
      by_cases e : zI M t k < x
      · simp only [e, if_true]; exact ih (k + 1) n (by omega) (by omega)
      · simp only [e, if_false]
  unfold f_X3_firstNotBelow fnbI
  rw [show (0 : Int32) = Int32.ofNat 0 from rfl, K c 0 fuel (by omega) (by unfold fuel; omega)]
  cases fnb (zI M t) x c 0 <;> rfl
theorem x_copyL (s : LdA h a t v m) (s' : LdA h a' t' v' m) (hm : m ≤ 6) (ec : zI M a' 2 = Int32.ofNat c) (hc : c ≤ m) (na : a ≠ a') (ntv : t ≠ v) (ntt : t ≠ t') (ntv' : t ≠ v') (nvt : v ≠ t') (nvv : v ≠ v') (nat : a ≠ t) (nav : a ≠ v) (nat' : a ≠ t') (nav' : a ≠ v') (nta' : a' ≠ t) (nva' : a' ≠ v) :
    wp (f_X3_copyFrom h a a' M) (fun M' => Fm (fun b _ => b = a ∨ b = t ∨ b = v) M M' ∧ zI M' a 2 = Int32.ofNat c ∧ ∀ j, j < c → zI M' t j = zI M t' j ∧ zI M' v j = zI M v' j) := by
  unfold f_X3_copyFrom
  simp only [wp_gd, ok, wp_lt, wp_bind, s, s', and_self, true_and]
  generalize hM0 : sI M a 2 (zI M a' 2) = M0
  have F0 : Fm (fun b _ => b = a ∨ b = t ∨ b = v) M M0 := by rw [← hM0]; exact Fm.rf.sI (Or.inl rfl)
  have c0 : zI M0 a 2 = Int32.ofNat c := by rw [← hM0, zI_sI]; simp [ec]
  refine (loopW (fun n k s => lp_X3_copyFrom_10 h a' a n (Int32.ofNat k) s) c (fun k M' => Fm (fun b _ => b = a ∨ b = t ∨ b = v) M M' ∧ zI M' a 2 = Int32.ofNat c ∧ ∀ i, i < k → zI M' t i = zI M t' i) (fun z => Fm (fun b _ => b = a ∨ b = t ∨ b = v) M z.2 ∧ zI z.2 a 2 = Int32.ofNat c ∧ ∀ i, i < c → zI z.2 t i = zI M t' i) ?_ ?_ fuel 0 M0 (by omega) (by unfold fuel; omega) ⟨F0, c0, by omega⟩).mono ?_
  · intro n k M1 hk ⟨F, h1, h2⟩ ih
    have f1 : ¬ c ≤ k := by omega
    have f2 : ¬ m ≤ k := by omega
    have f3 : k < m := by omega
    have e3 : zI M1 t' k = zI M t' k := F.i (by simp [nat'.symm, ntt.symm, nvt.symm])
    simp only [lp_X3_copyFrom_10]
    simp (disch := omega) only [gd, ok, dq, lt_, s, x_topAt s' hm f3, and_self, if_true, h1, i_le, i_inb, i_nat, f1, f2, f3, if_false, i_addL, Option.bind_some]
    refine ih _ ⟨F.sI (Or.inr (Or.inl rfl)), ?_, fun i hi => ?_⟩
    · rw [zI_sI, if_neg (fun e => nat e.1)]; exact h1
    · rw [zI_sI]
      by_cases e : i = k
      · subst e; simp [e3]
      · rw [if_neg (by simp [e])]; exact h2 i (by omega)
  · intro n M1 ⟨F, h1, h2⟩
    simp only [lp_X3_copyFrom_10, h1, Int32.le_refl, if_true, wp_some]
    exact ⟨F, trivial, h2⟩
  intro z ⟨F, h1, h2⟩
  refine (loopW (fun n k s => lp_X3_copyFrom_46 h a' a n (Int32.ofNat k) s) c (fun k M' => Fm (fun b _ => b = a ∨ b = t ∨ b = v) M M' ∧ zI M' a 2 = Int32.ofNat c ∧ (∀ i, i < c → zI M' t i = zI M t' i) ∧ ∀ i, i < k → zI M' v i = zI M v' i) _ ?_ ?_ fuel 0 z.2 (by omega) (by unfold fuel; omega) ⟨F, h1, h2, by omega⟩)
  · intro n k M1 hk ⟨F, h1, h2, h3⟩ ih
    have f1 : ¬ c ≤ k := by omega
    have f2 : ¬ m ≤ k := by omega
    have f3 : k < m := by omega
    have e3 : zI M1 v' k = zI M v' k := F.i (by simp [nav'.symm, ntv'.symm, nvv.symm])
    simp only [lp_X3_copyFrom_46]
    simp (disch := omega) only [gd, ok, dq, lt_, s, x_valueAt s' hm f3, and_self, if_true, h1, i_le, i_inb, i_nat, f1, f2, f3, if_false, i_addL, Option.bind_some]
    refine ih _ ⟨F.sI (Or.inr (Or.inr rfl)), ?_, fun i hi => ?_, fun i hi => ?_⟩
    · rw [zI_sI, if_neg (fun e => nav e.1)]; exact h1
    · rw [zI_sI, if_neg (fun e => ntv e.1)]; exact h2 i hi
    · rw [zI_sI]
      by_cases e : i = k
      · subst e; simp [e3]
      · rw [if_neg (by simp [e])]; exact h3 i (by omega)
  · intro n M1 ⟨F, h1, h2, h3⟩
    simp only [lp_X3_copyFrom_46, h1, Int32.le_refl, if_true, wp_some]
    exact ⟨F, trivial, fun j hj => ⟨h2 j hj, h3 j hj⟩⟩
end X3
def aB (B : Nat → Nat) (β : Nat) : Nat := B (20 + β)
def aPs (B : Nat → Nat) (β : Nat) : Nat := B (22 + β)
def aDs (B : Nat → Nat) (β : Nat) : Nat := B (24 + β)
def aP (B : Nat → Nat) (β n : Nat) : Nat := B (100 + 12 * β + n)
def aC (B : Nat → Nat) (β n : Nat) : Nat := B (200 + 12 * β + n)
def aD (B : Nat → Nat) (β n : Nat) : Nat := B (300 + 12 * β + n)
def aL (B : Nat → Nat) (β n i : Nat) : Nat := B (400 + 100 * i + 12 * β + n)
def aT (B : Nat → Nat) (β n i : Nat) : Nat := B (700 + 100 * i + 12 * β + n)
def aV (B : Nat → Nat) (β n i : Nat) : Nat := B (1000 + 100 * i + 12 * β + n)
def mst (i : Nat) : Nat := if i = 0 then 6 else 4
def oft (i : Nat) : Nat := if i = 0 then 2 else if i = 1 then 15 else 28
abbrev DtA (h : Hs) (B : Nat → Nat) (β d : Nat) : Prop := ok h (aD B β d) 2 ∧ (∀ i, i < 3 → zR h (aD B β d) i = some (aL B β d i)) ∧ ∀ i, i < 3 → LdA h (aL B β d i) (aT B β d i) (aV B β d i) (mst i)
abbrev BdA (h : Hs) (B : Nat → Nat) (β : Nat) : Prop := ok h (aB B β) 0 ∧ zR h (aB B β) 0 = some (aPs B β) ∧ zR h (aB B β) 1 = some (aDs B β) ∧ ok h (aPs B β) 15 ∧ ok h (aDs B β) 14 ∧ zN h (aPs B β) = 12 ∧ zN h (aDs B β) = 12 ∧
  (∀ n, n < 12 → zR h (aPs B β) n = some (aP B β n)) ∧ (∀ n, n < 12 → zR h (aDs B β) n = some (aD B β n)) ∧ (∀ n, n < 12 → PlA h (aP B β n) (aC B β n)) ∧ ∀ n, n < 12 → DtA h B β n
/-- the places of a board -/
def PRs (M : Mm) (B : Nat → Nat) (β : Nat) (I : Nat → Int32) : Prop := ∀ n, n < 12 → PR M (aP B β n) (aC B β n) I n
def LR (M : Mm) (l t v : Nat) (I : Nat → Int32) (b : Nat) : Prop := zI M l 2 = I b ∧ ∀ j, j < (I b).toNatClampNeg → zI M t j = I (b + 1 + 2 * j) ∧ zI M v j = I (b + 2 + 2 * j)
def DR (M : Mm) (B : Nat → Nat) (β t : Nat) (I : Nat → Int32) (d : Nat) : Prop :=
  zI M (aD B β t) 3 = I (4848 + 40 * d) ∧ zI M (aD B β t) 4 = I (4848 + 40 * d + 1) ∧ zI M (aD B β t) 5 = I (4848 + 40 * d + 24) ∧ zI M (aD B β t) 6 = I (4848 + 40 * d + 25) ∧ zI M (aD B β t) 7 = I (4848 + 40 * d + 26) ∧ zI M (aD B β t) 8 = I (4848 + 40 * d + 27) ∧
  ∀ i, i < 3 → LR M (aL B β t i) (aT B β t i) (aV B β t i) I (4848 + 40 * d + oft i)
def DRs (M : Mm) (B : Nat → Nat) (β : Nat) (I : Nat → Int32) : Prop := ∀ d, d < 12 → DR M B β d I d
