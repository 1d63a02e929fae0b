/-! CHECK: what is due, what is told -/
theorem and255 (v : Int32) : ∃ k, k < 256 ∧ v &&& 255 = Int32.ofNat k := by
  refine ⟨(v.toBitVec &&& 255#32).toNat, ?_, ?_⟩
  · have h : (v.toBitVec &&& 255#32).toNat ≤ (255#32 : BitVec 32).toNat := by
      rw [BitVec.toNat_and]; exact Nat.and_le_right
    have : (255#32 : BitVec 32).toNat = 255 := by decide
    omega
  · apply Int32.toBitVec_inj.mp
    rw [Int32.toBitVec_and]
    show _ = BitVec.ofNat 32 _
    rw [BitVec.ofNat_toNat, BitVec.setWidth_eq]
    rfl
def byN (f : Nat → Int32) (i : Nat) : Nat := (f i &&& 255).toNatClampNeg
theorem byN_lt {f : Nat → Int32} (i : Nat) : byN f i < 256 ∧ f i &&& 255 = Int32.ofNat (byN f i) := by
  obtain ⟨k, hk, e⟩ := and255 (f i)
  have : byN f i = k := by unfold byN; rw [e, i_nat (by omega)]
  rw [this]; exact ⟨hk, e⟩
theorem i_par {u : Nat} (h : u < 2147483648) : Int32.ofNat u - Int32.ofNat u / 2 * 2 = Int32.ofNat (u % 2) := by
  have e1 : Int32.ofNat u / 2 = Int32.ofNat (u / 2) := (Int32.ofNat_div (b := 2) h (by decide)).symm
  have e2 : Int32.ofNat (u / 2) * 2 = Int32.ofNat (u / 2 * 2) := (Int32.ofNat_mul (u / 2) 2).symm
  rw [e1, e2, ← Int32.ofNat_sub _ _ (by omega)]
  congr 1; omega
def dueF (F S : Nat → Nat) (t : Nat) : Nat → Int32
  | 0 => -1
  | k + 1 => if F k = t then Int32.ofNat (S k) else if S k = t then Int32.ofNat (F k) else dueF F S t k
def tolF (b : Nat → Nat) (t : Nat) : Nat → Int32
  | 0 => -1
  | j + 1 =>
    if b (2 * j + 1) = t then (if (if b (2 * j) = t then (if tolF b t j = -1 then Int32.ofNat (b (2 * j + 1)) else -2) else tolF b t j) = -1 then Int32.ofNat (b (2 * j)) else -2)
    else (if b (2 * j) = t then (if tolF b t j = -1 then Int32.ofNat (b (2 * j + 1)) else -2) else tolF b t j)
def tmF (b : Nat → Nat) (t : Nat) : Nat → Nat
  | 0 => 0
  | k + 1 => if b k = t then tmF b t k + 1 else tmF b t k
def rtF (b : Nat → Nat) (t : Nat) (sh : Int32) : Nat → Bool
  | 0 => true
  | k + 1 => if b k = t then rtF b t sh k && decide (Int32.ofNat (b (if k % 2 = 0 then k + 1 else k - 1)) = sh) else rtF b t sh k
theorem tmF_le (b : Nat → Nat) (t : Nat) : ∀ k, tmF b t k ≤ k
  | 0 => Nat.le_refl _
  | k + 1 => by have := tmF_le b t k; unfold tmF; split <;> omega
theorem tol_inv (b : Nat → Nat) (t : Nat) (sh : Int32) (hb : ∀ i, b i < 2147483648) : ∀ j,
    (tmF b t (2 * j) = 0 ∧ tolF b t j = -1 ∧ rtF b t sh (2 * j) = true) ∨
    (tmF b t (2 * j) = 1 ∧ ∃ p, p < 2147483648 ∧ tolF b t j = Int32.ofNat p ∧ rtF b t sh (2 * j) = decide (Int32.ofNat p = sh)) ∨
    (2 ≤ tmF b t (2 * j) ∧ tolF b t j = -2)
  | 0 => Or.inl ⟨rfl, rfl, rfl⟩
  | j + 1 => by
    have ih := tol_inv b t sh hb j
    have e0 : tmF b t (2 * (j + 1)) = if b (2 * j + 1) = t then (if b (2 * j) = t then tmF b t (2 * j) + 1 else tmF b t (2 * j)) + 1 else (if b (2 * j) = t then tmF b t (2 * j) + 1 else tmF b t (2 * j)) := by
      rw [show 2 * (j + 1) = 2 * j + 1 + 1 by omega]; rfl
    have e1 : rtF b t sh (2 * (j + 1)) = if b (2 * j + 1) = t then (if b (2 * j) = t then rtF b t sh (2 * j) && decide (Int32.ofNat (b (2 * j + 1)) = sh) else rtF b t sh (2 * j)) && decide (Int32.ofNat (b (2 * j)) = sh) else (if b (2 * j) = t then rtF b t sh (2 * j) && decide (Int32.ofNat (b (2 * j + 1)) = sh) else rtF b t sh (2 * j)) := by
      rw [show 2 * (j + 1) = 2 * j + 1 + 1 by omega]
      simp only [rtF]
      rw [if_pos (show 2 * j % 2 = 0 by omega), if_neg (show ¬ (2 * j + 1) % 2 = 0 by omega), Nat.add_sub_cancel]
    have m1 : ∀ x, x < 2147483648 → ¬ Int32.ofNat x = -1 := fun x hx => i_ne1 hx
    have h0 := hb (2 * j)
    have h1 := hb (2 * j + 1)
    have d21 : ¬ (-2 : Int32) = -1 := by decide
    rw [e0, e1]
    simp only [tolF]
    by_cases g1 : b (2 * j + 1) = t <;> by_cases g0 : b (2 * j) = t
    · simp only [eq_true g1, eq_true g0, if_true]
      refine Or.inr (Or.inr ⟨by omega, ?_⟩)
      rcases ih with ⟨-, k2, -⟩ | ⟨-, p, hp, k2, -⟩ | ⟨-, k2⟩
      · rw [k2, if_pos rfl, if_neg (m1 _ h1)]
      · rw [k2, if_neg (m1 _ hp), if_neg d21]
      · rw [k2, if_neg d21, if_neg d21]
    · simp only [eq_true g1, eq_false g0, if_true, if_false]
      rcases ih with ⟨k1, k2, k3⟩ | ⟨k1, p, hp, k2, -⟩ | ⟨k1, k2⟩
      · rw [k2, if_pos rfl, k1, k3]
        exact Or.inr (Or.inl ⟨rfl, _, h0, rfl, by simp⟩)
      · rw [k2, if_neg (m1 _ hp), k1]
        exact Or.inr (Or.inr ⟨by omega, rfl⟩)
      · rw [k2, if_neg d21]
        exact Or.inr (Or.inr ⟨by omega, rfl⟩)
    · simp only [eq_false g1, eq_true g0, if_true, if_false]
      rcases ih with ⟨k1, k2, k3⟩ | ⟨k1, p, hp, k2, -⟩ | ⟨k1, k2⟩
      · rw [k2, if_pos rfl, k1, k3]
        exact Or.inr (Or.inl ⟨rfl, _, h1, rfl, by simp⟩)
      · rw [k2, if_neg (m1 _ hp), k1]
        exact Or.inr (Or.inr ⟨by omega, rfl⟩)
      · rw [k2, if_neg d21]
        exact Or.inr (Or.inr ⟨by omega, rfl⟩)
    · simp only [eq_false g1, eq_false g0, if_false]
      exact ih
theorem due_cases (F S : Nat → Nat) (t : Nat) : ∀ k, (∀ j, j < k → F j < 2147483648 ∧ S j < 2147483648) → dueF F S t k = -1 ∨ ∃ p, p < 2147483648 ∧ dueF F S t k = Int32.ofNat p
  | 0, _ => Or.inl rfl
  | k + 1, h => by
    unfold dueF
    split
    · exact Or.inr ⟨_, (h k (by omega)).2, rfl⟩
    · split
      · exact Or.inr ⟨_, (h k (by omega)).1, rfl⟩
      · exact due_cases F S t k fun j hj => h j (by omega)
/-- wrong for the class, wrong for the reference -/
theorem wrong_iff {b : Nat → Nat} {t j : Nat} {sh : Int32} (hb : ∀ i, b i < 2147483648) (hs : sh = -1 ∨ ∃ p, p < 2147483648 ∧ sh = Int32.ofNat p) :
    (sh = tolF b t j) ↔ (rtF b t sh (2 * j) = true ∧ tmF b t (2 * j) = if 0 ≤ sh then 1 else 0) := by
  have nn : ∀ p, p < 2147483648 → (0 : Int32) ≤ Int32.ofNat p := fun p hp => by
    rw [show (0 : Int32) = Int32.ofNat 0 from rfl, i_le (by omega) hp]; omega
  have m0 : ¬ (0 : Int32) ≤ -1 := by decide
  rcases tol_inv b t sh hb j with ⟨k1, k2, k3⟩ | ⟨k1, p, hp, k2, k3⟩ | ⟨k1, k2⟩
  · rw [k1, k2, k3]
    rcases hs with e | ⟨p, hp, e⟩
    · rw [e, if_neg m0]; simp
    · rw [e, if_pos (nn p hp)]
      simp [i_ne1 hp]
  · rw [k1, k2, k3]
    rcases hs with e | ⟨p', hp', e⟩
    · rw [e, if_neg m0]
      have : ¬ (-1 : Int32) = Int32.ofNat p := fun z => i_ne1 hp z.symm
      simp [this]
    · rw [e, if_pos (nn p' hp')]
      simp only [decide_eq_true_eq, and_true]
      exact eq_comm
  · rw [k2]
    rcases hs with e | ⟨p', hp', e⟩
    · rw [e, if_neg m0]
      constructor
      · intro z; exact absurd z (by decide)
      · rintro ⟨-, z⟩; omega
    · rw [e, if_pos (nn p' hp')]
      constructor
      · intro z
        have := nn p' hp'
        rw [z] at this
        exact absurd this (by decide)
      · rintro ⟨-, z⟩; omega
theorem nth_map {C : List Cy} {f : Cy → Int32} {k : Nat} (h : k < C.length) : nth (C.map f) k = f (C.reverse.getD k (0, 0, 0)) := by
  unfold nth
  rw [← List.map_reverse, List.getD_eq_getElem?_getD, List.getElem?_map, List.getD_eq_getElem?_getD, List.getElem?_eq_getElem (by simpa using h)]
  rfl
section C
variable {h : Hs} {B A : Nat → Nat} {M : Mm} {u t N c : Nat} {F S : Nat → Nat}
theorem x_byteAt {pic : Prop} (S1 : Sh1 h B pic) (hu : u ≤ 400) (e : zI M (B 1) 1 = Int32.ofNat u) (ht : t < u) : f_X6_byteAt h (B 1) (Int32.ofNat t) M = some (Int32.ofNat (byN (zI M (B 2)) t)) := by
  obtain ⟨o1, r1, o2, n2⟩ := S1.2.1.2.2.2.2.2.2.2.2.1
  have f1 : ¬ u ≤ t := by omega
  have f2 : ¬ 400 ≤ t := by omega
  have f3 : t < 400 := by omega
  unfold f_X6_byteAt
  simp (disch := omega) only [gd, ok, dq, o1, r1, o2, n2, and_self, if_true, e, i_neg, if_false, i_le, f1, f2, i_inb, f3, i_nat, (byN_lt t).2]
theorem x_begin (hB : ∀ i j, B i = B j → i = j) (sx : ShX h B) : wp (f_X1_begin h (B 12) M) (fun M' => FB B (fun i _ => i = 13 ∨ i = 14) M M' ∧ (∀ i, i < 256 → zI M' (B 13) i = -1) ∧ ∀ i, i < 256 → zI M' (B 14) i = -1) := by
  obtain ⟨o, r0, r1, o3, o4, n3, n4⟩ := sx.2.2.2.2.2.2.2.2.2.2.1
  have q : ∀ i j, (B i = B j) = (i = j) := fun i j => propext ⟨hB i j, fun e => by rw [e]⟩
  unfold f_X1_begin
  rw [wp_bind]
  refine (loopW (fun n k s => lp_X1_begin_2 h (B 12) n (Int32.ofNat k) s) 256 (fun k M' => FB B (fun i _ => i = 13 ∨ i = 14) M M' ∧ ∀ i, i < k → zI M' (B 13) i = -1) (fun z => FB B (fun i _ => i = 13 ∨ i = 14) M z.2 ∧ ∀ i, i < 256 → zI z.2 (B 13) i = -1) ?_ ?_ fuel 0 M (by omega) (by unfold fuel; omega) ⟨FB.rf, by omega⟩).mono ?_
  · intro n k M1 hk ⟨F, hv⟩ ih
    have f1 : ¬ 256 ≤ k := by omega
    simp only [lp_X1_begin_2]
    simp (disch := omega) only [gd, ok, dq, o, r0, o3, n3, and_self, if_true, i_le, f1, if_false, i_inb, hk, i_nat, lt_, i_addL]
    refine ih _ ⟨F.sI hB (Or.inl rfl), fun i hi => ?_⟩
    by_cases e : i = k
    · subst e; simp [zI_sI]
    · rw [zI_sI, if_neg (by simp [e])]; exact hv i (by omega)
  · intro n M1 ⟨F, hv⟩
    simp only [lp_X1_begin_2]
    simp only [gd, ok, dq, o, r0, o3, n3, and_self, if_true, Int32.le_refl]
    rw [wp_some]
    exact ⟨F, hv⟩
  rintro ⟨v, M1⟩ ⟨F, hv⟩
  have hv : ∀ i, i < 256 → zI M1 (B 13) i = -1 := hv
  rw [wp_bind]
  refine loopW (fun n k s => lp_X1_begin_26 h (B 12) n (Int32.ofNat k) s) 256 (fun k M' => FB B (fun i _ => i = 13 ∨ i = 14) M M' ∧ (∀ i, i < 256 → zI M' (B 13) i = -1) ∧ ∀ i, i < k → zI M' (B 14) i = -1) _ ?_ ?_ fuel 0 M1 (by omega) (by unfold fuel; omega) ⟨F, hv, by omega⟩
  · intro n k M1 hk ⟨F, hv, hw⟩ ih
    have f1 : ¬ 256 ≤ k := by omega
    simp only [lp_X1_begin_26]
    simp (disch := omega) only [gd, ok, dq, o, r1, o4, n4, and_self, if_true, i_le, f1, if_false, i_inb, hk, i_nat, lt_, i_addL]
    refine ih _ ⟨F.sI hB (Or.inr rfl), fun i hi => by rw [zI_sI, if_neg (by simp [q])]; exact hv i hi, fun i hi => ?_⟩
    by_cases e : i = k
    · subst e; simp [zI_sI]
    · rw [zI_sI, if_neg (by simp [e])]; exact hw i (by omega)
  · intro n M1 ⟨F, hv, hw⟩
    simp only [lp_X1_begin_26]
    simp only [gd, ok, dq, o, r1, o4, n4, and_self, if_true, Int32.le_refl]
    rw [wp_some, wp_some]
    exact ⟨F, hv, hw⟩
theorem x_pairs {pic : Prop} (S1 : Sh1 h B pic) (hN : N ≤ 256) (hc : c ≤ 200) (e11 : zI M (B 3) 11 = Int32.ofNat c) (hF : ∀ k, k < c → zI M (B 7) k = Int32.ofNat (F k) ∧ zI M (B 8) k = Int32.ofNat (S k) ∧ F k < N ∧ S k < N) (h0 : ∀ i, i < 256 → zI M (B 13) i = -1) :
    wp (lp_X8_checkTape_105 h (B 0) (B 3) (B 12) fuel 0 M) (fun z => FB B (fun i _ => i = 13) M z.2 ∧ ∀ t, t < N → zI z.2 (B 13) t = dueF F S t c) := by
  obtain ⟨hB, sx, sr, -⟩ := S1
  obtain ⟨o, r0, -, o3, -, n3, -⟩ := sx.2.2.2.2.2.2.2.2.2.2.1
  refine loopW (fun n k s => lp_X8_checkTape_105 h (B 0) (B 3) (B 12) n (Int32.ofNat k) s) c (fun k M' => FB B (fun i _ => i = 13) M M' ∧ ∀ t, t < N → zI M' (B 13) t = dueF F S t k) _ ?_ ?_ fuel 0 M (by omega) (by unfold fuel; omega) ⟨FB.rf, fun t ht => h0 t (by omega)⟩
  · intro n k M1 hk ⟨G, hv⟩ ih
    obtain ⟨e1, e2, l1, l2⟩ := hF k hk
    have g1 : zI M1 (B 7) k = Int32.ofNat (F k) := (G.i (by omega)).trans e1
    have g2 : zI M1 (B 8) k = Int32.ofNat (S k) := (G.i (by omega)).trans e2
    have g11 : zI M1 (B 3) 11 = Int32.ofNat c := (G.i (by omega)).trans e11
    have f1 : ¬ 256 ≤ F k := by omega
    have f2 : ¬ 256 ≤ S k := by omega
    have f3 : F k < 256 := by omega
    have f4 : S k < 256 := by omega
    simp only [lp_X8_checkTape_105]
    rw [g11, if_neg (by rw [i_le (by omega) (by omega)]; omega), x_firstOf sr (by omega), b_some, x_secondOf sr (by omega), b_some, g1, g2]
    unfold f_X1_pair
    simp (disch := omega) only [gd, ok, dq, o, r0, o3, n3, and_self, if_true, i_neg, if_false, i_le, f1, f2, i_inb, f3, f4, i_nat, lt_, i_addL, b_some]
    refine ih _ ⟨(G.sI hB rfl).sI hB rfl, fun t ht => ?_⟩
    simp only [zI_sI, dueF]
    by_cases t2 : t = S k
    · subst t2
      rw [if_pos (by simp)]
      by_cases t1 : F k = S k
      · rw [if_pos t1, t1]
      · rw [if_neg t1, if_pos rfl]
    · rw [if_neg (by simp [t2])]
      by_cases t1 : t = F k
      · subst t1; simp
      · rw [if_neg (by simp [t1]), if_neg (fun z => t1 z.symm), if_neg (fun z => t2 z.symm)]
        exact hv t ht
  · intro n M1 ⟨G, hv⟩
    have g11 : zI M1 (B 3) 11 = Int32.ofNat c := (G.i (by omega)).trans e11
    simp only [lp_X8_checkTape_105]
    rw [g11, if_pos (Int32.le_refl _), wp_some]
    exact ⟨G, hv⟩
theorem x_tells {pic : Prop} (S1 : Sh1 h B pic) (hN : N ≤ 256) (hu : u ≤ 400) (hu2 : u % 2 = 0) (eu : zI M (B 1) 1 = Int32.ofNat u) (hb : ∀ k, k < u → byN (zI M (B 2)) k < N) (h0 : ∀ i, i < 256 → zI M (B 14) i = -1) :
    wp (lp_X8_checkTape_147 h (B 0) (B 1) (B 12) fuel 0 M) (fun z => FB B (fun i _ => i = 14) M z.2 ∧ ∀ t, t < N → zI z.2 (B 14) t = tolF (byN (zI M (B 2))) t (u / 2)) := by
  have S1' := S1
  obtain ⟨hB, sx, sr, -⟩ := S1'
  obtain ⟨o, -, r1, -, o4, -, n4⟩ := sx.2.2.2.2.2.2.2.2.2.2.1
  refine loopW (fun n k s => lp_X8_checkTape_147 h (B 0) (B 1) (B 12) n (Int32.ofNat (2 * k)) s) (u / 2) (fun k M' => FB B (fun i _ => i = 14) M M' ∧ ∀ t, t < N → zI M' (B 14) t = tolF (byN (zI M (B 2))) t k) _ ?_ ?_ fuel 0 M (by omega) (by unfold fuel; omega) ⟨FB.rf, fun t ht => h0 t (by omega)⟩
  · intro n k M1 hk ⟨G, hv⟩ ih
    have ge : zI M1 (B 1) 1 = Int32.ofNat u := (G.i (by omega)).trans eu
    have gb : zI M1 (B 2) = zI M (B 2) := funext fun j => G.i (by omega)
    have b1 := x_byteAt (M := M1) S1 hu ge (show 2 * k < u by omega)
    have b2 := x_byteAt (M := M1) S1 hu ge (show 2 * k + 1 < u by omega)
    rw [gb] at b1 b2
    have l1 := hb (2 * k) (by omega)
    have l2 := hb (2 * k + 1) (by omega)
    generalize hbb : byN (zI M (B 2)) = b at *
    have f1 : ¬ 256 ≤ b (2 * k) := by omega
    have f2 : ¬ 256 ≤ b (2 * k + 1) := by omega
    have f3 : b (2 * k) < 256 := by omega
    have f4 : b (2 * k + 1) < 256 := by omega
    simp only [lp_X8_checkTape_147]
    rw [ge, if_neg (by rw [i_addL, i_le (by omega) (by show 2 * k + 1 < _; omega)]; show ¬ u ≤ 2 * k + 1; omega), b1, b_some, show Int32.ofNat (2 * k) + 1 = Int32.ofNat (2 * k + 1) from i_addL, b2, b_some]
    unfold f_X1_tell
    simp (disch := omega) only [gd, ok, dq, o, r1, o4, n4, and_self, if_true, i_neg, if_false, i_le, f1, f2, i_inb, f3, f4, i_nat]
    have ea : (if ¬ zI M1 (B 14) (b (2 * k)) = -1 then some (-2 : Int32) else some (Int32.ofNat (b (2 * k + 1)))) = some (if zI M1 (B 14) (b (2 * k)) = -1 then Int32.ofNat (b (2 * k + 1)) else -2) := by
      by_cases z : zI M1 (B 14) (b (2 * k)) = -1 <;> simp [z]
    rw [ea, b_some, wp_bind]
    refine wp_ltE fun M2 e2 => ?_
    have ec : (if ¬ zI M2 (B 14) (b (2 * k + 1)) = -1 then some (-2 : Int32) else some (Int32.ofNat (b (2 * k)))) = some (if zI M2 (B 14) (b (2 * k + 1)) = -1 then Int32.ofNat (b (2 * k)) else -2) := by
      by_cases z : zI M2 (B 14) (b (2 * k + 1)) = -1 <;> simp [z]
    rw [ec, b_some, wp_lt, wp_some, wp_lt, i_addL]
    refine ih _ ⟨by rw [e2]; exact (G.sI hB rfl).sI hB rfl, fun t ht => ?_⟩
    have v1 : ∀ t, t < N → zI M2 (B 14) t = if b (2 * k) = t then (if tolF b t k = -1 then Int32.ofNat (b (2 * k + 1)) else -2) else tolF b t k := by
      intro t ht
      rw [e2, zI_sI]
      by_cases z : t = b (2 * k)
      · subst z
        rw [if_pos ⟨rfl, rfl⟩, if_pos rfl, hv _ ht]
      · rw [if_neg (by simp [z]), if_neg (fun y => z y.symm)]; exact hv t ht
    rw [zI_sI]
    simp only [tolF]
    by_cases z : t = b (2 * k + 1)
    · subst z
      rw [if_pos (by simp), if_pos rfl, v1 _ ht]
    · rw [if_neg (by simp [z]), if_neg (fun y => z y.symm)]; exact v1 t ht
  · intro n M1 ⟨G, hv⟩
    have ge : zI M1 (B 1) 1 = Int32.ofNat u := (G.i (by omega)).trans eu
    simp only [lp_X8_checkTape_147]
    rw [ge, if_pos (by rw [i_addL, i_le (by omega) (by show 2 * (u / 2) + 1 < _; omega)]; show u ≤ 2 * (u / 2) + 1; omega), wp_some]
    exact ⟨G, hv⟩
end C
