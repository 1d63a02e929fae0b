/-! CALLS: check -/
def fsb (P : Nat → Prop) [DecidablePred P] : Nat → Nat → Option Nat
  | 0, _ => none
  | r + 1, k => if P k then fsb P r (k + 1) else some k
theorem fsb_cg {P Q : Nat → Prop} [DecidablePred P] [DecidablePred Q] : ∀ {r k : Nat}, (∀ i, k ≤ i → i < k + r → (P i ↔ Q i)) → fsb P r k = fsb Q r k
  | 0, _, _ => rfl
  | r + 1, k, h => by
    have ih := fsb_cg (P := P) (Q := Q) (r := r) (k := k + 1) fun i h1 h2 => h i (by omega) (by omega)
    have hk := h k (by omega) (by omega)
    unfold fsb
    by_cases g : P k
    · rw [if_pos g, if_pos (hk.mp g), ih]
    · rw [if_neg g, if_neg (fun z => g (hk.mpr z))]
theorem fsb_none {P : Nat → Prop} [DecidablePred P] : ∀ {r k : Nat}, fsb P r k = none → ∀ i, k ≤ i → i < k + r → P i
  | 0, _, _, i, h1, h2 => by omega
  | r + 1, k, h, i, h1, h2 => by
    unfold fsb at h
    by_cases g : P k
    · rw [if_pos g] at h
      by_cases e : i = k
      · rw [e]; exact g
      · exact fsb_none h i (by omega) (by omega)
    · rw [if_neg g] at h; cases h
theorem fsb_lt {P : Nat → Prop} [DecidablePred P] : ∀ {r k i : Nat}, fsb P r k = some i → i < k + r
  | 0, _, _, h => nomatch h
  | r + 1, k, i, h => by
    unfold fsb at h
    by_cases g : P k
    · rw [if_pos g] at h; have := fsb_lt h; omega
    · rw [if_neg g] at h; cases h; omega
section C
variable {h : Hs} {B A : Nat → Nat} {M : Mm} {u t N c : Nat} {F S : Nat → Nat} {b : Nat → Nat}
theorem x_least (sx : ShX h B) (hN : N ≤ 256) {D T : Nat → Int32} (hD : ∀ t, t < N → zI M (B 13) t = D t) (hT : ∀ t, t < N → zI M (B 14) t = T t) : f_X1_leastWrong h (B 12) (Int32.ofNat N) M = some (match fsb (fun t => D t = T t) N 0 with | none => -1 | some t => Int32.ofNat t) := by
  obtain ⟨o, r0, r1, o3, o4, n3, n4⟩ := sx.2.2.2.2.2.2.2.2.2.2.1
  have K : ∀ (r k n : Nat), r + k = N → r < n → lp_X1_leastWrong_2 h (Int32.ofNat N) (B 12) M n (Int32.ofNat k) = some (match fsb (fun t => D t = T t) r k with | none => .inr (Int32.ofNat N) | some i => .inl (Int32.ofNat i)) := by
    intro r
    induction r with
    | zero =>
      intro k n hk hn
      obtain ⟨n, rfl⟩ : ∃ q, n = q + 1 := ⟨n - 1, by omega⟩
      have : k = N := by omega
      subst this
      simp only [lp_X1_leastWrong_2, Int32.le_refl, if_true, fsb]
    | succ r ih =>
      intro k n hk hn
      obtain ⟨n, rfl⟩ : ∃ q, n = q + 1 := ⟨n - 1, by omega⟩
      have f1 : ¬ N ≤ k := by omega
      have f2 : ¬ 256 ≤ k := by omega
      have f3 : k < 256 := by omega
      simp only [lp_X1_leastWrong_2]
      simp (disch := omega) only [gd, ok, dq, o, r0, r1, o3, o4, n3, n4, and_self, if_true, i_le, f1, f2, f3, i_inb, i_nat, if_false, lt_, i_addL, hD k (by omega), hT k (by omega)]
      by_cases e : D k = T k
      · simp only [fsb, e, if_true]; exact ih (k + 1) n (by omega) (by omega)
      · simp only [fsb, e, if_false]
  unfold f_X1_leastWrong
  rw [show (0 : Int32) = Int32.ofNat 0 from rfl, K N 0 fuel (by omega) (by unfold fuel; omega)]
  cases fsb (fun t => D t = T t) N 0 <;> rfl
theorem x_scan {pic : Prop} (S1 : Sh1 h B pic) (hu : u ≤ 400) (eu : zI M (B 1) 1 = Int32.ofNat u) (hN : N ≤ 400) (e9 : zI M (B 3) 9 = Int32.ofNat N) : lp_X8_checkTape_58 h (B 0) (B 3) (B 1) M fuel 0 = some (match fsb (fun i => byN (zI M (B 2)) i < N) u 0 with | none => .inr (Int32.ofNat u) | some _ => .inl (-2, M)) := by
  have K : ∀ (r k n : Nat), r + k = u → r < n → lp_X8_checkTape_58 h (B 0) (B 3) (B 1) M n (Int32.ofNat k) = some (match fsb (fun i => byN (zI M (B 2)) i < N) r k with | none => .inr (Int32.ofNat u) | some _ => .inl (-2, M)) := by
    intro r
    induction r with
    | zero =>
      intro k n hk hn
      obtain ⟨n, rfl⟩ : ∃ q, n = q + 1 := ⟨n - 1, by omega⟩
      have : k = u := by omega
      subst this
      simp only [lp_X8_checkTape_58, eu, Int32.le_refl, if_true, fsb]
    | succ r ih =>
      intro k n hk hn
      obtain ⟨n, rfl⟩ : ∃ q, n = q + 1 := ⟨n - 1, by omega⟩
      have hb := (byN_lt (f := zI M (B 2)) k).1
      simp only [lp_X8_checkTape_58]
      rw [eu, if_neg (by rw [i_le (by omega) (by omega)]; omega), x_byteAt S1 hu eu (show k < u by omega), b_some, e9]
      by_cases e : byN (zI M (B 2)) k < N
      · rw [if_pos (by rw [i_lt (by omega) (by omega)]; exact e)]
        simp only [fsb, e, if_true, lt_, i_addL]; exact ih (k + 1) n (by omega) (by omega)
      · rw [if_neg (by rw [i_lt (by omega) (by omega)]; exact e)]
        simp only [fsb, e, if_false]
  exact K u 0 fuel (by omega) (by unfold fuel; omega)
theorem r_scan (S2 : Sh2 h A) (hu : u ≤ 400) (hN : N ≤ 400) (e12 : zI M (A 0) 12 = Int32.ofNat N) (hb : ∀ i, i < u → zI M (A 4) i &&& 255 = Int32.ofNat (b i)) (hb2 : ∀ i, b i < 256) : lp_X9_check_53 h (Int32.ofNat u) (A 0) M fuel 0 = some (match fsb (fun i => b i < N) u 0 with | none => .inr (Int32.ofNat u) | some _ => .inl (-2, M)) := by
  have s := S2.s
  have K : ∀ (r k n : Nat), r + k = u → r < n → lp_X9_check_53 h (Int32.ofNat u) (A 0) M n (Int32.ofNat k) = some (match fsb (fun i => b i < N) r k with | none => .inr (Int32.ofNat u) | some _ => .inl (-2, M)) := by
    intro r
    induction r with
    | zero =>
      intro k n hk hn
      obtain ⟨n, rfl⟩ : ∃ q, n = q + 1 := ⟨n - 1, by omega⟩
      have : k = u := by omega
      subst this
      simp only [lp_X9_check_53, Int32.le_refl, if_true, fsb]
    | succ r ih =>
      intro k n hk hn
      obtain ⟨n, rfl⟩ : ∃ q, n = q + 1 := ⟨n - 1, by omega⟩
      have f1 : k < 400 := by omega
      have hbk := hb2 k
      simp only [lp_X9_check_53]
      rw [if_neg (by rw [i_le (by omega) (by omega)]; omega)]
      simp (disch := omega) only [gd, ok, dq, s, and_self, if_true, i_inb, f1, i_nat, hb k (by omega), e12]
      by_cases e : b k < N
      · rw [if_pos (by rw [i_lt (by omega) (by omega)]; exact e)]
        simp only [fsb, e, if_true, lt_, i_addL]; exact ih (k + 1) n (by omega) (by omega)
      · rw [if_neg (by rw [i_lt (by omega) (by omega)]; exact e)]
        simp only [fsb, e, if_false]
  exact K u 0 fuel (by omega) (by unfold fuel; omega)
theorem r_due (S2 : Sh2 h A) (hN : N ≤ 400) (ht : t < N) (hc : c ≤ 200) (e16 : zI M (A 0) 16 = Int32.ofNat c) (hF : ∀ k, k < c → zI M (A 8) k = Int32.ofNat (F k) ∧ zI M (A 9) k = Int32.ofNat (S k) ∧ F k < N ∧ S k < N) {w : Int32} :
    wp (lp_X9_check_100 h (Int32.ofNat t) w (A 0) M fuel (-1) 0) (fun z => z.1 = dueF F S t c) := by
  have s := S2.s
  refine loopW (fun n k (s : Int32) => lp_X9_check_100 h (Int32.ofNat t) w (A 0) M n s (Int32.ofNat k)) c (fun k s => s = dueF F S t k) _ ?_ ?_ fuel 0 (-1) (by omega) (by unfold fuel; omega) rfl
  · rintro n k v hk rfl ih
    obtain ⟨e1, e2, l1, l2⟩ := hF k hk
    have f1 : k < 200 := by omega
    have j1 : (Int32.ofNat (F k) = Int32.ofNat t) = (F k = t) := i_inj (by omega) (by omega)
    have j2 : (Int32.ofNat (S k) = Int32.ofNat t) = (S k = t) := i_inj (by omega) (by omega)
    simp only [lp_X9_check_100]
    rw [e16, if_neg (by rw [i_le (by omega) (by omega)]; omega)]
    simp (disch := omega) only [gd, ok, dq, s, and_self, if_true, i_inb, f1, i_nat, e1, e2, j1, j2]
    by_cases g1 : F k = t
    · rw [if_neg (not_not_intro g1), b_some, wp_lt, i_addL]
      refine ih _ ?_
      simp only [dueF, if_pos g1]
    · rw [if_pos g1]
      by_cases g2 : S k = t
      · rw [if_neg (not_not_intro g2), b_some, wp_lt, i_addL]
        refine ih _ ?_
        simp only [dueF, if_neg g1, if_pos g2]
      · rw [if_pos g2, b_some, wp_lt, i_addL]
        refine ih _ ?_
        simp only [dueF, if_neg g1, if_neg g2]
  · rintro n v rfl
    simp only [lp_X9_check_100]
    rw [e16, if_pos (Int32.le_refl _), wp_some]
theorem r_told (S2 : Sh2 h A) (hu : u ≤ 400) (hu2 : u % 2 = 0) (ht : t < 400) (hb : ∀ i, i < u → zI M (A 4) i &&& 255 = Int32.ofNat (b i)) (hb2 : ∀ i, b i < 256) {sh : Int32} :
    wp (lp_X9_check_170 h sh (Int32.ofNat t) (Int32.ofNat u) (A 0) M fuel 0 1 0) (fun z => z.1 = Int32.ofNat (tmF b t u) ∧ z.2.1 = if rtF b t sh u = true then 1 else 0) := by
  have s := S2.s
  refine loopW (fun n k (s : Int32 × Int32) => lp_X9_check_170 h sh (Int32.ofNat t) (Int32.ofNat u) (A 0) M n s.1 s.2 (Int32.ofNat k)) u (fun k s => s.1 = Int32.ofNat (tmF b t k) ∧ s.2 = if rtF b t sh k = true then 1 else 0) _ ?_ ?_ fuel 0 (0, 1) (by omega) (by unfold fuel; omega) ⟨rfl, rfl⟩
  · rintro n k ⟨v, w⟩ hk ⟨hv, hw⟩ ih
    have hv : v = _ := hv
    have hw : w = _ := hw
    have f1 : k < 400 := by omega
    have hbk := hb2 k
    have j1 : (Int32.ofNat (b k) = Int32.ofNat t) = (b k = t) := i_inj (by omega) (by omega)
    simp only [lp_X9_check_170]
    rw [if_neg (by rw [i_le (by omega) (by omega)]; omega), i_par (by omega)]
    simp (disch := omega) only [gd, ok, dq, s, and_self, if_true, i_inb, f1, i_nat, hb k hk, j1]
    by_cases g1 : b k = t
    · rw [if_pos g1]
      have hidx : ∃ y, y < u ∧ y = (if k % 2 = 0 then k + 1 else k - 1) ∧ (if ¬ Int32.ofNat (k % 2) = 0 then some (Int32.ofNat k - 1) else some (Int32.ofNat k + 1)) = some (Int32.ofNat y) := by
        have z0 : (Int32.ofNat (k % 2) = 0) = (k % 2 = 0) := by rw [show (0 : Int32) = Int32.ofNat 0 from rfl, i_inj (by omega) (by omega)]
        simp only [z0]
        by_cases z : k % 2 = 0
        · exact ⟨k + 1, by omega, by rw [if_pos z], by rw [if_neg (not_not_intro z)]; exact congrArg some i_addL⟩
        · exact ⟨k - 1, by omega, by rw [if_neg z], by rw [if_pos z, i_subL (by show 1 ≤ k; omega)]⟩
      obtain ⟨y, hy, ey, e37⟩ := hidx
      have f2 : y < 400 := by omega
      rw [e37]
      simp (disch := omega) only [b_some, i_inb, f2, if_true, i_nat, hb y hy, lt_]
      rw [hv, hw]
      have er : rtF b t sh (k + 1) = (rtF b t sh k && decide (Int32.ofNat (b y) = sh)) := by simp only [rtF, if_pos g1, ey]
      have et : tmF b t (k + 1) = tmF b t k + 1 := by simp only [tmF, if_pos g1]
      have key : (if (if rtF b t sh k = true then (1 : Int32) else 0) = 0 then some (0 : Int32) else if ¬ Int32.ofNat (b y) = sh then some 0 else some 1) = some (if rtF b t sh (k + 1) = true then 1 else 0) := by
        rw [er]
        by_cases z1 : rtF b t sh k = true
        · rw [if_pos z1, if_neg (by decide), z1]
          by_cases z2 : Int32.ofNat (b y) = sh <;> simp [z2]
        · rw [if_neg z1, if_pos rfl]
          simp [z1]
      rw [key, b_some, b_some, i_addL, i_addL]
      exact ih (_, _) ⟨by rw [et], rfl⟩
    · rw [if_neg g1, b_some, wp_lt, i_addL]
      exact ih (v, w) ⟨by rw [hv]; simp only [tmF, if_neg g1], by rw [hw]; simp only [rtF, if_neg g1]⟩
  · rintro n ⟨v, w⟩ ⟨hv, hw⟩
    simp only [lp_X9_check_170]
    rw [if_pos (Int32.le_refl _), wp_some]
    exact ⟨hv, hw⟩
theorem r_least (S2 : Sh2 h A) (hN : N ≤ 400) (hu : u ≤ 400) (hu2 : u % 2 = 0) (hc : c ≤ 200) (e12 : zI M (A 0) 12 = Int32.ofNat N) (e16 : zI M (A 0) 16 = Int32.ofNat c) (hF : ∀ k, k < c → zI M (A 8) k = Int32.ofNat (F k) ∧ zI M (A 9) k = Int32.ofNat (S k) ∧ F k < N ∧ S k < N)
    (hb : ∀ i, i < u → zI M (A 4) i &&& 255 = Int32.ofNat (b i)) (hb2 : ∀ i, b i < 256) :
    lp_X9_check_86 h (Int32.ofNat u) (A 0) M fuel 0 = some (match fsb (fun t => dueF F S t c = tolF b t (u / 2)) N 0 with | none => .inr (Int32.ofNat N) | some t => .inl (Int32.ofNat (1 + t), M)) := by
  have K : ∀ (r k n : Nat), r + k = N → r < n → lp_X9_check_86 h (Int32.ofNat u) (A 0) M n (Int32.ofNat k) = some (match fsb (fun t => dueF F S t c = tolF b t (u / 2)) r k with | none => .inr (Int32.ofNat N) | some t => .inl (Int32.ofNat (1 + t), M)) := by
    intro r
    induction r with
    | zero =>
      intro k n hk hn
      obtain ⟨n, rfl⟩ : ∃ q, n = q + 1 := ⟨n - 1, by omega⟩
      have : k = N := by omega
      subst this
      simp only [lp_X9_check_86, e12, Int32.le_refl, if_true, fsb]
    | succ r ih =>
      intro k n hk hn
      obtain ⟨n, rfl⟩ : ∃ q, n = q + 1 := ⟨n - 1, by omega⟩
      obtain ⟨z1, k1, k2⟩ := r_due (t := k) (w := Int32.ofNat u) S2 hN (by omega) hc e16 hF
      have dc := due_cases F S k c fun j hj => ⟨by have := (hF j hj).2.2.1; omega, by have := (hF j hj).2.2.2; omega⟩
      obtain ⟨z2, k3, k4, k5⟩ := r_told (t := k) (sh := dueF F S k c) S2 hu hu2 (by omega) hb hb2
      have W := wrong_iff (b := b) (t := k) (j := u / 2) (sh := dueF F S k c) (fun i => by have := hb2 i; omega) dc
      rw [show 2 * (u / 2) = u by omega] at W
      have htm := tmF_le b k u
      simp only [lp_X9_check_86]
      rw [e12, if_neg (by rw [i_le (by omega) (by omega)]; omega), k1, b_some, k2, k3, b_some, k4, k5]
      have d1 : ¬ (1 : Int32) = 0 := by decide
      have ey : (if 0 ≤ dueF F S k c then some (1 : Int32) else some 0) = some (Int32.ofNat (if 0 ≤ dueF F S k c then 1 else 0)) := by split <;> rfl
      have le1 : (if 0 ≤ dueF F S k c then 1 else 0) ≤ 1 := by split <;> omega
      have j1 : (Int32.ofNat (tmF b k u) = Int32.ofNat (if 0 ≤ dueF F S k c then 1 else 0)) = (tmF b k u = if 0 ≤ dueF F S k c then 1 else 0) := i_inj (by omega) (by omega)
      have e1k : (1 : Int32) + Int32.ofNat k = Int32.ofNat (1 + k) := i_Ladd
      by_cases g : dueF F S k c = tolF b k (u / 2)
      · obtain ⟨w1, w2⟩ := W.mp g
        rw [if_pos w1, if_neg d1, ey, b_some, if_pos (by rw [j1]; exact w2)]
        simp only [fsb, if_pos g, lt_, i_addL]
        exact ih (k + 1) n (by omega) (by omega)
      · have nW : ¬ (rtF b k (dueF F S k c) u = true ∧ tmF b k u = if 0 ≤ dueF F S k c then 1 else 0) := fun z => g (W.mpr z)
        simp only [fsb, if_neg g]
        by_cases w1 : rtF b k (dueF F S k c) u = true
        · rw [if_pos w1, if_neg d1, ey, b_some, if_neg (by rw [j1]; exact fun z => nW ⟨w1, z⟩), e1k]
        · rw [if_neg w1, if_pos rfl, e1k]
  exact K N 0 fuel (by omega) (by unfold fuel; omega)
end C
section D
variable {h1 h2 : Hs} {B A : Nat → Nat} {M1 M2 : Mm} {pic : Prop} {p : Int32}
theorem t_check (V : Inv h1 M1 h2 M2 B A pic) : Sim (f_X8_check h1 (B 0) p M1) (f_X9_check h2 (A 0) p M2) h1 h2 B A pic := by
  have S1 := V.1
  have S2 := V.2.1
  have s := S2.s
  have q := S2.e
  have hB := S1.1
  obtain ⟨x0, xt, x1, x2, x3, x4, -⟩ := S1.2.1
  obtain ⟨o1, r1, o2, n2⟩ := S1.2.1.2.2.2.2.2.2.2.2.1
  have o12 := S1.2.1.2.2.2.2.2.2.2.2.2.2.1.1
  have sb := S1.2.2.2.1
  have sr := S1.2.2.1
  have W := V.2.2.1
  obtain ⟨u, hu, eu1, eu2, hf⟩ := V.2.2.2.2.2.1
  have M3I : ∀ j, zI (sI (sI M2 (A 0) 0 0) (A 0) 7 0) (A 1) j = zI M2 (A 1) j := fun j => by simp [zI_sI, q]
  have eI : zI (sI (sI M2 (A 0) 0 0) (A 0) 7 0) (A 1) = zI M2 (A 1) := funext M3I
  have F0 : FB A (fun i j => i = 0 ∧ (j = 0 ∨ j = 7)) M2 (sI (sI M2 (A 0) 0 0) (A 0) 7 0) := (FB.rf.sI S2.2 ⟨rfl, Or.inl rfl⟩).sI S2.2 ⟨rfl, Or.inr rfl⟩
  have eu2' : zI (sI M2 (A 0) 0 0) (A 0) 7 = Int32.ofNat u := by simpa [zI_sI] using eu2
  -- the end: the tapes are empty
  have fin : ∀ (v : Int32) (M1' M2' : Mm), FB B (fun i _ => 3 ≤ i ∧ i ≤ 15) M1 M1' → FB A (fun i j => (i = 0 ∧ 11 ≤ j) ∨ 5 ≤ i) (sI (sI M2 (A 0) 0 0) (A 0) 7 0) M2' → ((v, sI M1' (B 1) 1 0) : Int32 × Mm).1 = ((v, M2') : Int32 × Mm).1 ∧ Inv h1 ((v, sI M1' (B 1) 1 0) : Int32 × Mm).2 h2 ((v, M2') : Int32 × Mm).2 B A pic := by
    intro v M1' M2' F1 F2
    refine ⟨rfl, V.scr ((F1.up fun i j z => by omega).tr (FB.rf.sI (a := 1) hB (by omega))) ((F0.up fun i j z => by omega).tr (F2.up fun i j z => by omega)) ⟨0, by omega, by simp [zI_sI], ?_, by omega⟩⟩
    show zI M2' (A 0) 7 = _
    rw [F2.i (by omega)]; simp [zI_sI]
  unfold f_X8_check f_X9_check f_X8_checkTape
  rw [gd, if_pos x0, gd, if_pos x0, x1, dq, gd, if_pos sb.1, gd, if_pos s.1, lt_, lt_, lt_, eu2']
  by_cases hp : 0 ≤ p ∧ p < 12
  · obtain ⟨n, hn, rfl⟩ := good12 hp
    rw [x_gaugeAt sb V.2.2.2.1 hn, b_some, r_isGauge S2 hn, b_some, eI]
    by_cases g : isG (zI M2 (A 1)) n
    · rw [if_pos g, if_pos g, mq, x2, dq, gd, if_pos sr.1, if_pos (show ¬ (1 : Int32) = 0 by decide)]
      unfold Sim
      rw [wp_bind, wp_bind]
      refine (both1 (from_ := 0) V hn g (by omega)).mono ?_
      rintro M1' ⟨F1, l6, l7, l8, l9, lT, l10, l11, lP, lA, lB, lC⟩
      obtain ⟨t4, -, p4, c4⟩ := trn400 (from_ := 0) W hn
      have hC : ∀ y ∈ (pilL (trnL (zI M2 (A 1)) n 0)).2, y.1 < (trnL (zI M2 (A 1)) n 0).length ∧ y.2.1 < (trnL (zI M2 (A 1)) n 0).length ∧ y.2.2 < (trnL (zI M2 (A 1)) n 0).length := fun y hy => pilN_cyc hy
      have eu1' : zI M1' (B 1) 1 = Int32.ofNat u := (F1.i (by omega)).trans eu1
      have eb : zI M1' (B 2) = zI M1 (B 2) := funext fun j => F1.i (by omega)
      have L := r_look (M := sI (sI M2 (A 0) 0 0) (A 0) 7 0) (from_ := 0) S2 (by rw [eI]; exact W) hn (by omega)
      rw [eI] at L
      have L2 : wp (f_X9_look h2 (A 0) (Int32.ofNat n) 0 (sI (sI M2 (A 0) 0 0) (A 0) 7 0)) (fun M2' => FB A (fun i j => (i = 0 ∧ 11 ≤ j) ∨ 5 ≤ i) (sI (sI M2 (A 0) 0 0) (A 0) 7 0) M2' ∧ LKr M2' A (rowL (zI M2 (A 1)) n 0) (trnL (zI M2 (A 1)) n 0) (pilL (trnL (zI M2 (A 1)) n 0)).1 (pilL (trnL (zI M2 (A 1)) n 0)).2) := by
        refine L.mono ?_
        rintro M2' ⟨F, l⟩
        refine ⟨F.fb fun i j z => ?_, l⟩
        rcases z with ⟨e, z⟩ | ⟨k, h1, h2, e⟩
        · have := S2.2 _ _ e; omega
        · have := S2.2 _ _ e; omega
      have hFc : ∀ k, k < (pilL (trnL (zI M2 (A 1)) n 0)).2.length → (pilL (trnL (zI M2 (A 1)) n 0)).2.reverse.getD k (0, 0, 0) ∈ (pilL (trnL (zI M2 (A 1)) n 0)).2 := fun k hk => by
        rw [List.getD_eq_getElem?_getD, List.getElem?_eq_getElem (by simpa using hk)]
        exact List.mem_reverse.mp (List.getElem_mem _)
      generalize hTT : trnL (zI M2 (A 1)) n 0 = T at *
      generalize (pilL T).2 = C at *
      rw [l9]
      by_cases g1 : 256 < T.length
      · rw [if_pos (by rw [i_Llt (by omega) (by simp)]; exact g1), wp_some, xt, wp_dq, wp_gd]
        refine ⟨o1, ?_⟩
        rw [wp_lt, wp_some, wp_bind]
        refine L2.mono ?_
        rintro M2' ⟨F2, m11, m12, mT, ⟨m16, mA, mB, mC⟩, m19, mR⟩
        have : wp (some ((-2 : Int32), M2')) fun z' => (((-2 : Int32), sI M1' (B 1) 1 0) : Int32 × Mm).1 = z'.1 ∧ Inv h1 (((-2 : Int32), sI M1' (B 1) 1 0) : Int32 × Mm).2 h2 z'.2 B A pic := wp_some.mpr (fin _ _ _ F1 F2)
        by_cases z : Int32.ofNat u - Int32.ofNat u / 2 * 2 = 1
        · rw [if_pos z]; exact this
        · rw [if_neg z, m12, if_neg (by rw [i_leL (by omega) (by simp)]; simpa using g1)]; exact this
      · rw [if_neg (by rw [i_Llt (by omega) (by simp)]; exact g1), xt, dq, gd, if_pos o1, eu1', i_par (by omega)]
        have z0 : (Int32.ofNat (u % 2) = 0) = (u % 2 = 0) := by rw [show (0 : Int32) = Int32.ofNat 0 from rfl, i_inj (by omega) (by omega)]
        have z1 : (Int32.ofNat (u % 2) = 1) = (u % 2 = 1) := by rw [show (1 : Int32) = Int32.ofNat 1 from rfl, i_inj (by omega) (by omega)]
        by_cases g2 : u % 2 = 0
        · have g2' : ¬ u % 2 = 1 := by omega
          rw [if_pos (by rw [z0]; exact g2), x_scan S1 hu eu1' (by omega) l9, b_some, eb]
          have bb : ∀ i, i < u → zI M2 (A 4) i &&& 255 = Int32.ofNat (byN (zI M1 (B 2)) i) := fun i hi => by rw [← hf i hi]; exact (byN_lt i).2
          have bb2 : ∀ i, byN (zI M1 (B 2)) i < 256 := fun i => (byN_lt i).1
          cases hs : fsb (fun i => byN (zI M1 (B 2)) i < T.length) u 0 with
          | some i0 =>
            simp only [sm]
            rw [wp_some, wp_dq, wp_gd]
            refine ⟨o1, ?_⟩
            rw [wp_lt, wp_some, wp_bind]
            refine L2.mono ?_
            rintro M2' ⟨F2, m11, m12, mT, ⟨m16, mA, mB, mC⟩, m19, mR⟩
            have e4 : ∀ i, i < u → zI M2' (A 4) i &&& 255 = Int32.ofNat (byN (zI M1 (B 2)) i) := fun i hi => by
              rw [F2.i (by omega), F0.i (by omega)]; exact bb i hi
            rw [if_neg (by rw [z1]; exact g2'), m12, if_pos (by rw [i_leL (by omega) (by simp)]; show T.length ≤ 256; omega), r_scan S2 hu (by omega) m12 e4 bb2, b_some, hs]
            simp only [sm]
            exact wp_some.mpr (fin _ _ _ F1 F2)
          | none =>
            have hall : ∀ k, k < u → byN (zI M1 (B 2)) k < T.length := fun k hk => fsb_none hs k (by omega) (by omega)
            have hall' : ∀ k, k < u → byN (zI M1' (B 2)) k < T.length := by rw [eb]; exact hall
            simp only [sm]
            rw [x4, wp_dq, wp_gd]
            refine ⟨o12, ?_⟩
            rw [wp_bind]
            refine (x_begin hB S1.2.1).mono ?_
            rintro Ma ⟨Fa, ha1, ha2⟩
            have hFk : ∀ k, k < C.length → zI Ma (B 7) k = Int32.ofNat (C.reverse.getD k (0, 0, 0)).1 ∧ zI Ma (B 8) k = Int32.ofNat (C.reverse.getD k (0, 0, 0)).2.1 ∧ (C.reverse.getD k (0, 0, 0)).1 < T.length ∧ (C.reverse.getD k (0, 0, 0)).2.1 < T.length := fun k hk => by
              have e7 : zI Ma (B 7) k = zI M1' (B 7) k := Fa.i (by omega)
              have e8 : zI Ma (B 8) k = zI M1' (B 8) k := Fa.i (by omega)
              have m := hC _ (hFc k hk)
              refine ⟨?_, ?_, m.1, m.2.1⟩
              · rw [e7, lA.get (by simpa using hk)]; exact nth_map hk
              · rw [e8, lB.get (by simpa using hk)]; exact nth_map hk
            have ea11 : zI Ma (B 3) 11 = Int32.ofNat C.length := (Fa.i (by omega)).trans l11
            rw [wp_bind]
            refine (x_pairs (N := T.length) S1 (by omega) c4 ea11 hFk ha1).mono ?_
            rintro ⟨v1, Mb⟩ ⟨Fb, hb1⟩
            have Fb : FB B (fun i _ => i = 13) Ma Mb := Fb
            have hb1 : ∀ t, t < T.length → zI Mb (B 13) t = _ := hb1
            have eub : zI Mb (B 1) 1 = Int32.ofNat u := ((Fb.i (by omega)).trans (Fa.i (by omega))).trans eu1'
            have ebb : zI Mb (B 2) = zI M1 (B 2) := funext fun j => ((Fb.i (by omega)).trans (Fa.i (by omega))).trans (congrFun eb j)
            rw [wp_bind]
            refine (x_tells (N := T.length) S1 (by omega) hu g2 eub (by rw [ebb]; exact hall) (fun i hi => (Fb.i (by omega)).trans (ha2 i hi))).mono ?_
            rintro ⟨v2, Mc⟩ ⟨Fc, hc1⟩
            have Fc : FB B (fun i _ => i = 14) Mb Mc := Fc
            have hc1 : ∀ t, t < T.length → zI Mc (B 14) t = _ := hc1
            rw [ebb] at hc1
            have e9c : zI Mc (B 3) 9 = Int32.ofNat T.length := (((Fc.i (by omega)).trans (Fb.i (by omega))).trans (Fa.i (by omega))).trans l9
            have F1c : FB B (fun i _ => 3 ≤ i ∧ i ≤ 15) M1 Mc := ((F1.tr (Fa.up fun i j z => by omega)).tr (Fb.up fun i j z => by omega)).tr (Fc.up fun i j z => by omega)
            rw [wp_bind, e9c, x_least S1.2.1 (by omega) (D := fun t => dueF (fun k => (C.reverse.getD k (0, 0, 0)).1) (fun k => (C.reverse.getD k (0, 0, 0)).2.1) t C.length) (fun t ht => (Fc.i (by omega)).trans (hb1 t ht)) hc1, wp_some, wp_some, wp_dq, wp_gd]
            refine ⟨o1, ?_⟩
            rw [wp_lt, wp_some, wp_bind]
            refine L2.mono ?_
            rintro M2' ⟨F2, m11, m12, mT, ⟨m16, mA, mB, mC⟩, m19, mR⟩
            have e4 : ∀ i, i < u → zI M2' (A 4) i &&& 255 = Int32.ofNat (byN (zI M1 (B 2)) i) := fun i hi => by
              rw [F2.i (by omega), F0.i (by omega)]; exact bb i hi
            have hFk2 : ∀ k, k < C.length → zI M2' (A 8) k = Int32.ofNat (C.reverse.getD k (0, 0, 0)).1 ∧ zI M2' (A 9) k = Int32.ofNat (C.reverse.getD k (0, 0, 0)).2.1 ∧ (C.reverse.getD k (0, 0, 0)).1 < T.length ∧ (C.reverse.getD k (0, 0, 0)).2.1 < T.length := fun k hk => by
              have m := hC _ (hFc k hk)
              refine ⟨?_, ?_, m.1, m.2.1⟩
              · rw [mA.get (by simpa using hk)]; exact nth_map hk
              · rw [mB.get (by simpa using hk)]; exact nth_map hk
            rw [if_neg (by rw [z1]; exact g2'), m12, if_pos (by rw [i_leL (by omega) (by simp)]; show T.length ≤ 256; omega), r_scan S2 hu (by omega) m12 e4 bb2, b_some, hs]
            simp only [sm]
            rw [r_least S2 (by omega) hu g2 c4 m12 m16 hFk2 e4 bb2, b_some]
            cases hl : fsb (fun t => dueF (fun k => (C.reverse.getD k (0, 0, 0)).1) (fun k => (C.reverse.getD k (0, 0, 0)).2.1) t C.length = tolF (byN (zI M1 (B 2))) t (u / 2)) T.length 0 with
            | none =>
              simp only []
              exact wp_some.mpr (fin _ _ _ F1c F2)
            | some t =>
              simp only []
              rw [show (1 : Int32) + Int32.ofNat t = Int32.ofNat (1 + t) from i_Ladd]
              exact wp_some.mpr (fin _ _ _ F1c F2)
        · have g2' : u % 2 = 1 := by omega
          rw [if_neg (by rw [z0]; exact g2), wp_some, wp_dq, wp_gd]
          refine ⟨o1, ?_⟩
          rw [wp_lt, wp_some, wp_bind]
          refine L2.mono ?_
          rintro M2' ⟨F2, m11, m12, mT, ⟨m16, mA, mB, mC⟩, m19, mR⟩
          rw [if_pos (by rw [z1]; exact g2')]
          exact wp_some.mpr (fin _ _ _ F1 F2)
    · rw [if_neg g, if_neg g, mq, b_some, xt, dq, gd, if_pos o1, if_neg (not_not_intro rfl)]
      exact wp_some.mpr (wp_some.mpr (fin _ _ _ FB.rf FB.rf))
  · rw [x_gaugeB sb hp, b_some, r_isGaugeB S2 hp, b_some, mq, b_some, xt, dq, gd, if_pos o1, if_neg (not_not_intro rfl)]
    exact wp_some.mpr (wp_some.mpr (fin _ _ _ FB.rf FB.rf))
end D
