theorem tOn_run {f : Nat → Int32} {k e : Nat} {out : List Int32} (h0 : tOn f (k + 1) = f k :: out) (run : ∀ j, k ≤ j → j < e → f j = f k) : ∀ d, k + 1 + d ≤ e → tOn f (k + 1 + d) = f k :: out := by
  intro d
  induction d with
  | zero => intro _; exact h0
  | succ d ih =>
    intro hd
    show tStep (tOn f (k + 1 + d)) (f (k + 1 + d)) = _
    rw [ih (by omega), run (k + 1 + d) (by omega) (by omega), tStep_same]
abbrev pushT (f : Nat → Int32) (c k e : Nat) (out : List Int32) : Prop := out = [] ∨ e = c ∨ (f (k - 1) < f k ∧ f e < f k) ∨ (f k < f (k - 1) ∧ f k < f e)
theorem turn_step {f : Nat → Int32} {c k e : Nat} {out : List Int32} (hk : k < e) (he : e ≤ c) (run : ∀ j, k ≤ j → j < e → f j = f k) (ne : e < c → f e ≠ f k) (h0 : tOn f (k + 1) = f k :: out)
    (h1 : out = [] ∨ ∃ x r, out = x :: r ∧ (x < f k ↔ f (k - 1) < f k) ∧ x ≠ f k ∧ f (k - 1) ≠ f k) :
    (e = c → (if pushT f c k e out then f k :: out else out) = tOn f c) ∧ (e < c → tOn f (e + 1) = f e :: (if pushT f c k e out then f k :: out else out) ∧ ∃ x r, (if pushT f c k e out then f k :: out else out) = x :: r ∧ (x < f e ↔ f k < f e) ∧ x ≠ f e) := by
  have hE : tOn f e = f k :: out := by
    have := tOn_run h0 run (e - (k + 1)) (by omega)
    rwa [show k + 1 + (e - (k + 1)) = e by omega] at this
  refine ⟨fun h => ?_, fun h => ?_⟩
  · rw [if_pos (Or.inr (Or.inl h)), ← h, hE]
  · have hne := ne h
    have hS : tOn f (e + 1) = tStep (f k :: out) (f e) := by rw [← hE]; rfl
    rw [hS]
    rcases h1 with rfl | ⟨x, r, rfl, i1, i2, i3⟩
    · rw [if_pos (Or.inl rfl)]
      have : ¬ f k = f e := fun z => hne z.symm
      exact ⟨by simp only [tStep, if_neg this], f k, [], rfl, Iff.rfl, this⟩
    · have n1 : ¬ f k = f e := fun z => hne z.symm
      have n2 : ¬ e = c := by omega
      simp only [tStep]
      by_cases p : x < f k
      · have q := i1.mp p
        simp only [p, if_true]
        by_cases p2 : f k < f e
        · have a1 : ¬ x = f e := fun z => by grind
          have a2 : ¬ pushT f c k e (x :: r) := by unfold pushT; grind
          rw [if_pos p2, if_neg a1, if_neg a2]
          exact ⟨rfl, x, r, rfl, ⟨fun _ => p2, fun _ => Int32.lt_trans p p2⟩, a1⟩
        · have a2 : pushT f c k e (x :: r) := by unfold pushT; grind
          rw [if_neg p2, if_neg n1, if_pos a2]
          exact ⟨rfl, f k, x :: r, rfl, Iff.rfl, n1⟩
      · have q : ¬ f (k - 1) < f k := fun z => p (i1.mpr z)
        simp only [p, if_false]
        by_cases p2 : f e < f k
        · have a1 : ¬ x = f e := fun z => by grind
          have a2 : ¬ pushT f c k e (x :: r) := by unfold pushT; grind
          rw [if_pos p2, if_neg a1, if_neg a2]
          exact ⟨rfl, x, r, rfl, ⟨fun z => by grind, fun z => by grind⟩, a1⟩
        · have a2 : pushT f c k e (x :: r) := by unfold pushT; grind
          rw [if_neg p2, if_neg n1, if_pos a2]
          exact ⟨rfl, f k, x :: r, rfl, Iff.rfl, n1⟩
section T
variable {h : Hs} {p q c : Nat} {M : Mm} {f : Nat → Int32}
theorem r_next (k1 : ok h p 11) (n1 : zN h p = 400) (hc : c ≤ 400) (hf : ∀ i, i < c → zI M p i = f i) {v : Int32} {k : Nat} (hk : k < c) : ∀ (n j : Nat), k ≤ j → j ≤ c → c - j < n → 
    wp (lp_X9_turnsOf_37 h v (Int32.ofNat k) (Int32.ofNat c) p q M n (Int32.ofNat j)) (fun z => ∃ e, z = Int32.ofNat e ∧ j ≤ e ∧ e ≤ c ∧ (∀ i, j ≤ i → i < e → f i = f k) ∧ (e < c → f e ≠ f k)) ∧
    wp (lp_X9_turnsOf_37b h v (Int32.ofNat k) (Int32.ofNat c) p q M n (Int32.ofNat j)) (fun z => ∃ e, z = Int32.ofNat e ∧ j ≤ e ∧ e ≤ c ∧ (∀ i, j ≤ i → i < e → f i = f k) ∧ (e < c → f e ≠ f k)) := by
  intro n
  induction n with
  | zero => intro j _ _ h; omega
  | succ n ih =>
    intro j h1 h2 h3
    simp only [lp_X9_turnsOf_37, lp_X9_turnsOf_37b, gd, ok, k1, n1, and_self, if_true, lt_]
    by_cases e : j = c
    · subst e
      simp only [Int32.le_refl, if_true, wp_some]
      exact ⟨⟨j, rfl, Nat.le_refl _, Nat.le_refl _, fun i _ _ => by omega, fun _ => by omega⟩, ⟨j, rfl, Nat.le_refl _, Nat.le_refl _, fun i _ _ => by omega, fun _ => by omega⟩⟩
    · have f1 : ¬ c ≤ j := by omega
      have f2 : j < 400 := by omega
      have f3 : k < 400 := by omega
      simp (disch := omega) only [i_le, f1, if_false, i_inb, f2, f3, if_true, i_nat, hf j (by omega), hf k hk, i_addL]
      by_cases g : f j = f k
      · simp only [g, not_true_eq_false, if_false]
        obtain ⟨r1, r2⟩ := ih (j + 1) (by omega) (by omega) (by omega)
        have K : ∀ z : Int32, (∃ e, z = Int32.ofNat e ∧ j + 1 ≤ e ∧ e ≤ c ∧ (∀ i, j + 1 ≤ i → i < e → f i = f k) ∧ (e < c → f e ≠ f k)) → (∃ e, z = Int32.ofNat e ∧ j ≤ e ∧ e ≤ c ∧ (∀ i, j ≤ i → i < e → f i = f k) ∧ (e < c → f e ≠ f k)) := by
          rintro z ⟨e, rfl, g1, g2, g3, g4⟩
          refine ⟨e, rfl, by omega, g2, fun i i1 i2 => ?_, g4⟩
          by_cases i3 : i = j
          · rw [i3]; exact g
          · exact g3 i (by omega) i2
        exact ⟨r1.mono K, r2.mono K⟩
      · simp only [g, not_false_eq_true, if_true, wp_some]
        have K : ∃ e, Int32.ofNat j = Int32.ofNat e ∧ j ≤ e ∧ e ≤ c ∧ (∀ i, j ≤ i → i < e → f i = f k) ∧ (e < c → f e ≠ f k) := ⟨j, rfl, Nat.le_refl _, h2, fun i _ _ => by omega, fun _ => g⟩
        exact ⟨K, K⟩
def tInv (M0 : Mm) (q c : Nat) (f : Nat → Int32) (k : Nat) (s : Int32 × Mm) : Prop :=
  Fm (fun b _ => b = q) M0 s.2 ∧ ∃ out, s.1 = Int32.ofNat out.length ∧ out.length ≤ k ∧ stk s.2 q out ∧ ((k = 0 ∧ out = []) ∨ (1 ≤ k ∧ ∃ e, k ≤ e ∧ e ≤ c ∧ (∀ j, k - 1 ≤ j → j < e → f j = f (k - 1)) ∧ (e < c → f e ≠ f (k - 1)) ∧ (e = c → out = tOn f c) ∧ (e < c → tOn f (e + 1) = f e :: out ∧ ∃ x r, out = x :: r ∧ (x < f e ↔ f (k - 1) < f e) ∧ x ≠ f e)))
theorem r_turnsOf (k1 : ok h p 11) (k3 : ok h q 11) (n1 : zN h p = 400) (n3 : zN h q = 400) (npq : p ≠ q) (hc : c ≤ 400) (hf : ∀ i, i < c → zI M p i = f i) {a0 : Nat} :
    wp (f_X9_turnsOf h a0 p (Int32.ofNat c) q M) (fun z => z.1 = Int32.ofNat (tOn f c).length ∧ Fm (fun b _ => b = q) M z.2 ∧ stk z.2 q (tOn f c)) := by
  unfold f_X9_turnsOf
  rw [wp_bind]
  refine loopW (fun n k (s : Int32 × Mm) => lp_X9_turnsOf_6 h (Int32.ofNat c) p q n s.1 (Int32.ofNat k) s.2) c (tInv M q c f) _ ?_ ?_ fuel 0 (0, M) (by omega) (by unfold fuel; omega) ⟨Fm.rf, [], rfl, Nat.le_refl _, trivial, Or.inl ⟨rfl, rfl⟩⟩
  · rintro n k ⟨v, M1⟩ hk ⟨F, out, hv, hlen, hS, hcase⟩ ih
    have hv : v = Int32.ofNat out.length := hv
    have F : Fm (fun b _ => b = q) M M1 := F
    have hS : stk M1 q out := hS
    subst hv
    have hf1 : ∀ i, i < c → zI M1 p i = f i := fun i hi => by rw [F.i npq]; exact hf i hi
    have f1 : ¬ c ≤ k := by omega
    have f3 : k < 400 := by omega
    have f4 : out.length < 400 := by omega
    -- what comes when k begins a run that ends at e
    have push : ∀ (e : Nat), k < e → e ≤ c → (∀ j, k ≤ j → j < e → f j = f k) → (e < c → f e ≠ f k) → pushT f c k e out → ((e = c → f k :: out = tOn f c) ∧ (e < c → tOn f (e + 1) = f e :: (f k :: out) ∧ ∃ x r, f k :: out = x :: r ∧ (x < f e ↔ f k < f e) ∧ x ≠ f e)) →
        wp (lp_X9_turnsOf_6 h (Int32.ofNat c) p q n (Int32.ofNat (out.length + 1)) (Int32.ofNat (k + 1)) (sI M1 q out.length (f k))) (fun z => wp (some (z.1, z.2.2)) (fun z => z.1 = Int32.ofNat (tOn f c).length ∧ Fm (fun b _ => b = q) M z.2 ∧ stk z.2 q (tOn f c))) := by
      intro e g1 g2 g3 g4 _ g6
      refine ih (Int32.ofNat (out.length + 1), sI M1 q out.length (f k)) ⟨F.sI rfl, f k :: out, rfl, by simp; omega, ⟨by rw [zI_sI]; simp, hS.congr fun i hi => by rw [zI_sI, if_neg (by omega)]⟩, Or.inr ⟨by omega, e, by omega, g2, ?_, ?_, g6.1, ?_⟩⟩
      · rw [Nat.add_sub_cancel]; exact g3
      · rw [Nat.add_sub_cancel]; exact g4
      · rw [Nat.add_sub_cancel]; exact g6.2
    have skip : ∀ (e : Nat), k < e → e ≤ c → (∀ j, k ≤ j → j < e → f j = f k) → (e < c → f e ≠ f k) → ((e = c → out = tOn f c) ∧ (e < c → tOn f (e + 1) = f e :: out ∧ ∃ x r, out = x :: r ∧ (x < f e ↔ f k < f e) ∧ x ≠ f e)) →
        wp (lp_X9_turnsOf_6 h (Int32.ofNat c) p q n (Int32.ofNat out.length) (Int32.ofNat (k + 1)) M1) (fun z => wp (some (z.1, z.2.2)) (fun z => z.1 = Int32.ofNat (tOn f c).length ∧ Fm (fun b _ => b = q) M z.2 ∧ stk z.2 q (tOn f c))) := by
      intro e g1 g2 g3 g4 g6
      refine ih (Int32.ofNat out.length, M1) ⟨F, out, rfl, by omega, hS, Or.inr ⟨by omega, e, by omega, g2, ?_, ?_, g6.1, ?_⟩⟩
      · rw [Nat.add_sub_cancel]; exact g3
      · rw [Nat.add_sub_cancel]; exact g4
      · rw [Nat.add_sub_cancel]; exact g6.2
    simp only [lp_X9_turnsOf_6, gd, ok, k1, k3, n1, n3, and_self, if_true]
    rw [if_neg (by rw [i_le (by omega) (by omega)]; exact f1)]
    rcases hcase with ⟨rfl, rfl⟩ | ⟨hk1, e, he1, he2, he3, he4, he5, he6⟩
    · rw [if_pos (by decide)]
      obtain ⟨r1, -⟩ := r_next (q := q) (v := Int32.ofNat 0) k1 n1 hc hf1 hk fuel 0 (Nat.le_refl _) (by omega) (by unfold fuel; omega)
      rw [wp_bind]
      refine r1.mono ?_
      rintro z ⟨e, rfl, g1, g2, g3, g4⟩
      have g0 : 0 < e := by
        rcases Nat.eq_zero_or_pos e with rfl | z
        · exact absurd rfl (g4 hk)
        · exact z
      have st := turn_step (out := []) g0 g2 (fun j _ hj => g3 j (Nat.zero_le _) hj) g4 rfl (Or.inl rfl)
      rw [if_pos (Or.inl rfl)] at st
      have P := push e g0 g2 (fun j _ hj => g3 j (Nat.zero_le _) hj) g4 (Or.inl rfl) st
      have d1 : (0 : Nat) < 400 := by decide
      simp (disch := omega) only [List.length_nil, if_true, Option.bind_some, gd, ok, k1, k3, n1, n3, and_self, i_inb, d1, lt_, i_nat, hf1 0 hk, i_addL] at P ⊢
      simpa using P
    · have hk0 : ¬ k ≤ 0 := by omega
      have f5 : k - 1 < 400 := by omega
      rw [if_neg (by rw [show (0 : Int32) = Int32.ofNat 0 from rfl, i_le (by omega) (by omega)]; exact hk0)]
      simp (disch := omega) only [if_false, if_true, i_inb, f3, i_nat, i_subL, f5, hf1 k hk, hf1 (k - 1) (by omega)]
      by_cases gs : f k = f (k - 1)
      · simp only [gs, not_true_eq_false, if_false, lt_, i_addL]
        have hke : k < e := by
          rcases Nat.lt_or_ge k e with z | z
          · exact z
          · have : k = e := by omega
            subst this
            exact absurd gs (he4 hk)
        refine skip e hke he2 (fun j a1 a2 => ?_) (fun z => by rw [gs]; exact he4 z) ⟨he5, fun z => ?_⟩
        · rw [gs]; exact he3 j (by omega) a2
        · rw [gs]; exact he6 z
      · have hke : k = e := by
          rcases Nat.lt_or_ge k e with z | z
          · exact absurd (he3 k (by omega) z) gs
          · omega
        subst hke
        obtain ⟨t1, x, r, t2, t3, t4⟩ := he6 hk
        have hne : out ≠ [] := by rw [t2]; exact fun z => nomatch z
        have hl0 : out.length ≠ 0 := fun z => hne (List.length_eq_zero_iff.mp z)
        simp only [gs, not_false_eq_true, if_true]
        obtain ⟨-, r2⟩ := r_next (q := q) (v := Int32.ofNat out.length) k1 n1 hc hf1 hk fuel k (Nat.le_refl _) (by omega) (by unfold fuel; omega)
        rw [wp_bind]
        refine r2.mono ?_
        rintro z ⟨e, rfl, g1, g2, g3, g4⟩
        have g0 : k < e := by
          rcases Nat.lt_or_ge k e with z | z
          · exact z
          · have : k = e := by omega
            subst this
            exact absurd rfl (g4 hk)
        have st := turn_step g0 g2 g3 g4 t1 (Or.inr ⟨x, r, t2, t3, t4, fun z => gs z.symm⟩)
        have l0 : (Int32.ofNat out.length = 0) = False := by
          rw [show (0 : Int32) = Int32.ofNat 0 from rfl, i_inj (by omega) (by omega)]; simp [hl0]
        have l1 : (Int32.ofNat e = Int32.ofNat c) = (e = c) := i_inj (by omega) (by omega)
        simp only [l0, if_false, l1]
        by_cases ec : e = c
        · have pT : pushT f c k e out := Or.inr (Or.inl ec)
          rw [if_pos pT] at st
          have P := push e g0 g2 g3 g4 pT st
          have l2 : ¬ (1 : Int32) = 0 := by decide
          rw [if_neg (not_not_intro ec), wp_bind, wp_some, wp_bind, if_pos l2, wp_some, wp_bind, if_pos l2, wp_some, wp_bind, if_pos l2, if_pos f4]
          rw [wp_lt, wp_lt, wp_some, wp_lt, i_addL, i_addL]
          exact P
        · have f6 : e < 400 := by omega
          have l2 : ¬ (1 : Int32) = 0 := by decide
          simp (disch := omega) only [ec, not_false_eq_true, if_true, Option.bind_some, not_true_eq_false, if_false, f6, i_inb, i_nat, hf1 e (by omega), f4, lt_, i_addL]
          by_cases p1 : f k ≤ f (k - 1)
          · by_cases p2 : f (k - 1) ≤ f k
            · exact absurd (Int32.le_antisymm p1 p2) gs
            · by_cases p3 : f e ≤ f k
              · have pT : ¬ pushT f c k e out := by unfold pushT; grind
                rw [if_neg pT] at st
                have P := skip e g0 g2 g3 g4 st
                simp only [p1, p2, p3, if_true, if_false, Option.bind_some, not_true_eq_false]
                simpa using P
              · have pT : pushT f c k e out := by unfold pushT; grind
                rw [if_pos pT] at st
                have P := push e g0 g2 g3 g4 pT st
                simp only [p1, p2, p3, if_true, if_false, Option.bind_some, not_true_eq_false]
                simpa using P
          · have p2 : f (k - 1) ≤ f k := by grind
            by_cases p3 : f k ≤ f e
            · have pT : ¬ pushT f c k e out := by unfold pushT; grind
              rw [if_neg pT] at st
              have P := skip e g0 g2 g3 g4 st
              simp only [p1, p2, p3, if_true, if_false, Option.bind_some, not_true_eq_false]
              simpa using P
            · have pT : pushT f c k e out := by unfold pushT; grind
              rw [if_pos pT] at st
              have P := push e g0 g2 g3 g4 pT st
              simp only [p1, p2, p3, if_true, if_false, Option.bind_some, not_true_eq_false]
              simpa using P
  · rintro n ⟨v, M1⟩ ⟨F, out, hv, hlen, hS, hcase⟩
    have hv : v = Int32.ofNat out.length := hv
    simp only [lp_X9_turnsOf_6, Int32.le_refl, if_true, wp_some]
    have : out = tOn f c := by
      rcases hcase with ⟨rfl, rfl⟩ | ⟨-, e, he1, he2, -, -, he5, -⟩
      · rfl
      · exact he5 (by omega)
    subst this
    exact ⟨hv, F, hS⟩
end T
