/-! THE INVARIANT that ties the class's cells to the reference's -/
/-- by codes: nothing changes but what K names -/
def FB (B : Nat → Nat) (K : Nat → Nat → Prop) (M M' : Mm) : Prop := ∀ i j, ¬ K i j → zI M' (B i) j = zI M (B i) j ∧ zJ M' (B i) j = zJ M (B i) j
theorem Fm.fb {B : Nat → Nat} {P K : Nat → Nat → Prop} {M M' : Mm} (F : Fm P M M') (h : ∀ i j, P (B i) j → K i j) : FB B K M M' := fun i j n => F (B i) j fun z => n (h i j z)
theorem FB.rf {B : Nat → Nat} {K : Nat → Nat → Prop} {M : Mm} : FB B K M M := fun _ _ _ => ⟨rfl, rfl⟩
theorem FB.tr {B : Nat → Nat} {K : Nat → Nat → Prop} {M M1 M2 : Mm} (h1 : FB B K M M1) (h2 : FB B K M1 M2) : FB B K M M2 := fun b j h => ⟨(h2 b j h).1.trans (h1 b j h).1, (h2 b j h).2.trans (h1 b j h).2⟩
theorem FB.up {B : Nat → Nat} {K K' : Nat → Nat → Prop} {M M1 : Mm} (h1 : FB B K M M1) (h : ∀ b j, K b j → K' b j) : FB B K' M M1 := fun b j k => h1 b j fun z => k (h b j z)
theorem FB.i {B : Nat → Nat} {K : Nat → Nat → Prop} {M M' : Mm} (F : FB B K M M') {i j : Nat} (n : ¬ K i j) : zI M' (B i) j = zI M (B i) j := (F i j n).1
theorem FB.sI {B : Nat → Nat} {K : Nat → Nat → Prop} {M M1 : Mm} (hB : ∀ i j, B i = B j → i = j) {a j : Nat} {v : Int32} (h1 : FB B K M M1) (h : K a j) : FB B K M (sI M1 (B a) j v) := fun b k z => by
  have : ¬ (B b = B a ∧ k = j) := fun ⟨e1, e2⟩ => z (by rw [hB _ _ e1, e2]; exact h)
  rw [zI_sI, if_neg this, zJ_sI2]; exact h1 b k z
def ShX (h : Hs) (B : Nat → Nat) : Prop := ok h (B 0) 8 ∧ zR h (B 0) 0 = some (B 1) ∧ zR h (B 0) 1 = some (aB B 0) ∧ zR h (B 0) 2 = some (B 3) ∧ zR h (B 0) 3 = some (B 10) ∧ zR h (B 0) 4 = some (B 12) ∧ zR h (B 0) 6 = some (aP B 2 0) ∧ zR h (B 0) 7 = some (aD B 2 0) ∧
  (ok h (B 1) 6 ∧ zR h (B 1) 0 = some (B 2) ∧ ok h (B 2) 10 ∧ zN h (B 2) = 400) ∧ (ok h (B 10) 7 ∧ zR h (B 10) 0 = some (B 11) ∧ ok h (B 11) 12 ∧ zN h (B 11) = 7) ∧
  (ok h (B 12) 1 ∧ zR h (B 12) 0 = some (B 13) ∧ zR h (B 12) 1 = some (B 14) ∧ ok h (B 13) 11 ∧ ok h (B 14) 11 ∧ zN h (B 13) = 256 ∧ zN h (B 14) = 256) ∧ (ok h (B 15) 12 ∧ zN h (B 15) = 1)
def Sh1 (h : Hs) (B : Nat → Nat) (pic : Prop) : Prop := (∀ i j, B i = B j → i = j) ∧ ShX h B ∧ RwA h B ∧ BdA h B 0 ∧ PlA h (aP B 2 0) (aC B 2 0) ∧ DtA h B 2 0 ∧ ((¬ pic ∧ zR h (B 0) 5 = none) ∨ (pic ∧ zR h (B 0) 5 = some (aB B 1) ∧ BdA h B 1))
/-- the tapes -/
def TP (M1 : Mm) (B : Nat → Nat) (M2 : Mm) (A : Nat → Nat) : Prop := ∃ u, u ≤ 400 ∧ zI M1 (B 1) 1 = Int32.ofNat u ∧ zI M2 (A 0) 7 = Int32.ofNat u ∧ ∀ i, i < u → zI M1 (B 2) i = zI M2 (A 4) i
/-- what can be undone -/
def UN (M1 : Mm) (B : Nat → Nat) (M2 : Mm) (A : Nat → Nat) : Prop :=
  (zI M1 (B 0) 8 = -1 ∧ zI M1 (B 0) 9 = -1 ∧ zI M2 (A 0) 4 = 0) ∨
  (∃ n, n < 12 ∧ zI M1 (B 0) 8 = Int32.ofNat n ∧ zI M1 (B 0) 9 = -1 ∧ zI M2 (A 0) 4 = 1 ∧ WF (zI M2 (A 2)) ∧ PR M1 (aP B 2 0) (aC B 2 0) (zI M2 (A 2)) n ∧ (∀ m, m < 12 → m ≠ n → PR M1 (aP B 0 m) (aC B 0 m) (zI M2 (A 2)) m) ∧ DRs M1 B 0 (zI M2 (A 2))) ∨
  (∃ n, n < 12 ∧ zI M1 (B 0) 9 = Int32.ofNat n ∧ zI M1 (B 0) 8 = -1 ∧ zI M2 (A 0) 4 = 1 ∧ WF (zI M2 (A 2)) ∧ PRs M1 B 0 (zI M2 (A 2)) ∧ DR M1 B 2 0 (zI M2 (A 2)) n ∧ ∀ m, m < 12 → m ≠ n → DR M1 B 0 m (zI M2 (A 2)) m)
def IM (pic : Prop) (M1 : Mm) (B : Nat → Nat) (M2 : Mm) (A : Nat → Nat) : Prop := (¬ pic ∧ zI M2 (A 0) 5 = 0) ∨ (pic ∧ zI M2 (A 0) 5 = 1 ∧ WF (zI M2 (A 3)) ∧ PRs M1 B 1 (zI M2 (A 3)) ∧ DRs M1 B 1 (zI M2 (A 3)))
def Inv (h1 : Hs) (M1 : Mm) (h2 : Hs) (M2 : Mm) (B A : Nat → Nat) (pic : Prop) : Prop := Sh1 h1 B pic ∧ Sh2 h2 A ∧ WF (zI M2 (A 1)) ∧ PRs M1 B 0 (zI M2 (A 1)) ∧ DRs M1 B 0 (zI M2 (A 1)) ∧ TP M1 B M2 A ∧ UN M1 B M2 A ∧ IM pic M1 B M2 A
theorem mst_le (i : Nat) : mst i ≤ 6 := by unfold mst; split <;> omega
theorem mst_pos (i : Nat) : 4 ≤ mst i := by unfold mst; split <;> omega
theorem oft_le (i : Nat) : oft i + 2 * mst i ≤ 36 := by unfold oft mst; split <;> (try split) <;> omega
/-- a detail's ladder has so many: by its WFd -/
theorem WFd.lad {I : Nat → Int32} {d : Nat} (w : WFd I d) {i : Nat} (hi : i < 3) : ∃ c, c ≤ mst i ∧ I (4848 + 40 * d + oft i) = Int32.ofNat c := by
  obtain ⟨-, -, ⟨c0, h0, e0, -⟩, ⟨c1, h1, e1, -⟩, -, -, -, -, ⟨c2, h2, e2, -⟩⟩ := w
  rcases (show i = 0 ∨ i = 1 ∨ i = 2 by omega) with rfl | rfl | rfl
  · exact ⟨c0, h0, e0⟩
  · exact ⟨c1, h1, e1⟩
  · exact ⟨c2, h2, e2⟩
theorem WFl.cg {I I' : Nat → Int32} {b most : Nat} {T T' : Nat → Int32 → Int32 → Prop} (w : WFl I b most T) (h : ∀ i, b ≤ i → i ≤ b + 2 * most → I' i = I i) (hT : ∀ j t v, j < most → T j t v → T' j t v) : WFl I' b most T' := by
  obtain ⟨c, hc, e, hj⟩ := w
  refine ⟨c, hc, by rw [h b (by omega) (by omega)]; exact e, fun j hjc => ?_⟩
  rw [h _ (by omega) (by omega), h _ (by omega) (by omega)]
  exact hT j _ _ (by omega) (hj j hjc)
theorem WFd.cg {I I' : Nat → Int32} {d : Nat} (w : WFd I d) (h : ∀ j, j < 40 → I' (4848 + 40 * d + j) = I (4848 + 40 * d + j)) : WFd I' d := by
  have h' : ∀ i, 4848 + 40 * d ≤ i → i < 4848 + 40 * d + 40 → I' i = I i := fun i a b => by
    have := h (i - (4848 + 40 * d)) (by omega)
    rwa [show 4848 + 40 * d + (i - (4848 + 40 * d)) = i by omega] at this
  obtain ⟨w1, w2, w3, w4, w5, w6, w7, w8, w9⟩ := w
  unfold WFd
  rw [h' (4848 + 40 * d) (by omega) (by omega), h' (4848 + 40 * d + 1) (by omega) (by omega), h' (4848 + 40 * d + 24) (by omega) (by omega), h' (4848 + 40 * d + 25) (by omega) (by omega), h' (4848 + 40 * d + 26) (by omega) (by omega), h' (4848 + 40 * d + 27) (by omega) (by omega)]
  refine ⟨w1, w2, w3.cg (fun i a b => h' i (by omega) (by omega)) fun _ _ _ _ z => z, w4.cg (fun i a b => h' i (by omega) (by omega)) fun _ _ _ _ z => z, w5, w6, w7, w8, w9.cg (fun i a b => h' i (by omega) (by omega)) fun j t v hj z => ?_⟩
  refine ⟨z.1, z.2.1, z.2.2.1, fun h0 => ?_⟩
  rw [h' _ (by omega) (by omega)]
  exact z.2.2.2 h0
theorem WFp.cg {I I' : Nat → Int32} {n : Nat} (w : WFp I n) (h : ∀ j, j < 404 → I' (404 * n + j) = I (404 * n + j)) : WFp I' n := by
  obtain ⟨w1, w2, s, hs, es, wk⟩ := w
  have h0 := h 0 (by omega); have h1 := h 1 (by omega); have h2 := h 2 (by omega); have h3 := h 3 (by omega)
  rw [Nat.add_zero] at h0
  unfold WFp
  rw [h0, h1, h2, h3]
  refine ⟨w1, w2, s, hs, es, fun k hk => ?_⟩
  rw [Nat.add_assoc, h (4 + k) (by omega), ← Nat.add_assoc]
  exact wk k hk
theorem DR.cg {M : Mm} {B : Nat → Nat} {β t d : Nat} {I I' : Nat → Int32} (r : DR M B β t I d) (h : ∀ j, j < 40 → I' (4848 + 40 * d + j) = I (4848 + 40 * d + j)) (w : WFd I d) : DR M B β t I' d := by
  have h' : ∀ i, 4848 + 40 * d ≤ i → i < 4848 + 40 * d + 40 → I' i = I i := fun i a b => by
    have := h (i - (4848 + 40 * d)) (by omega)
    rwa [show 4848 + 40 * d + (i - (4848 + 40 * d)) = i by omega] at this
  obtain ⟨r1, r2, r3, r4, r5, r6, r7⟩ := r
  unfold DR
  rw [h' (4848 + 40 * d) (by omega) (by omega), h' (4848 + 40 * d + 1) (by omega) (by omega), h' (4848 + 40 * d + 24) (by omega) (by omega), h' (4848 + 40 * d + 25) (by omega) (by omega), h' (4848 + 40 * d + 26) (by omega) (by omega), h' (4848 + 40 * d + 27) (by omega) (by omega)]
  refine ⟨r1, r2, r3, r4, r5, r6, fun i hi => ?_⟩
  obtain ⟨c, hc, ec⟩ := w.lad hi
  have ho := oft_le i
  have l := r7 i hi
  unfold LR at l ⊢
  rw [ec, i_nat (by omega)] at l
  rw [h' (4848 + 40 * d + oft i) (by omega) (by omega), ec, i_nat (by omega)]
  refine ⟨l.1, fun j hj => ?_⟩
  rw [h' _ (by omega) (by omega), h' _ (by omega) (by omega)]
  exact l.2 j hj
theorem WF.cg {I I' : Nat → Int32} (w : WF I) (h : ∀ j, j < 5328 → I' j = I j) : WF I' := ⟨fun n hn => (w.1 n hn).cg fun j _ => h _ (by omega), fun d hd => (w.2 d hd).cg fun j _ => h _ (by omega)⟩
theorem PRs.cg {M : Mm} {B : Nat → Nat} {β : Nat} {I I' : Nat → Int32} (r : PRs M B β I) (w : WF I) (h : ∀ j, j < 5328 → I' j = I j) : PRs M B β I' := fun n hn => (r n hn).cg (fun j _ => h _ (by omega)) (w.1 n hn)
theorem DRs.cg {M : Mm} {B : Nat → Nat} {β : Nat} {I I' : Nat → Int32} (r : DRs M B β I) (w : WF I) (h : ∀ j, j < 5328 → I' j = I j) : DRs M B β I' := fun n hn => (r n hn).cg (fun j _ => h _ (by omega)) (w.2 n hn)
theorem DR.fr {M M' : Mm} {B : Nat → Nat} {β t d : Nat} {I : Nat → Int32} (r : DR M B β t I d) (h1 : ∀ j, zI M' (aD B β t) j = zI M (aD B β t) j) (h2 : ∀ i j, i < 3 → zI M' (aL B β t i) j = zI M (aL B β t i) j ∧ zI M' (aT B β t i) j = zI M (aT B β t i) j ∧ zI M' (aV B β t i) j = zI M (aV B β t i) j) : DR M' B β t I d := by
  obtain ⟨r1, r2, r3, r4, r5, r6, r7⟩ := r
  refine ⟨by rw [h1]; exact r1, by rw [h1]; exact r2, by rw [h1]; exact r3, by rw [h1]; exact r4, by rw [h1]; exact r5, by rw [h1]; exact r6, fun i hi => ?_⟩
  obtain ⟨l1, l2⟩ := r7 i hi
  refine ⟨by rw [(h2 i 2 hi).1]; exact l1, fun j hj => ?_⟩
  rw [(h2 i j hi).2.1, (h2 i j hi).2.2]
  exact l2 j hj
theorem PR.fb {M M' : Mm} {B : Nat → Nat} {K : Nat → Nat → Prop} {β m n : Nat} {I : Nat → Int32} (F : FB B K M M') (r : PR M (aP B β m) (aC B β m) I n) (k : ∀ j, ¬ K (100 + 12 * β + m) j ∧ ¬ K (200 + 12 * β + m) j) : PR M' (aP B β m) (aC B β m) I n := r.fr (fun j => F.i (k j).1) (fun j => F.i (k j).2)
theorem DR.fb {M M' : Mm} {B : Nat → Nat} {K : Nat → Nat → Prop} {β t d : Nat} {I : Nat → Int32} (F : FB B K M M') (r : DR M B β t I d) (k : ∀ i j, ¬ K (300 + 100 * i + 12 * β + t) j ∧ (i < 3 → ¬ K (400 + 100 * i + 12 * β + t) j ∧ ¬ K (700 + 100 * i + 12 * β + t) j ∧ ¬ K (1000 + 100 * i + 12 * β + t) j)) : DR M' B β t I d :=
  r.fr (fun j => F.i (k 0 j).1) (fun i j hi => ⟨F.i ((k i j).2 hi).1, F.i ((k i j).2 hi).2.1, F.i ((k i j).2 hi).2.2⟩)
theorem TP.cg {M1 M1' M2 M2' : Mm} {B A : Nat → Nat} {K1 K2 : Nat → Nat → Prop} (t : TP M1 B M2 A) (F1 : FB B K1 M1 M1') (F2 : FB A K2 M2 M2') (k1 : ∀ j, ¬ K1 1 j ∧ ¬ K1 2 j) (k2 : ∀ j, ¬ K2 0 7 ∧ ¬ K2 4 j) : TP M1' B M2' A := by
  obtain ⟨u, h1, h2, h3, h4⟩ := t
  exact ⟨u, h1, by rw [F1.i (k1 1).1]; exact h2, by rw [F2.i (k2 0).1]; exact h3, fun i hi => by rw [F1.i (k1 i).2, F2.i (k2 i).2]; exact h4 i hi⟩
/-- only scratch, the tape and what was thrown may change -/
theorem Inv.scr {h1 h2 : Hs} {M1 M1' M2 M2' : Mm} {B A : Nat → Nat} {pic : Prop} (V : Inv h1 M1 h2 M2 B A pic) (F1 : FB B (fun i _ => 1 ≤ i ∧ i ≤ 15) M1 M1') (F2 : FB A (fun i j => (i = 0 ∧ (j < 4 ∨ 7 ≤ j)) ∨ 4 ≤ i) M2 M2') (tp : TP M1' B M2' A) : Inv h1 M1' h2 M2' B A pic := by
  obtain ⟨V1, V2, V3, V4, V5, -, V7, V8⟩ := V
  have e1 : zI M2' (A 1) = zI M2 (A 1) := funext fun j => F2.i (by omega)
  have e2 : zI M2' (A 2) = zI M2 (A 2) := funext fun j => F2.i (by omega)
  have e3 : zI M2' (A 3) = zI M2 (A 3) := funext fun j => F2.i (by omega)
  have e4 : zI M2' (A 0) 4 = zI M2 (A 0) 4 := F2.i (by omega)
  have e5 : zI M2' (A 0) 5 = zI M2 (A 0) 5 := F2.i (by omega)
  have g8 : zI M1' (B 0) 8 = zI M1 (B 0) 8 := F1.i (by omega)
  have g9 : zI M1' (B 0) 9 = zI M1 (B 0) 9 := F1.i (by omega)
  have pr : ∀ {β m n : Nat} {I : Nat → Int32}, PR M1 (aP B β m) (aC B β m) I n → PR M1' (aP B β m) (aC B β m) I n := fun r => r.fb F1 fun j => by omega
  have dr : ∀ {β m n : Nat} {I : Nat → Int32}, DR M1 B β m I n → DR M1' B β m I n := fun r => r.fb F1 fun i j => by omega
  refine ⟨V1, V2, by rw [e1]; exact V3, by rw [e1]; exact fun n hn => pr (V4 n hn), by rw [e1]; exact fun n hn => dr (V5 n hn), tp, ?_, ?_⟩
  · unfold UN
    rw [e2, e4, g8, g9]
    rcases V7 with z | ⟨n, z1, z2, z3, z4, z5, z6, z7, z8⟩ | ⟨n, z1, z2, z3, z4, z5, z6, z7, z8⟩
    · exact Or.inl z
    · exact Or.inr (Or.inl ⟨n, z1, z2, z3, z4, z5, pr z6, fun m a b => pr (z7 m a b), fun m a => dr (z8 m a)⟩)
    · exact Or.inr (Or.inr ⟨n, z1, z2, z3, z4, z5, fun m a => pr (z6 m a), dr z7, fun m a b => dr (z8 m a b)⟩)
  · unfold IM
    rw [e3, e5]
    rcases V8 with z | ⟨z1, z2, z3, z4, z5⟩
    · exact Or.inl z
    · exact Or.inr ⟨z1, z2, z3, fun m a => pr (z4 m a), fun m a => dr (z5 m a)⟩
/-- behind an act that changed place n -/
theorem Inv.actP {h1 h2 : Hs} {M1 M1' M2 M2' : Mm} {B A : Nat → Nat} {pic : Prop} {n : Nat} (V : Inv h1 M1 h2 M2 B A pic) (hn : n < 12)
    (F1 : FB B (fun i j => i = 124 ∨ i = 224 ∨ (i = 0 ∧ (j = 8 ∨ j = 9)) ∨ i = 100 + n ∨ i = 200 + n ∨ (1 ≤ i ∧ i ≤ 15)) M1 M1') (u8 : zI M1' (B 0) 8 = Int32.ofNat n) (u9 : zI M1' (B 0) 9 = -1) (k : PR M1' (aP B 2 0) (aC B 2 0) (zI M2 (A 1)) n)
    (F2 : FB A (fun i j => i = 2 ∨ (i = 0 ∧ (j < 5 ∨ 7 ≤ j)) ∨ (i = 1 ∧ 404 * n ≤ j ∧ j < 404 * n + 404) ∨ 4 ≤ i) M2 M2') (hw : ∀ i, i < 5328 → zI M2' (A 2) i = zI M2 (A 1) i) (hc : zI M2' (A 0) 4 = 1)
    (hp : PR M1' (aP B 0 n) (aC B 0 n) (zI M2' (A 1)) n) (hW : WFp (zI M2' (A 1)) n) (tp : TP M1' B M2' A) : Inv h1 M1' h2 M2' B A pic := by
  obtain ⟨V1, V2, V3, V4, V5, -, -, V8⟩ := V
  have e3 : zI M2' (A 3) = zI M2 (A 3) := funext fun j => F2.i (by omega)
  have e5 : zI M2' (A 0) 5 = zI M2 (A 0) 5 := F2.i (by omega)
  have dr : ∀ {β m d : Nat} {I : Nat → Int32}, DR M1 B β m I d → DR M1' B β m I d := fun r => r.fb F1 fun i j => by omega
  have pr : ∀ {m d : Nat} {I : Nat → Int32}, m < 12 → m ≠ n → PR M1 (aP B 0 m) (aC B 0 m) I d → PR M1' (aP B 0 m) (aC B 0 m) I d := fun a b r => r.fb F1 fun j => by omega
  have pr1 : ∀ {m d : Nat} {I : Nat → Int32}, m < 12 → PR M1 (aP B 1 m) (aC B 1 m) I d → PR M1' (aP B 1 m) (aC B 1 m) I d := fun a r => r.fb F1 fun j => by omega
  have eI : ∀ m j, m ≠ n → j < 404 → zI M2' (A 1) (404 * m + j) = zI M2 (A 1) (404 * m + j) := fun m j a b => F2.i (by omega)
  have eD : ∀ d j, d < 12 → j < 40 → zI M2' (A 1) (4848 + 40 * d + j) = zI M2 (A 1) (4848 + 40 * d + j) := fun m j a b => F2.i (by omega)
  refine ⟨V1, V2, ⟨fun m hm => ?_, fun d hd => (V3.2 d hd).cg fun j hj => eD d j hd hj⟩, fun m hm => ?_, fun d hd => (dr (V5 d hd)).cg (fun j hj => eD d j hd hj) (V3.2 d hd), tp, Or.inr (Or.inl ⟨n, hn, u8, u9, hc, V3.cg hw, k.cg (fun j _ => hw _ (by omega)) (V3.1 n hn), fun m a b => (pr a b (V4 m a)).cg (fun j _ => hw _ (by omega)) (V3.1 m a), fun d hd => (dr (V5 d hd)).cg (fun j _ => hw _ (by omega)) (V3.2 d hd)⟩), ?_⟩
  · by_cases e : m = n
    · rw [e]; exact hW
    · exact (V3.1 m hm).cg fun j hj => eI m j e hj
  · by_cases e : m = n
    · rw [e]; exact hp
    · exact (pr hm e (V4 m hm)).cg (fun j hj => eI m j e hj) (V3.1 m hm)
  · unfold IM
    rw [e3, e5]
    rcases V8 with z | ⟨z1, z2, z3, z4, z5⟩
    · exact Or.inl z
    · exact Or.inr ⟨z1, z2, z3, fun m a => pr1 a (z4 m a), fun m a => dr (z5 m a)⟩
/-- behind an act that changed detail n -/
theorem Inv.actD {h1 h2 : Hs} {M1 M1' M2 M2' : Mm} {B A : Nat → Nat} {pic : Prop} {n : Nat} (V : Inv h1 M1 h2 M2 B A pic) (hn : n < 12)
    (F1 : FB B (fun i j => (i = 0 ∧ (j = 8 ∨ j = 9)) ∨ (300 ≤ i ∧ i % 100 = 24) ∨ (300 ≤ i ∧ i % 100 = n) ∨ (3 ≤ i ∧ i ≤ 15)) M1 M1') (u8 : zI M1' (B 0) 8 = -1) (u9 : zI M1' (B 0) 9 = Int32.ofNat n) (k : DR M1' B 2 0 (zI M2 (A 1)) n)
    (F2 : FB A (fun i j => i = 2 ∨ (i = 0 ∧ (j < 5 ∨ 7 < j)) ∨ (i = 1 ∧ 4848 + 40 * n ≤ j ∧ j < 4848 + 40 * n + 40) ∨ 5 ≤ i) M2 M2') (hw : ∀ i, i < 5328 → zI M2' (A 2) i = zI M2 (A 1) i) (hc : zI M2' (A 0) 4 = 1)
    (hp : DR M1' B 0 n (zI M2' (A 1)) n) (hW : WFd (zI M2' (A 1)) n) : Inv h1 M1' h2 M2' B A pic := by
  obtain ⟨V1, V2, V3, V4, V5, V6, -, V8⟩ := V
  have e3 : zI M2' (A 3) = zI M2 (A 3) := funext fun j => F2.i (by omega)
  have e5 : zI M2' (A 0) 5 = zI M2 (A 0) 5 := F2.i (by omega)
  have pr : ∀ {β m d : Nat} {I : Nat → Int32}, β < 2 → m < 12 → PR M1 (aP B β m) (aC B β m) I d → PR M1' (aP B β m) (aC B β m) I d := fun a b r => r.fb F1 fun j => by omega
  have dr : ∀ {m d : Nat} {I : Nat → Int32}, m < 12 → m ≠ n → DR M1 B 0 m I d → DR M1' B 0 m I d := fun a b r => r.fb F1 fun i j => by omega
  have dr1 : ∀ {m d : Nat} {I : Nat → Int32}, m < 12 → DR M1 B 1 m I d → DR M1' B 1 m I d := fun a r => r.fb F1 fun i j => by omega
  have eI : ∀ m j, m < 12 → j < 404 → zI M2' (A 1) (404 * m + j) = zI M2 (A 1) (404 * m + j) := fun m j a b => F2.i (by omega)
  have eD : ∀ d j, d ≠ n → j < 40 → zI M2' (A 1) (4848 + 40 * d + j) = zI M2 (A 1) (4848 + 40 * d + j) := fun m j a b => F2.i (by omega)
  have tp : TP M1' B M2' A := V6.cg F1 F2 (fun j => by omega) (fun j => by omega)
  refine ⟨V1, V2, ⟨fun m hm => (V3.1 m hm).cg fun j hj => eI m j hm hj, fun d hd => ?_⟩, fun m hm => (pr (by omega) hm (V4 m hm)).cg (fun j hj => eI m j hm hj) (V3.1 m hm), fun d hd => ?_, tp, Or.inr (Or.inr ⟨n, hn, u9, u8, hc, V3.cg hw, fun m a => (pr (by omega) a (V4 m a)).cg (fun j _ => hw _ (by omega)) (V3.1 m a), k.cg (fun j _ => hw _ (by omega)) (V3.2 n hn), fun d hd hne => (dr hd hne (V5 d hd)).cg (fun j _ => hw _ (by omega)) (V3.2 d hd)⟩), ?_⟩
  · by_cases e : d = n
    · rw [e]; exact hW
    · exact (V3.2 d hd).cg fun j hj => eD d j e hj
  · by_cases e : d = n
    · rw [e]; exact hp
    · exact (dr hd e (V5 d hd)).cg (fun j hj => eD d j e hj) (V3.2 d hd)
  · unfold IM
    rw [e3, e5]
    rcases V8 with z | ⟨z1, z2, z3, z4, z5⟩
    · exact Or.inl z
    · exact Or.inr ⟨z1, z2, z3, fun m a => pr (by omega) a (z4 m a), fun m a => dr1 a (z5 m a)⟩
