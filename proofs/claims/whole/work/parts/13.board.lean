def n_bp (qa : Nat) : Nat → Hs × Mm → Hs × Mm → Prop
  | 0, u, v => v = u
  | i + 1, u, v => ∃ w : Hs × Mm, n_bp qa i u w ∧ ∃ q, q ∉ zL w.1 ∧ ∃ w2 : Hs × Mm, n_X4_init (nh w.1 q 4 0) q (nm w.2 q) w2 ∧ v = (setR w2.1 qa i (some q), w2.2)
set_option maxHeartbeats 4000000 in
set_option maxRecDepth 100000 in
theorem w_bp {l : Launch} {D : va_G} {cy : Nat → ClassId} {p : Program} {e : Env} {s : State} {m : MethodId} {args : Array Value} {below : List Frame} {meth : Method} {c : Code} {A : Nat → Prop} (X : Cx p s m args c cX0_init 2 gtbl RX0 D cy A) {Q : State → Prop} {a0 qa : Nat} {u0 : Hs × Mm}
    (kx : ∀ (u : Hs × Mm) (H : Heap) (locs : List Loc) (ls : Array Slot), n_bp qa 12 u0 u → Wd D cy A s.heap u.1 u.2 H locs → lv_has ls 2 [(1, .int (nI 12)), (0, .ref a0)] → W p l e ({ frames := 3, cells := 146, slots := 5436, locals := 60 } : Room) s m args below meth c H locs (2 + 2 * 12) (24 + 405 * 12) Q (F0 m 52 ls [])) :
    ∀ (n i : Nat), i + n = 12 → ∀ (u : Hs × Mm) (H : Heap) (locs : List Loc) (ls : Array Slot), n_bp qa i u0 u → ok u.1 a0 0 → ok u.1 qa 15 → zN u.1 qa = 12 → zR u.1 a0 0 = some qa → Wd D cy A s.heap u.1 u.2 H locs → lv_has ls 2 [(1, .int (nI i)), (0, .ref a0)] → W p l e ({ frames := 3, cells := 146, slots := 5436, locals := 60 } : Room) s m args below meth c H locs (2 + 2 * i) (24 + 405 * i) Q (F0 m 24 ls []) := by
  intro n
  induction n with
  | zero =>
    intro i hi u H locs ls hn g_a0 g_qa hN hR hw hl
    obtain rfl : i = 12 := by omega
    refine lv_iload_n X.1.1 X.1.2.1 dX0_init_24 rfl (lv_at hl 0 rfl) ?_
    refine lv_aload_n X.1.1 X.1.2.1 dX0_init_25 rfl (lv_at hl 1 rfl) ?_
    refine r_getq (k := 0) (j := 0) X hw rfl inX0 g_a0 rfl (by decide) (by decide) uf_X0_11 rfl dX0_init_26 hR ?_
    refine r_alen X hw g_qa (by decide) dX0_init_29 ?_
    rw [hN]
    refine lv_icmp_ge (tgt := 52) X.1.1 X.1.2.1 dX0_init_30 (by decide) (fun c_1 => ?_) (fun c_1 => ?_)
    · exact kx u H locs ls hn hw hl
    · exact absurd (by decide) c_1
  | succ n ih =>
    intro i hi u H locs ls hn g_a0 g_qa hN hR hw hl
    have hlt : i < 12 := by omega
    refine lv_iload_n X.1.1 X.1.2.1 dX0_init_24 rfl (lv_at hl 0 rfl) ?_
    refine lv_aload_n X.1.1 X.1.2.1 dX0_init_25 rfl (lv_at hl 1 rfl) ?_
    refine r_getq (k := 0) (j := 0) X hw rfl inX0 g_a0 rfl (by decide) (by decide) uf_X0_11 rfl dX0_init_26 hR ?_
    refine r_alen X hw g_qa (by decide) dX0_init_29 ?_
    rw [hN]
    refine lv_icmp_ge (tgt := 52) X.1.1 X.1.2.1 dX0_init_30 (by decide) (fun c_1 => ?_) (fun c_1 => ?_)
    · exact absurd c_1 (nI_ge hlt (by decide))
    · refine lv_aload_n X.1.1 X.1.2.1 dX0_init_33 rfl (lv_at hl 1 rfl) ?_
      refine r_getq (k := 0) (j := 0) X hw rfl inX0 g_a0 rfl (by decide) (by decide) uf_X0_11 rfl dX0_init_34 hR ?_
      refine lv_iload_n X.1.1 X.1.2.1 dX0_init_37 rfl (lv_at hl 0 rfl) ?_
      refine r_new (k := 4) X hw rfl inX4 tyX4_ok ul_X0_9 up_X4 un_X4 (by decide) (fun j hj => by rcases (show j = 0 ∨ j = 1 ∨ j = 2 ∨ j = 3 ∨ j = 4 by omega) with rfl | rfl | rfl | rfl | rfl <;> rfl) (by show _ ≤ 146; omega) (by show _ ≤ 5436; omega) dX0_init_38 (fun q H hq hw => ?_)
      refine lv_dup X.1.1 X.1.2.1 dX0_init_41 rfl ?_
      refine r_initN (host := RX8) (As := []) (rest := [.ref q, .int (nI i), .ref qa]) X hw (c_X4_init nh_ok) ⟨va_cnB 0 X.1.2.2.2.2 (guN uo_X4_init) rfl rfl rfl (X.2.2.1.1 _ (List.mem_of_getElem? (i := 1) rfl)) (X.1.2.2.2.2 _ un_X4) (by decide +kernel) ⟨Nat.le_of_ble_eq_true rfl, Nat.le_of_ble_eq_true rfl⟩, rfl, X.1.2.2.2.2 _ ui_X4_init⟩ rfl hl.1 rfl (Nat.le_of_ble_eq_true rfl) dX0_init_42 ⟨by show _ ≤ 146; omega, by show _ ≤ 5436; omega⟩ (fun u2 H locs hu hw => ?_)
      have na : a0 ≠ q := fun z => hq (z ▸ g_a0.1)
      have nqa : qa ≠ q := fun z => hq (z ▸ g_qa.1)
      have f0 : Fr a0 u.1 u.2 u2 := ((Fr.refl g_a0.1).nh na).trans (fr_X4_init hu (ok_nh hq g_a0).1 na)
      have f1 : Fr qa u.1 u.2 u2 := ((Fr.refl g_qa.1).nh nqa).trans (fr_X4_init hu (ok_nh hq g_qa).1 nqa)
      have g2 : ok u2.1 q 4 := e_X4_init hu nh_ok
      have g_a0' : ok u2.1 a0 0 := ⟨f0.1, f0.2.1.trans g_a0.2⟩
      have g_qa' : ok u2.1 qa 15 := ⟨f1.1, f1.2.1.trans g_qa.2⟩
      have hN' : zN u2.1 qa = 12 := f1.2.2.1.trans hN
      refine r_aast15 X hw g_qa' g2 (by rw [hN']; exact vp_in_nI hlt (by decide)) dX0_init_45 (fun H locs hw => ?_)
      rw [nI_clamp (by omega)] at hw
      refine lv_iinc (v := nI (i + 1)) (lv' := [(1, .int (nI (i + 1))), (0, .ref a0)]) X.1.1 X.1.2.1 dX0_init_46 hl (k := 0) rfl (nI_1 i) (by decide) rfl (fun ls hl => ?_)
      refine lv_goto (tgt := 24) X.1.1 X.1.2.1 dX0_init_49 (by decide) ?_
      refine W.widen (k := 2 + 2 * (i + 1)) (n := 24 + 405 * (i + 1)) (by omega) (by omega) ?_
      have nea : a0 ≠ qa := fun z => by
        have z1 := g_a0.2
        rw [z, g_qa.2] at z1
        exact absurd z1 (by decide)
      exact ih (i + 1) (by omega) (setR u2.1 qa i (some q), u2.2) H locs ls ⟨u, hn, q, hq, u2, hu, rfl⟩ (ok_setR g_a0') (ok_setR g_qa') hN' ((congrFun (zR_setR nea) 0).trans ((congrFun f0.2.2.2.1 0).trans hR)) hw hl
def n_bd (qa : Nat) : Nat → Hs × Mm → Hs × Mm → Prop
  | 0, u, v => v = u
  | i + 1, u, v => ∃ w : Hs × Mm, n_bd qa i u w ∧ ∃ q, q ∉ zL w.1 ∧ ∃ w2 : Hs × Mm, n_X2_init (nh w.1 q 2 0) q (nm w.2 q) w2 ∧ v = (setR w2.1 qa i (some q), w2.2)
set_option maxHeartbeats 4000000 in
set_option maxRecDepth 100000 in
theorem w_bd {l : Launch} {D : va_G} {cy : Nat → ClassId} {p : Program} {e : Env} {s : State} {m : MethodId} {args : Array Value} {below : List Frame} {meth : Method} {c : Code} {A : Nat → Prop} (X : Cx p s m args c cX0_init 2 gtbl RX0 D cy A) {Q : State → Prop} {a0 qa : Nat} {u0 : Hs × Mm}
    (kx : ∀ (u : Hs × Mm) (H : Heap) (locs : List Loc) (ls : Array Slot), n_bd qa 12 u0 u → Wd D cy A s.heap u.1 u.2 H locs → lv_has ls 2 [(1, .int (nI 12)), (0, .ref a0)] → W p l e ({ frames := 3, cells := 146, slots := 5436, locals := 60 } : Room) s m args below meth c H locs (26 + 10 * 12) (4884 + 46 * 12) Q (F0 m 82 ls [])) :
    ∀ (n i : Nat), i + n = 12 → ∀ (u : Hs × Mm) (H : Heap) (locs : List Loc) (ls : Array Slot), n_bd qa i u0 u → ok u.1 a0 0 → ok u.1 qa 14 → zN u.1 qa = 12 → zR u.1 a0 1 = some qa → Wd D cy A s.heap u.1 u.2 H locs → lv_has ls 2 [(1, .int (nI i)), (0, .ref a0)] → W p l e ({ frames := 3, cells := 146, slots := 5436, locals := 60 } : Room) s m args below meth c H locs (26 + 10 * i) (4884 + 46 * i) Q (F0 m 54 ls []) := by
  intro n
  induction n with
  | zero =>
    intro i hi u H locs ls hn g_a0 g_qa hN hR hw hl
    obtain rfl : i = 12 := by omega
    refine lv_iload_n X.1.1 X.1.2.1 dX0_init_54 rfl (lv_at hl 0 rfl) ?_
    refine lv_aload_n X.1.1 X.1.2.1 dX0_init_55 rfl (lv_at hl 1 rfl) ?_
    refine r_getq (k := 0) (j := 1) X hw rfl inX0 g_a0 rfl (by decide) (by decide) uf_X0_19 rfl dX0_init_56 hR ?_
    refine r_alen X hw g_qa (by decide) dX0_init_59 ?_
    rw [hN]
    refine lv_icmp_ge (tgt := 82) X.1.1 X.1.2.1 dX0_init_60 (by decide) (fun c_1 => ?_) (fun c_1 => ?_)
    · exact kx u H locs ls hn hw hl
    · exact absurd (by decide) c_1
  | succ n ih =>
    intro i hi u H locs ls hn g_a0 g_qa hN hR hw hl
    have hlt : i < 12 := by omega
    refine lv_iload_n X.1.1 X.1.2.1 dX0_init_54 rfl (lv_at hl 0 rfl) ?_
    refine lv_aload_n X.1.1 X.1.2.1 dX0_init_55 rfl (lv_at hl 1 rfl) ?_
    refine r_getq (k := 0) (j := 1) X hw rfl inX0 g_a0 rfl (by decide) (by decide) uf_X0_19 rfl dX0_init_56 hR ?_
    refine r_alen X hw g_qa (by decide) dX0_init_59 ?_
    rw [hN]
    refine lv_icmp_ge (tgt := 82) X.1.1 X.1.2.1 dX0_init_60 (by decide) (fun c_1 => ?_) (fun c_1 => ?_)
    · exact absurd c_1 (nI_ge hlt (by decide))
    · refine lv_aload_n X.1.1 X.1.2.1 dX0_init_63 rfl (lv_at hl 1 rfl) ?_
      refine r_getq (k := 0) (j := 1) X hw rfl inX0 g_a0 rfl (by decide) (by decide) uf_X0_19 rfl dX0_init_64 hR ?_
      refine lv_iload_n X.1.1 X.1.2.1 dX0_init_67 rfl (lv_at hl 0 rfl) ?_
      refine r_new (k := 2) X hw rfl inX2 tyX2_ok ul_X0_17 up_X2 un_X2 (by decide) (fun j hj => by rcases (show j = 0 ∨ j = 1 ∨ j = 2 ∨ j = 3 ∨ j = 4 ∨ j = 5 ∨ j = 6 ∨ j = 7 ∨ j = 8 by omega) with rfl | rfl | rfl | rfl | rfl | rfl | rfl | rfl | rfl <;> rfl) (by show _ ≤ 146; omega) (by show _ ≤ 5436; omega) dX0_init_68 (fun q H hq hw => ?_)
      refine lv_dup X.1.1 X.1.2.1 dX0_init_71 rfl ?_
      refine r_initN (host := RX8) (As := []) (rest := [.ref q, .int (nI i), .ref qa]) X hw (c_X2_init nh_ok) ⟨va_cnB 0 X.1.2.2.2.2 (guN uo_X2_init) rfl rfl rfl (X.2.2.1.1 _ (List.mem_of_getElem? (i := 2) rfl)) (X.1.2.2.2.2 _ un_X2) (by decide +kernel) ⟨Nat.le_of_ble_eq_true rfl, Nat.le_of_ble_eq_true rfl⟩, rfl, X.1.2.2.2.2 _ ui_X2_init⟩ rfl hl.1 rfl (Nat.le_of_ble_eq_true rfl) dX0_init_72 ⟨by show _ ≤ 146; omega, by show _ ≤ 5436; omega⟩ (fun u2 H locs hu hw => ?_)
      have na : a0 ≠ q := fun z => hq (z ▸ g_a0.1)
      have nqa : qa ≠ q := fun z => hq (z ▸ g_qa.1)
      have f0 : Fr a0 u.1 u.2 u2 := ((Fr.refl g_a0.1).nh na).trans (fr_X2_init hu (ok_nh hq g_a0).1 na)
      have f1 : Fr qa u.1 u.2 u2 := ((Fr.refl g_qa.1).nh nqa).trans (fr_X2_init hu (ok_nh hq g_qa).1 nqa)
      have g2 : ok u2.1 q 2 := e_X2_init hu nh_ok
      have g_a0' : ok u2.1 a0 0 := ⟨f0.1, f0.2.1.trans g_a0.2⟩
      have g_qa' : ok u2.1 qa 14 := ⟨f1.1, f1.2.1.trans g_qa.2⟩
      have hN' : zN u2.1 qa = 12 := f1.2.2.1.trans hN
      refine r_aast14 X hw g_qa' g2 (by rw [hN']; exact vp_in_nI hlt (by decide)) dX0_init_75 (fun H locs hw => ?_)
      rw [nI_clamp (by omega)] at hw
      refine lv_iinc (v := nI (i + 1)) (lv' := [(1, .int (nI (i + 1))), (0, .ref a0)]) X.1.1 X.1.2.1 dX0_init_76 hl (k := 0) rfl (nI_1 i) (by decide) rfl (fun ls hl => ?_)
      refine lv_goto (tgt := 54) X.1.1 X.1.2.1 dX0_init_79 (by decide) ?_
      refine W.widen (k := 26 + 10 * (i + 1)) (n := 4884 + 46 * (i + 1)) (by omega) (by omega) ?_
      have nea : a0 ≠ qa := fun z => by
        have z1 := g_a0.2
        rw [z, g_qa.2] at z1
        exact absurd z1 (by decide)
      exact ih (i + 1) (by omega) (setR u2.1 qa i (some q), u2.2) H locs ls ⟨u, hn, q, hq, u2, hu, rfl⟩ (ok_setR g_a0') (ok_setR g_qa') hN' ((congrFun (zR_setR nea) 1).trans ((congrFun f0.2.2.2.1 1).trans hR)) hw hl
/-- a new Board -/
def n_X0_init (h : Hs) (a0 : Nat) (M : Mm) (u : Hs × Mm) : Prop :=
  ∃ q1, q1 ∉ zL h ∧ ∃ h2, h2 = nh h q1 15 12 ∧ ∃ M3, M3 = nm M q1 ∧ ∃ h4, h4 = setR h2 a0 0 (some q1) ∧
  ∃ q5, q5 ∉ zL h4 ∧ ∃ h6, h6 = nh h4 q5 14 12 ∧ ∃ M7, M7 = nm M3 q5 ∧ ∃ h8, h8 = setR h6 a0 1 (some q5) ∧
  ∃ v : Hs × Mm, n_bp q1 12 (h8, M7) v ∧ n_bd q5 12 v u
theorem fr_bp {qa : Nat} {u0 : Hs × Mm} {b : Nat} (hb : b ∈ zL u0.1) (nb : b ≠ qa) : ∀ (i : Nat) (u : Hs × Mm), n_bp qa i u0 u → Fr b u0.1 u0.2 u := by
  intro i
  induction i with
  | zero => intro u hu; cases hu; exact Fr.refl hb
  | succ i ih =>
    intro u hu
    obtain ⟨w, hw, q, hq, w2, h2, rfl⟩ := hu
    have f := ih w hw
    have nq : b ≠ q := fun z => hq (z ▸ f.1)
    have f1 : Fr b w.1 w.2 w2 := ((Fr.refl f.1).nh nq).trans (fr_X4_init h2 (by rw [nh_L]; exact List.mem_append_left _ f.1) nq)
    exact (f.trans f1).setR nb
theorem fr_bd {qa : Nat} {u0 : Hs × Mm} {b : Nat} (hb : b ∈ zL u0.1) (nb : b ≠ qa) : ∀ (i : Nat) (u : Hs × Mm), n_bd qa i u0 u → Fr b u0.1 u0.2 u := by
  intro i
  induction i with
  | zero => intro u hu; cases hu; exact Fr.refl hb
  | succ i ih =>
    intro u hu
    obtain ⟨w, hw, q, hq, w2, h2, rfl⟩ := hu
    have f := ih w hw
    have nq : b ≠ q := fun z => hq (z ▸ f.1)
    have f1 : Fr b w.1 w.2 w2 := ((Fr.refl f.1).nh nq).trans (fr_X2_init h2 (by rw [nh_L]; exact List.mem_append_left _ f.1) nq)
    exact (f.trans f1).setR nb
theorem kn_bp {qa : Nat} {u0 : Hs × Mm} (hb : qa ∈ zL u0.1) : ∀ (i : Nat) (u : Hs × Mm), n_bp qa i u0 u → qa ∈ zL u.1 ∧ zK u.1 qa = zK u0.1 qa ∧ zN u.1 qa = zN u0.1 qa := by
  intro i
  induction i with
  | zero => intro u hu; cases hu; exact ⟨hb, rfl, rfl⟩
  | succ i ih =>
    intro u hu
    obtain ⟨w, hw, q, hq, w2, h2, rfl⟩ := hu
    obtain ⟨f1, f2, f3⟩ := ih w hw
    have nq : qa ≠ q := fun z => hq (z ▸ f1)
    have f : Fr qa w.1 w.2 w2 := ((Fr.refl f1).nh nq).trans (fr_X4_init h2 (by rw [nh_L]; exact List.mem_append_left _ f1) nq)
    exact ⟨f.1, f.2.1.trans f2, f.2.2.1.trans f3⟩
theorem kn_bd {qa : Nat} {u0 : Hs × Mm} (hb : qa ∈ zL u0.1) : ∀ (i : Nat) (u : Hs × Mm), n_bd qa i u0 u → qa ∈ zL u.1 ∧ zK u.1 qa = zK u0.1 qa ∧ zN u.1 qa = zN u0.1 qa := by
  intro i
  induction i with
  | zero => intro u hu; cases hu; exact ⟨hb, rfl, rfl⟩
  | succ i ih =>
    intro u hu
    obtain ⟨w, hw, q, hq, w2, h2, rfl⟩ := hu
    obtain ⟨f1, f2, f3⟩ := ih w hw
    have nq : qa ≠ q := fun z => hq (z ▸ f1)
    have f : Fr qa w.1 w.2 w2 := ((Fr.refl f1).nh nq).trans (fr_X2_init h2 (by rw [nh_L]; exact List.mem_append_left _ f1) nq)
    exact ⟨f.1, f.2.1.trans f2, f.2.2.1.trans f3⟩
theorem fr_X0_init {h : Hs} {a0 : Nat} {M : Mm} {u : Hs × Mm} (hn : n_X0_init h a0 M u) {b : Nat} (hb : b ∈ zL h) (n_a0 : b ≠ a0) : Fr b h M u := by
  obtain ⟨q1, hq1, h2, eh2, M3, eM3, h4, eh4, q5, hq5, h6, eh6, M7, eM7, h8, eh8, v, hv, hu⟩ := hn
  have f : Fr b h M (h, M) := Fr.refl hb
  have n_q1 : b ≠ q1 := fun z => hq1 (z ▸ f.1)
  have f : Fr b h M (h2, M3) := by rw [eh2, eM3]; exact f.nh n_q1
  have f : Fr b h M (h4, M3) := by rw [eh4]; exact f.setR n_a0
  have n_q5 : b ≠ q5 := fun z => hq5 (z ▸ f.1)
  have f : Fr b h M (h6, M7) := by rw [eh6, eM7]; exact f.nh n_q5
  have f : Fr b h M (h8, M7) := by rw [eh8]; exact f.setR n_a0
  have f : Fr b h M v := f.trans (fr_bp f.1 n_q1 12 v hv)
  exact f.trans (fr_bd f.1 n_q5 12 u hu)
theorem e_X0_init {h : Hs} {a0 : Nat} {M : Mm} {u : Hs × Mm} (hn : n_X0_init h a0 M u) (g_a0 : ok h a0 0) {b k : Nat} (g : ok h b k) : ok u.1 b k := by
  by_cases e : b = a0
  · subst e
    obtain ⟨q1, hq1, h2, eh2, M3, eM3, h4, eh4, q5, hq5, h6, eh6, M7, eM7, h8, eh8, v, hv, hu⟩ := hn
    have n1 : b ≠ q1 := fun z => hq1 (z ▸ g.1)
    have g : ok h2 b k := by rw [eh2]; exact ok_nh hq1 g
    have g : ok h4 b k := by rw [eh4]; exact ok_setR g
    have n5 : b ≠ q5 := fun z => hq5 (z ▸ g.1)
    have g : ok h6 b k := by rw [eh6]; exact ok_nh hq5 g
    have g : ok h8 b k := by rw [eh8]; exact ok_setR g
    have f := fr_bp (u0 := (h8, M7)) g.1 n1 12 v hv
    have f2 := fr_bd f.1 n5 12 u hu
    exact ⟨f2.1, f2.2.1.trans (f.2.1.trans g.2)⟩
  · have f := fr_X0_init hn g.1 e
    exact ⟨f.1, f.2.1.trans g.2⟩
set_option maxHeartbeats 4000000 in
set_option maxRecDepth 100000 in
theorem c_X0_init {l : Launch} {D : va_G} {cy : Nat → ClassId} {h : Hs} {a0 : Nat} {M : Mm} (g_a0 : ok h a0 0) : CtN l D cy yX0_init (wu yX0_init cX0_init 2 none) ({ frames := 3, cells := 146, slots := 5436, locals := 60 } : Room) [.ref a0] h M (n_X0_init h a0 M) 146 5436 := by
  refine enterN (cc := cX0_init) (maxL := 2) (by decide) (Nat.le_of_ble_eq_true rfl) ?_
  intro p e s m args below meth c A ls X hw hr hlk hin hl
  have hl : lv_has ls 2 [(0, .ref a0)] := hl
  have g00 : ok h a0 0 := g_a0
  refine lv_aload_n X.1.1 X.1.2.1 dX0_init_0 rfl (lv_at hl 0 rfl) ?_
  refine W.objInit X.1.1 X.1.2.1 X.1.2.2.2.1 (X.1.2.2.2.2 _ um_X0_3) (X.1.2.2.2.2 _ ui_obj) (X.1.2.2.2.2 _ uo_obj) rfl (hl.1.trans X.1.2.2.1.symm) rfl dX0_init_1 (Nat.le_of_ble_eq_true rfl) (Nat.le_of_ble_eq_true rfl) ?_
  refine W.eq (g2 := F0 m 4 ls []) rfl ?_
  refine lv_aload_n X.1.1 X.1.2.1 dX0_init_4 rfl (lv_at hl 0 rfl) ?_
  refine lv_bipush (v := (12 : Int32)) X.1.1 X.1.2.1 dX0_init_5 (by decide) ?_
  refine r_newq15 (N := 12) X hw ul_X0_9 (by decide) (by decide) (by decide) (Nat.le_of_ble_eq_true rfl) (Nat.le_of_ble_eq_true rfl) dX0_init_7 (fun q1 H hq1 hw => ?_)
  obtain ⟨h2, eh2⟩ : ∃ x, x = nh h q1 15 12 := ⟨_, rfl⟩
  have g_a0 : ok h2 a0 0 := by rw [eh2]; exact ok_nh hq1 g_a0
  have g_q1 : ok h2 q1 15 := by rw [eh2]; exact nh_ok
  obtain ⟨M3, eM3⟩ : ∃ x, x = nm M q1 := ⟨_, rfl⟩
  rw [← eh2, ← eM3] at hw
  refine r_putqF (k := 0) (j := 0) X hw rfl inX0 tyX0_ok nmX0 g_a0 rfl (by decide) (by decide) uf_X0_11 rfl rfl hin rfl rfl rfl dX0_init_10 (fun H locs hw => ?_)
  obtain ⟨h4, eh4⟩ : ∃ x, x = setR h2 a0 0 (some q1) := ⟨_, rfl⟩
  have g_a0 : ok h4 a0 0 := by rw [eh4]; exact ok_setR g_a0
  have g_q1 : ok h4 q1 15 := by rw [eh4]; exact ok_setR g_q1
  rw [← eh4] at hw
  refine lv_aload_n X.1.1 X.1.2.1 dX0_init_13 rfl (lv_at hl 0 rfl) ?_
  refine lv_bipush (v := (12 : Int32)) X.1.1 X.1.2.1 dX0_init_14 (by decide) ?_
  refine r_newq14 (N := 12) X hw ul_X0_17 (by decide) (by decide) (by decide) (Nat.le_of_ble_eq_true rfl) (Nat.le_of_ble_eq_true rfl) dX0_init_16 (fun q5 H hq5 hw => ?_)
  obtain ⟨h6, eh6⟩ : ∃ x, x = nh h4 q5 14 12 := ⟨_, rfl⟩
  have g_a0 : ok h6 a0 0 := by rw [eh6]; exact ok_nh hq5 g_a0
  have g_q1 : ok h6 q1 15 := by rw [eh6]; exact ok_nh hq5 g_q1
  have g_q5 : ok h6 q5 14 := by rw [eh6]; exact nh_ok
  obtain ⟨M7, eM7⟩ : ∃ x, x = nm M3 q5 := ⟨_, rfl⟩
  rw [← eh6, ← eM7] at hw
  refine r_putqF (k := 0) (j := 1) X hw rfl inX0 tyX0_ok nmX0 g_a0 rfl (by decide) (by decide) uf_X0_19 rfl rfl hin rfl rfl rfl dX0_init_19 (fun H locs hw => ?_)
  obtain ⟨h8, eh8⟩ : ∃ x, x = setR h6 a0 1 (some q5) := ⟨_, rfl⟩
  have g_a0 : ok h8 a0 0 := by rw [eh8]; exact ok_setR g_a0
  have g_q1 : ok h8 q1 15 := by rw [eh8]; exact ok_setR g_q1
  have g_q5 : ok h8 q5 14 := by rw [eh8]; exact ok_setR g_q5
  rw [← eh8] at hw
  refine lv_iconst (v := (0 : Int32)) X.1.1 X.1.2.1 dX0_init_22 (by decide) ?_
  refine lv_istore_n (lv' := [(1, .int (0 : Int32)), (0, .ref a0)]) X.1.1 X.1.2.1 dX0_init_23 rfl hl (by decide) rfl (fun ls hl => ?_)
  have hR1 : zR h8 a0 0 = some q1 := by
    have nq5 : a0 ≠ q5 := fun z => hq5 (by rw [← z]; exact (by rw [eh4]; exact (by rw [eh2]; exact (ok_nh hq1 g00).1 : a0 ∈ zL h2) : a0 ∈ zL h4))
    rw [eh8, eh6, eh4]
    simp [zR, setR, up2, nh, nq5]
  have hR5 : zR h8 a0 1 = some q5 := by rw [eh8]; simp [zR, setR, up2]
  have n15 : q1 ≠ q5 := fun z => hq5 (by rw [← z, eh4, eh2]; exact (by rw [show zL (setR (nh h q1 15 12) a0 0 (some q1)) = zL h ++ [q1] from rfl]; simp))
  have na1 : a0 ≠ q1 := fun z => hq1 (z ▸ g00.1)
  have hN1 : zN h8 q1 = 12 := by
    rw [eh8, eh6, eh4, eh2]
    show va_up (va_up (zN h) q1 12) q5 12 q1 = 12
    simp [va_up]
  have hN5 : zN h8 q5 = 12 := by
    rw [eh8, eh6]
    show va_up _ q5 12 q5 = 12
    simp [va_up]
  have na5 : a0 ≠ q5 := fun z => by
    have z1 := g_a0.2
    rw [z, g_q5.2] at z1
    exact absurd z1 (by decide)
  refine w_bp X (u0 := (h8, M7)) (qa := q1) (fun u H locs ls hn hw hl => ?_) 12 0 rfl (h8, M7) _ _ _ rfl g_a0 g_q1 hN1 hR1 hw (lv_sub hl [0, 1] rfl)
  have f0 := fr_bp (u0 := (h8, M7)) g_a0.1 na1 12 u hn
  have f5 := fr_bp (u0 := (h8, M7)) g_q5.1 (Ne.symm n15) 12 u hn
  refine lv_iconst (v := (0 : Int32)) X.1.1 X.1.2.1 dX0_init_52 (by decide) ?_
  refine lv_istore_n (lv' := [(1, .int (0 : Int32)), (0, .ref a0)]) X.1.1 X.1.2.1 dX0_init_53 rfl hl (by decide) rfl (fun ls hl => ?_)
  refine w_bd X (u0 := u) (qa := q5) (fun u2 H locs ls hn2 hw hl => ?_) 12 0 rfl u _ _ _ rfl ⟨f0.1, f0.2.1.trans g_a0.2⟩ ⟨f5.1, f5.2.1.trans g_q5.2⟩ (f5.2.2.1.trans hN5) ((congrFun f0.2.2.2.1 1).trans hR5) hw hl
  exact r_retN X hw hr hlk ⟨q1, hq1, h2, eh2, M3, eM3, h4, eh4, q5, hq5, h6, eh6, M7, eM7, h8, eh8, u, hn, hn2⟩ dX0_init_82
