/-! THE LAW: more cases -/
section LAW
variable {p : Program} {l : Launch} {e : Env} {s : State} {m : MethodId} {below : List Frame} {meth : Method} {c : Code} {H : Heap} {locs : List Loc} {cells slots : Nat} {Q : State → Prop}
variable {ls : Array Slot} {D : va_G} {cy : Nat → ClassId} {G : Nat → Prop} {h1 h2 : Hs} {M1 M2 : Mm} {b L i : Nat} {xs : Nat → Int32} {B A : Nat → Nat} {pic : Prop}
set_option maxRecDepth 100000 in
theorem law_span (hst : l.stackTraces = false) (X : Cx p s m #[Value.ref b] c cL_law 8 gtbl RL D cy G) (S : Scr s b L xs G) (hi : i + 6 ≤ L) (hf : cells + 147 ≤ 226454 ∧ slots + 5438 ≤ 8416744) (V : Inv h1 M1 h2 M2 B A pic) (hw : Wd2 D cy G s.heap h1 M1 h2 M2 H locs) (hl : lv_has ls 8 [(0, .ref b), (1, .ref (B 0)), (2, .ref (A 0)), (3, .ref (B 15)), (4, .int (Int32.ofNat i))])
    (KK : Nxt p l e s m below meth c Q D cy G b A h2 i cells slots (B 0) (B 15)) : W p l e room_1 s m #[Value.ref b] below meth c H locs cells slots Q (F0 m 590 ls []) := by
  have f0 : cells + 0 ≤ room_1.cells ∧ slots + 0 ≤ room_1.slots := ⟨by show cells + 0 ≤ 226454; omega, by show slots + 0 ≤ 8416744; omega⟩
  have g1 : ok h1 (B 0) 8 := V.1.2.1.1
  have g2 : ok h2 (A 0) 9 := V.2.1.1.1
  obtain ⟨hX, hbl, hbA, hL⟩ := S
  obtain ⟨z, hz, z', hz', V', hv⟩ := (t_span V : SimT (f_X8_span h1 (B 0) (xs (i + 1)) (xs (i + 2)) M1) (f_X9_span h2 (A 0) (xs (i + 1)) (xs (i + 2)) M2) h1 h2 B A pic)
  have go := V.1.2.1.2.2.2.2.2.2.2.2.2.2.2
  obtain ⟨Vh, ht, hq⟩ := hI_use (o := B 15) V' hv
  have htn : f_X9_thrown h2 (A 0) z'.2 = some (zI z'.2 (A 0) 0) := by unfold f_X9_thrown; rw [gd, if_pos g2]
  have f1 : cells + 1 ≤ room_1.cells ∧ slots + 6 ≤ room_1.slots := ⟨by show cells + 1 ≤ 226454; omega, by show slots + 6 ≤ 8416744; omega⟩
  have f2 : cells + 1 + 0 ≤ room_1.cells ∧ slots + 6 + 0 ≤ room_1.slots := ⟨by show cells + 1 + 0 ≤ 226454; omega, by show slots + 6 + 0 ≤ 8416744; omega⟩
  refine lv_aload_n X.1.1 X.1.2.1 dL_law_590 rfl (lv_at hl 1 rfl) ?_
  refine l_arg X.1.1 X.1.2.1 hw.2.2.1 hX hbl hbA hL (i := i) (kn := 1) (by omega) (lv_at hl 0 rfl) (lv_at hl 4 rfl) rfl dL_law_591 dL_law_592 dL_law_594 dL_law_595 dL_law_596 ?_
  refine l_arg X.1.1 X.1.2.1 hw.2.2.1 hX hbl hbA hL (i := i) (kn := 2) (by omega) (lv_at hl 0 rfl) (lv_at hl 4 rfl) rfl dL_law_597 dL_law_598 dL_law_600 dL_law_601 dL_law_602 ?_
  refine lv_aload_n X.1.1 X.1.2.1 dL_law_603 rfl (lv_at hl 3 rfl) ?_
  refine l_S1 (As := [.ref (B 0), .int (xs (i + 1)), .int (xs (i + 2)), .ref (B 15)]) (rest := []) X hw (c_L_span hst g1 go.1 go.2 hz) (vx_cwSW 4 X.1.2.2.2.2 (guSW um_L_82 ut_L_span un_L uo_L_span) rfl rfl rfl (by decide +kernel) ⟨Nat.le_of_ble_eq_true rfl, Nat.le_of_ble_eq_true rfl⟩) rfl hl.1 rfl (Nat.le_of_ble_eq_true rfl) dL_law_604 f1 (fun H locs hw => ?_)
  generalize hI (B 15) z = w at hw Vh ht hq ⊢
  refine lv_istore (lv' := (5, .int w.1) :: [(0, .ref b), (1, .ref (B 0)), (2, .ref (A 0)), (3, .ref (B 15)), (4, .int (Int32.ofNat i))]) X.1.1 X.1.2.1 dL_law_607 hl (by decide) rfl (fun ls hl => ?_)
  refine lv_aload_n X.1.1 X.1.2.1 dL_law_609 rfl (lv_at hl 3 rfl) ?_
  refine l_arg X.1.1 X.1.2.1 hw.2.2.1 hX hbl hbA hL (i := i) (kn := 1) (by omega) (lv_at hl 1 rfl) (lv_at hl 5 rfl) rfl dL_law_610 dL_law_611 dL_law_613 dL_law_614 dL_law_615 ?_
  refine l_arg X.1.1 X.1.2.1 hw.2.2.1 hX hbl hbA hL (i := i) (kn := 2) (by omega) (lv_at hl 1 rfl) (lv_at hl 5 rfl) rfl dL_law_616 dL_law_617 dL_law_619 dL_law_620 dL_law_621 ?_
  refine l_V2 (As := [.int (xs (i + 1)), .int (xs (i + 2))]) (rest := []) X hw (c_X9_span hz') (cwV 2 X.1.2.2.2.2 (guV um_L_87 ui_X9_span us_X9_span un_X9 uo_X9_span) rfl rfl rfl (by decide +kernel) ⟨Nat.le_of_ble_eq_true rfl, Nat.le_of_ble_eq_true rfl⟩) g2 (by decide) rfl rfl hl.1 rfl (Nat.le_of_ble_eq_true rfl) dL_law_622 f2 (fun H locs hw => ?_)
  refine lv_istore (lv' := (6, .int z'.1) :: (5, .int w.1) :: [(0, .ref b), (1, .ref (B 0)), (2, .ref (A 0)), (3, .ref (B 15)), (4, .int (Int32.ofNat i))]) X.1.1 X.1.2.1 dL_law_625 hl (by decide) rfl (fun ls hl => ?_)
  refine lv_aload_n X.1.1 X.1.2.1 dL_law_627 rfl (lv_at hl 4 rfl) ?_
  refine l_V2 (As := []) (rest := []) X hw (c_X9_thrown htn) (cwV 0 X.1.2.2.2.2 (guV um_L_88 ui_X9_thrown us_X9_thrown un_X9 uo_X9_thrown) rfl rfl rfl (by decide +kernel) ⟨Nat.le_of_ble_eq_true rfl, Nat.le_of_ble_eq_true rfl⟩) g2 (by decide) rfl rfl hl.1 rfl (Nat.le_of_ble_eq_true rfl) dL_law_628 f2 (fun H locs hw => ?_)
  refine lv_iload X.1.1 X.1.2.1 dL_law_631 (lv_at hl 1 rfl) ?_
  refine lv_icmp_eq (tgt := 638) X.1.1 X.1.2.1 dL_law_633 (by decide) (fun _ => ?_) (fun ne => absurd ht ne)
  refine lv_iload X.1.1 X.1.2.1 dL_law_638 (lv_at hl 1 rfl) ?_
  refine lv_if_ne (tgt := 655) X.1.1 X.1.2.1 dL_law_640 (by decide) (fun _ => ?_) (fun h0 => ?_)
  · refine lv_goto (tgt := 1588) X.1.1 X.1.2.1 dL_law_655 (by decide) ?_
    refine W.widen (k := cells + 147) (n := slots + 5438) (by omega) (by omega) ?_
    exact KK B pic h1 w.2 z'.2 H locs ls Vh hw rfl rfl (lv_sub hl [2, 3, 4, 5, 6] rfl)
  · refine lv_aload_n X.1.1 X.1.2.1 dL_law_643 rfl (lv_at hl 5 rfl) ?_
    refine lv_iconst (v := (0 : Int32)) X.1.1 X.1.2.1 dL_law_644 (by decide) ?_
    refine r_lald X hw.one go.1 (by rw [go.2]; decide) dL_law_645 ?_
    refine lv_iload X.1.1 X.1.2.1 dL_law_646 (lv_at hl 0 rfl) ?_
    refine lv_i2l X.1.1 X.1.2.1 dL_law_648 rfl ?_
    refine W.lcmp X.1.1 X.1.2.1 dL_law_649 ?_
    have hc : zJ w.2 (B 15) (0 : Int32).toNatClampNeg = z'.1.toInt64 := hq h0
    rw [hc]
    refine lv_if_eq (tgt := 655) X.1.1 X.1.2.1 dL_law_650 (by decide) (fun _ => ?_) (fun ne => absurd lcmp_self ne)
    refine lv_goto (tgt := 1588) X.1.1 X.1.2.1 dL_law_655 (by decide) ?_
    refine W.widen (k := cells + 147) (n := slots + 5438) (by omega) (by omega) ?_
    exact KK B pic h1 w.2 z'.2 H locs ls Vh hw rfl rfl (lv_sub hl [2, 3, 4, 5, 6] rfl)
set_option maxRecDepth 100000 in
theorem law_turn (hst : l.stackTraces = false) (X : Cx p s m #[Value.ref b] c cL_law 8 gtbl RL D cy G) (S : Scr s b L xs G) (hi : i + 6 ≤ L) (hf : cells + 147 ≤ 226454 ∧ slots + 5438 ≤ 8416744) (V : Inv h1 M1 h2 M2 B A pic) (hw : Wd2 D cy G s.heap h1 M1 h2 M2 H locs) (hl : lv_has ls 8 [(0, .ref b), (1, .ref (B 0)), (2, .ref (A 0)), (3, .ref (B 15)), (4, .int (Int32.ofNat i))])
    (KK : Nxt p l e s m below meth c Q D cy G b A h2 i cells slots (B 0) (B 15)) : W p l e room_1 s m #[Value.ref b] below meth c H locs cells slots Q (F0 m 658 ls []) := by
  have f0 : cells + 0 ≤ room_1.cells ∧ slots + 0 ≤ room_1.slots := ⟨by show cells + 0 ≤ 226454; omega, by show slots + 0 ≤ 8416744; omega⟩
  have g1 : ok h1 (B 0) 8 := V.1.2.1.1
  have g2 : ok h2 (A 0) 9 := V.2.1.1.1
  obtain ⟨hX, hbl, hbA, hL⟩ := S
  obtain ⟨z, hz, z', hz', V', hv⟩ := (t_turn V : SimT (f_X8_turn h1 (B 0) (xs (i + 1)) (xs (i + 2)) (xs (i + 3)) M1) (f_X9_turn h2 (A 0) (xs (i + 1)) (xs (i + 2)) (xs (i + 3)) M2) h1 h2 B A pic)
  have go := V.1.2.1.2.2.2.2.2.2.2.2.2.2.2
  obtain ⟨Vh, ht, hq⟩ := hI_use (o := B 15) V' hv
  have htn : f_X9_thrown h2 (A 0) z'.2 = some (zI z'.2 (A 0) 0) := by unfold f_X9_thrown; rw [gd, if_pos g2]
  have f1 : cells + 1 ≤ room_1.cells ∧ slots + 6 ≤ room_1.slots := ⟨by show cells + 1 ≤ 226454; omega, by show slots + 6 ≤ 8416744; omega⟩
  have f2 : cells + 1 + 0 ≤ room_1.cells ∧ slots + 6 + 0 ≤ room_1.slots := ⟨by show cells + 1 + 0 ≤ 226454; omega, by show slots + 6 + 0 ≤ 8416744; omega⟩
  refine lv_aload_n X.1.1 X.1.2.1 dL_law_658 rfl (lv_at hl 1 rfl) ?_
  refine l_arg X.1.1 X.1.2.1 hw.2.2.1 hX hbl hbA hL (i := i) (kn := 1) (by omega) (lv_at hl 0 rfl) (lv_at hl 4 rfl) rfl dL_law_659 dL_law_660 dL_law_662 dL_law_663 dL_law_664 ?_
  refine l_arg X.1.1 X.1.2.1 hw.2.2.1 hX hbl hbA hL (i := i) (kn := 2) (by omega) (lv_at hl 0 rfl) (lv_at hl 4 rfl) rfl dL_law_665 dL_law_666 dL_law_668 dL_law_669 dL_law_670 ?_
  refine l_arg X.1.1 X.1.2.1 hw.2.2.1 hX hbl hbA hL (i := i) (kn := 3) (by omega) (lv_at hl 0 rfl) (lv_at hl 4 rfl) rfl dL_law_671 dL_law_672 dL_law_674 dL_law_675 dL_law_676 ?_
  refine lv_aload_n X.1.1 X.1.2.1 dL_law_677 rfl (lv_at hl 3 rfl) ?_
  refine l_S1 (As := [.ref (B 0), .int (xs (i + 1)), .int (xs (i + 2)), .int (xs (i + 3)), .ref (B 15)]) (rest := []) X hw (c_L_turn hst g1 go.1 go.2 hz) (vx_cwSW 5 X.1.2.2.2.2 (guSW um_L_92 ut_L_turn un_L uo_L_turn) rfl rfl rfl (by decide +kernel) ⟨Nat.le_of_ble_eq_true rfl, Nat.le_of_ble_eq_true rfl⟩) rfl hl.1 rfl (Nat.le_of_ble_eq_true rfl) dL_law_678 f1 (fun H locs hw => ?_)
  generalize hI (B 15) z = w at hw Vh ht hq ⊢
  refine lv_istore (lv' := (5, .int w.1) :: [(0, .ref b), (1, .ref (B 0)), (2, .ref (A 0)), (3, .ref (B 15)), (4, .int (Int32.ofNat i))]) X.1.1 X.1.2.1 dL_law_681 hl (by decide) rfl (fun ls hl => ?_)
  refine lv_aload_n X.1.1 X.1.2.1 dL_law_683 rfl (lv_at hl 3 rfl) ?_
  refine l_arg X.1.1 X.1.2.1 hw.2.2.1 hX hbl hbA hL (i := i) (kn := 1) (by omega) (lv_at hl 1 rfl) (lv_at hl 5 rfl) rfl dL_law_684 dL_law_685 dL_law_687 dL_law_688 dL_law_689 ?_
  refine l_arg X.1.1 X.1.2.1 hw.2.2.1 hX hbl hbA hL (i := i) (kn := 2) (by omega) (lv_at hl 1 rfl) (lv_at hl 5 rfl) rfl dL_law_690 dL_law_691 dL_law_693 dL_law_694 dL_law_695 ?_
  refine l_arg X.1.1 X.1.2.1 hw.2.2.1 hX hbl hbA hL (i := i) (kn := 3) (by omega) (lv_at hl 1 rfl) (lv_at hl 5 rfl) rfl dL_law_696 dL_law_697 dL_law_699 dL_law_700 dL_law_701 ?_
  refine l_V2 (As := [.int (xs (i + 1)), .int (xs (i + 2)), .int (xs (i + 3))]) (rest := []) X hw (c_X9_turn hz') (cwV 3 X.1.2.2.2.2 (guV um_L_95 ui_X9_turn us_X9_turn un_X9 uo_X9_turn) rfl rfl rfl (by decide +kernel) ⟨Nat.le_of_ble_eq_true rfl, Nat.le_of_ble_eq_true rfl⟩) g2 (by decide) rfl rfl hl.1 rfl (Nat.le_of_ble_eq_true rfl) dL_law_702 f2 (fun H locs hw => ?_)
  refine lv_istore (lv' := (6, .int z'.1) :: (5, .int w.1) :: [(0, .ref b), (1, .ref (B 0)), (2, .ref (A 0)), (3, .ref (B 15)), (4, .int (Int32.ofNat i))]) X.1.1 X.1.2.1 dL_law_705 hl (by decide) rfl (fun ls hl => ?_)
  refine lv_aload_n X.1.1 X.1.2.1 dL_law_707 rfl (lv_at hl 4 rfl) ?_
  refine l_V2 (As := []) (rest := []) X hw (c_X9_thrown htn) (cwV 0 X.1.2.2.2.2 (guV um_L_88 ui_X9_thrown us_X9_thrown un_X9 uo_X9_thrown) rfl rfl rfl (by decide +kernel) ⟨Nat.le_of_ble_eq_true rfl, Nat.le_of_ble_eq_true rfl⟩) g2 (by decide) rfl rfl hl.1 rfl (Nat.le_of_ble_eq_true rfl) dL_law_708 f2 (fun H locs hw => ?_)
  refine lv_iload X.1.1 X.1.2.1 dL_law_711 (lv_at hl 1 rfl) ?_
  refine lv_icmp_eq (tgt := 718) X.1.1 X.1.2.1 dL_law_713 (by decide) (fun _ => ?_) (fun ne => absurd ht ne)
  refine lv_iload X.1.1 X.1.2.1 dL_law_718 (lv_at hl 1 rfl) ?_
  refine lv_if_ne (tgt := 735) X.1.1 X.1.2.1 dL_law_720 (by decide) (fun _ => ?_) (fun h0 => ?_)
  · refine lv_goto (tgt := 1588) X.1.1 X.1.2.1 dL_law_735 (by decide) ?_
    refine W.widen (k := cells + 147) (n := slots + 5438) (by omega) (by omega) ?_
    exact KK B pic h1 w.2 z'.2 H locs ls Vh hw rfl rfl (lv_sub hl [2, 3, 4, 5, 6] rfl)
  · refine lv_aload_n X.1.1 X.1.2.1 dL_law_723 rfl (lv_at hl 5 rfl) ?_
    refine lv_iconst (v := (0 : Int32)) X.1.1 X.1.2.1 dL_law_724 (by decide) ?_
    refine r_lald X hw.one go.1 (by rw [go.2]; decide) dL_law_725 ?_
    refine lv_iload X.1.1 X.1.2.1 dL_law_726 (lv_at hl 0 rfl) ?_
    refine lv_i2l X.1.1 X.1.2.1 dL_law_728 rfl ?_
    refine W.lcmp X.1.1 X.1.2.1 dL_law_729 ?_
    have hc : zJ w.2 (B 15) (0 : Int32).toNatClampNeg = z'.1.toInt64 := hq h0
    rw [hc]
    refine lv_if_eq (tgt := 735) X.1.1 X.1.2.1 dL_law_730 (by decide) (fun _ => ?_) (fun ne => absurd lcmp_self ne)
    refine lv_goto (tgt := 1588) X.1.1 X.1.2.1 dL_law_735 (by decide) ?_
    refine W.widen (k := cells + 147) (n := slots + 5438) (by omega) (by omega) ?_
    exact KK B pic h1 w.2 z'.2 H locs ls Vh hw rfl rfl (lv_sub hl [2, 3, 4, 5, 6] rfl)
set_option maxRecDepth 100000 in
theorem law_cycle (hst : l.stackTraces = false) (X : Cx p s m #[Value.ref b] c cL_law 8 gtbl RL D cy G) (S : Scr s b L xs G) (hi : i + 6 ≤ L) (hf : cells + 147 ≤ 226454 ∧ slots + 5438 ≤ 8416744) (V : Inv h1 M1 h2 M2 B A pic) (hw : Wd2 D cy G s.heap h1 M1 h2 M2 H locs) (hl : lv_has ls 8 [(0, .ref b), (1, .ref (B 0)), (2, .ref (A 0)), (3, .ref (B 15)), (4, .int (Int32.ofNat i))])
    (KK : Nxt p l e s m below meth c Q D cy G b A h2 i cells slots (B 0) (B 15)) : W p l e room_1 s m #[Value.ref b] below meth c H locs cells slots Q (F0 m 738 ls []) := by
  have f0 : cells + 0 ≤ room_1.cells ∧ slots + 0 ≤ room_1.slots := ⟨by show cells + 0 ≤ 226454; omega, by show slots + 0 ≤ 8416744; omega⟩
  have g1 : ok h1 (B 0) 8 := V.1.2.1.1
  have g2 : ok h2 (A 0) 9 := V.2.1.1.1
  obtain ⟨hX, hbl, hbA, hL⟩ := S
  obtain ⟨z, hz, z', hz', V', hv⟩ := (t_cycle V : SimT (f_X8_cycle h1 (B 0) (xs (i + 1)) (xs (i + 2)) (xs (i + 3)) M1) (f_X9_cycle h2 (A 0) (xs (i + 1)) (xs (i + 2)) (xs (i + 3)) M2) h1 h2 B A pic)
  have go := V.1.2.1.2.2.2.2.2.2.2.2.2.2.2
  obtain ⟨Vh, ht, hq⟩ := hI_use (o := B 15) V' hv
  have htn : f_X9_thrown h2 (A 0) z'.2 = some (zI z'.2 (A 0) 0) := by unfold f_X9_thrown; rw [gd, if_pos g2]
  have f1 : cells + 1 ≤ room_1.cells ∧ slots + 6 ≤ room_1.slots := ⟨by show cells + 1 ≤ 226454; omega, by show slots + 6 ≤ 8416744; omega⟩
  have f2 : cells + 1 + 0 ≤ room_1.cells ∧ slots + 6 + 0 ≤ room_1.slots := ⟨by show cells + 1 + 0 ≤ 226454; omega, by show slots + 6 + 0 ≤ 8416744; omega⟩
  refine lv_aload_n X.1.1 X.1.2.1 dL_law_738 rfl (lv_at hl 1 rfl) ?_
  refine l_arg X.1.1 X.1.2.1 hw.2.2.1 hX hbl hbA hL (i := i) (kn := 1) (by omega) (lv_at hl 0 rfl) (lv_at hl 4 rfl) rfl dL_law_739 dL_law_740 dL_law_742 dL_law_743 dL_law_744 ?_
  refine l_arg X.1.1 X.1.2.1 hw.2.2.1 hX hbl hbA hL (i := i) (kn := 2) (by omega) (lv_at hl 0 rfl) (lv_at hl 4 rfl) rfl dL_law_745 dL_law_746 dL_law_748 dL_law_749 dL_law_750 ?_
  refine l_arg X.1.1 X.1.2.1 hw.2.2.1 hX hbl hbA hL (i := i) (kn := 3) (by omega) (lv_at hl 0 rfl) (lv_at hl 4 rfl) rfl dL_law_751 dL_law_752 dL_law_754 dL_law_755 dL_law_756 ?_
  refine lv_aload_n X.1.1 X.1.2.1 dL_law_757 rfl (lv_at hl 3 rfl) ?_
  refine l_S1 (As := [.ref (B 0), .int (xs (i + 1)), .int (xs (i + 2)), .int (xs (i + 3)), .ref (B 15)]) (rest := []) X hw (c_L_cycle hst g1 go.1 go.2 hz) (vx_cwSW 5 X.1.2.2.2.2 (guSW um_L_96 ut_L_cycle un_L uo_L_cycle) rfl rfl rfl (by decide +kernel) ⟨Nat.le_of_ble_eq_true rfl, Nat.le_of_ble_eq_true rfl⟩) rfl hl.1 rfl (Nat.le_of_ble_eq_true rfl) dL_law_758 f1 (fun H locs hw => ?_)
  generalize hI (B 15) z = w at hw Vh ht hq ⊢
  refine lv_istore (lv' := (5, .int w.1) :: [(0, .ref b), (1, .ref (B 0)), (2, .ref (A 0)), (3, .ref (B 15)), (4, .int (Int32.ofNat i))]) X.1.1 X.1.2.1 dL_law_761 hl (by decide) rfl (fun ls hl => ?_)
  refine lv_aload_n X.1.1 X.1.2.1 dL_law_763 rfl (lv_at hl 3 rfl) ?_
  refine l_arg X.1.1 X.1.2.1 hw.2.2.1 hX hbl hbA hL (i := i) (kn := 1) (by omega) (lv_at hl 1 rfl) (lv_at hl 5 rfl) rfl dL_law_764 dL_law_765 dL_law_767 dL_law_768 dL_law_769 ?_
  refine l_arg X.1.1 X.1.2.1 hw.2.2.1 hX hbl hbA hL (i := i) (kn := 2) (by omega) (lv_at hl 1 rfl) (lv_at hl 5 rfl) rfl dL_law_770 dL_law_771 dL_law_773 dL_law_774 dL_law_775 ?_
  refine l_arg X.1.1 X.1.2.1 hw.2.2.1 hX hbl hbA hL (i := i) (kn := 3) (by omega) (lv_at hl 1 rfl) (lv_at hl 5 rfl) rfl dL_law_776 dL_law_777 dL_law_779 dL_law_780 dL_law_781 ?_
  refine l_V2 (As := [.int (xs (i + 1)), .int (xs (i + 2)), .int (xs (i + 3))]) (rest := []) X hw (c_X9_cycle hz') (cwV 3 X.1.2.2.2.2 (guV um_L_98 ui_X9_cycle us_X9_cycle un_X9 uo_X9_cycle) rfl rfl rfl (by decide +kernel) ⟨Nat.le_of_ble_eq_true rfl, Nat.le_of_ble_eq_true rfl⟩) g2 (by decide) rfl rfl hl.1 rfl (Nat.le_of_ble_eq_true rfl) dL_law_782 f2 (fun H locs hw => ?_)
  refine lv_istore (lv' := (6, .int z'.1) :: (5, .int w.1) :: [(0, .ref b), (1, .ref (B 0)), (2, .ref (A 0)), (3, .ref (B 15)), (4, .int (Int32.ofNat i))]) X.1.1 X.1.2.1 dL_law_785 hl (by decide) rfl (fun ls hl => ?_)
  refine lv_aload_n X.1.1 X.1.2.1 dL_law_787 rfl (lv_at hl 4 rfl) ?_
  refine l_V2 (As := []) (rest := []) X hw (c_X9_thrown htn) (cwV 0 X.1.2.2.2.2 (guV um_L_88 ui_X9_thrown us_X9_thrown un_X9 uo_X9_thrown) rfl rfl rfl (by decide +kernel) ⟨Nat.le_of_ble_eq_true rfl, Nat.le_of_ble_eq_true rfl⟩) g2 (by decide) rfl rfl hl.1 rfl (Nat.le_of_ble_eq_true rfl) dL_law_788 f2 (fun H locs hw => ?_)
  refine lv_iload X.1.1 X.1.2.1 dL_law_791 (lv_at hl 1 rfl) ?_
  refine lv_icmp_eq (tgt := 798) X.1.1 X.1.2.1 dL_law_793 (by decide) (fun _ => ?_) (fun ne => absurd ht ne)
  refine lv_iload X.1.1 X.1.2.1 dL_law_798 (lv_at hl 1 rfl) ?_
  refine lv_if_ne (tgt := 815) X.1.1 X.1.2.1 dL_law_800 (by decide) (fun _ => ?_) (fun h0 => ?_)
  · refine lv_goto (tgt := 1588) X.1.1 X.1.2.1 dL_law_815 (by decide) ?_
    refine W.widen (k := cells + 147) (n := slots + 5438) (by omega) (by omega) ?_
    exact KK B pic h1 w.2 z'.2 H locs ls Vh hw rfl rfl (lv_sub hl [2, 3, 4, 5, 6] rfl)
  · refine lv_aload_n X.1.1 X.1.2.1 dL_law_803 rfl (lv_at hl 5 rfl) ?_
    refine lv_iconst (v := (0 : Int32)) X.1.1 X.1.2.1 dL_law_804 (by decide) ?_
    refine r_lald X hw.one go.1 (by rw [go.2]; decide) dL_law_805 ?_
    refine lv_iload X.1.1 X.1.2.1 dL_law_806 (lv_at hl 0 rfl) ?_
    refine lv_i2l X.1.1 X.1.2.1 dL_law_808 rfl ?_
    refine W.lcmp X.1.1 X.1.2.1 dL_law_809 ?_
    have hc : zJ w.2 (B 15) (0 : Int32).toNatClampNeg = z'.1.toInt64 := hq h0
    rw [hc]
    refine lv_if_eq (tgt := 815) X.1.1 X.1.2.1 dL_law_810 (by decide) (fun _ => ?_) (fun ne => absurd lcmp_self ne)
    refine lv_goto (tgt := 1588) X.1.1 X.1.2.1 dL_law_815 (by decide) ?_
    refine W.widen (k := cells + 147) (n := slots + 5438) (by omega) (by omega) ?_
    exact KK B pic h1 w.2 z'.2 H locs ls Vh hw rfl rfl (lv_sub hl [2, 3, 4, 5, 6] rfl)
set_option maxRecDepth 100000 in
theorem law_damage (hst : l.stackTraces = false) (X : Cx p s m #[Value.ref b] c cL_law 8 gtbl RL D cy G) (S : Scr s b L xs G) (hi : i + 6 ≤ L) (hf : cells + 147 ≤ 226454 ∧ slots + 5438 ≤ 8416744) (V : Inv h1 M1 h2 M2 B A pic) (hw : Wd2 D cy G s.heap h1 M1 h2 M2 H locs) (hl : lv_has ls 8 [(0, .ref b), (1, .ref (B 0)), (2, .ref (A 0)), (3, .ref (B 15)), (4, .int (Int32.ofNat i))])
    (KK : Nxt p l e s m below meth c Q D cy G b A h2 i cells slots (B 0) (B 15)) : W p l e room_1 s m #[Value.ref b] below meth c H locs cells slots Q (F0 m 1175 ls []) := by
  have f0 : cells + 0 ≤ room_1.cells ∧ slots + 0 ≤ room_1.slots := ⟨by show cells + 0 ≤ 226454; omega, by show slots + 0 ≤ 8416744; omega⟩
  have g1 : ok h1 (B 0) 8 := V.1.2.1.1
  have g2 : ok h2 (A 0) 9 := V.2.1.1.1
  obtain ⟨hX, hbl, hbA, hL⟩ := S
  obtain ⟨z, hz, z', hz', V', hv⟩ := (t_damage V : SimTJ (f_X8_damage h1 (B 0) (xs (i + 1)) (xs (i + 2)) (xs (i + 3)) M1) (f_X9_damage h2 (A 0) (xs (i + 1)) (xs (i + 2)) (xs (i + 3)) M2) h1 h2 B A pic)
  have go := V.1.2.1.2.2.2.2.2.2.2.2.2.2.2
  obtain ⟨Vh, ht, hq⟩ := hJ_use (o := B 15) V' hv
  have htn : f_X9_thrown h2 (A 0) z'.2 = some (zI z'.2 (A 0) 0) := by unfold f_X9_thrown; rw [gd, if_pos g2]
  have f1 : cells + 1 ≤ room_1.cells ∧ slots + 6 ≤ room_1.slots := ⟨by show cells + 1 ≤ 226454; omega, by show slots + 6 ≤ 8416744; omega⟩
  have f2 : cells + 1 + 0 ≤ room_1.cells ∧ slots + 6 + 0 ≤ room_1.slots := ⟨by show cells + 1 + 0 ≤ 226454; omega, by show slots + 6 + 0 ≤ 8416744; omega⟩
  refine lv_aload_n X.1.1 X.1.2.1 dL_law_1175 rfl (lv_at hl 1 rfl) ?_
  refine l_arg X.1.1 X.1.2.1 hw.2.2.1 hX hbl hbA hL (i := i) (kn := 1) (by omega) (lv_at hl 0 rfl) (lv_at hl 4 rfl) rfl dL_law_1176 dL_law_1177 dL_law_1179 dL_law_1180 dL_law_1181 ?_
  refine l_arg X.1.1 X.1.2.1 hw.2.2.1 hX hbl hbA hL (i := i) (kn := 2) (by omega) (lv_at hl 0 rfl) (lv_at hl 4 rfl) rfl dL_law_1182 dL_law_1183 dL_law_1185 dL_law_1186 dL_law_1187 ?_
  refine l_arg X.1.1 X.1.2.1 hw.2.2.1 hX hbl hbA hL (i := i) (kn := 3) (by omega) (lv_at hl 0 rfl) (lv_at hl 4 rfl) rfl dL_law_1188 dL_law_1189 dL_law_1191 dL_law_1192 dL_law_1193 ?_
  refine lv_aload_n X.1.1 X.1.2.1 dL_law_1194 rfl (lv_at hl 3 rfl) ?_
  refine l_S1 (As := [.ref (B 0), .int (xs (i + 1)), .int (xs (i + 2)), .int (xs (i + 3)), .ref (B 15)]) (rest := []) X hw (c_L_damage hst g1 go.1 go.2 hz) (vx_cwSW 5 X.1.2.2.2.2 (guSW um_L_136 ut_L_damage un_L uo_L_damage) rfl rfl rfl (by decide +kernel) ⟨Nat.le_of_ble_eq_true rfl, Nat.le_of_ble_eq_true rfl⟩) rfl hl.1 rfl (Nat.le_of_ble_eq_true rfl) dL_law_1195 f1 (fun H locs hw => ?_)
  generalize hJ (B 15) z = w at hw Vh ht hq ⊢
  refine lv_istore (lv' := (5, .int w.1) :: [(0, .ref b), (1, .ref (B 0)), (2, .ref (A 0)), (3, .ref (B 15)), (4, .int (Int32.ofNat i))]) X.1.1 X.1.2.1 dL_law_1198 hl (by decide) rfl (fun ls hl => ?_)
  refine lv_aload_n X.1.1 X.1.2.1 dL_law_1200 rfl (lv_at hl 3 rfl) ?_
  refine l_arg X.1.1 X.1.2.1 hw.2.2.1 hX hbl hbA hL (i := i) (kn := 1) (by omega) (lv_at hl 1 rfl) (lv_at hl 5 rfl) rfl dL_law_1201 dL_law_1202 dL_law_1204 dL_law_1205 dL_law_1206 ?_
  refine l_arg X.1.1 X.1.2.1 hw.2.2.1 hX hbl hbA hL (i := i) (kn := 2) (by omega) (lv_at hl 1 rfl) (lv_at hl 5 rfl) rfl dL_law_1207 dL_law_1208 dL_law_1210 dL_law_1211 dL_law_1212 ?_
  refine l_arg X.1.1 X.1.2.1 hw.2.2.1 hX hbl hbA hL (i := i) (kn := 3) (by omega) (lv_at hl 1 rfl) (lv_at hl 5 rfl) rfl dL_law_1213 dL_law_1214 dL_law_1216 dL_law_1217 dL_law_1218 ?_
  refine l_V2L (As := [.int (xs (i + 1)), .int (xs (i + 2)), .int (xs (i + 3))]) (rest := []) X hw (c_X9_damage hz') (cwV 3 X.1.2.2.2.2 (guV um_L_138 ui_X9_damage us_X9_damage un_X9 uo_X9_damage) rfl rfl rfl (by decide +kernel) ⟨Nat.le_of_ble_eq_true rfl, Nat.le_of_ble_eq_true rfl⟩) g2 (by decide) rfl rfl hl.1 rfl (Nat.le_of_ble_eq_true rfl) dL_law_1219 f2 (fun H locs hw => ?_)
  refine lv_lstore (lv' := (6, .long z'.1) :: (5, .int w.1) :: [(0, .ref b), (1, .ref (B 0)), (2, .ref (A 0)), (3, .ref (B 15)), (4, .int (Int32.ofNat i))]) X.1.1 X.1.2.1 dL_law_1222 hl (by decide) rfl (fun ls hl => ?_)
  refine lv_aload_n X.1.1 X.1.2.1 dL_law_1224 rfl (lv_at hl 4 rfl) ?_
  refine l_V2 (As := []) (rest := []) X hw (c_X9_thrown htn) (cwV 0 X.1.2.2.2.2 (guV um_L_88 ui_X9_thrown us_X9_thrown un_X9 uo_X9_thrown) rfl rfl rfl (by decide +kernel) ⟨Nat.le_of_ble_eq_true rfl, Nat.le_of_ble_eq_true rfl⟩) g2 (by decide) rfl rfl hl.1 rfl (Nat.le_of_ble_eq_true rfl) dL_law_1225 f2 (fun H locs hw => ?_)
  refine lv_iload X.1.1 X.1.2.1 dL_law_1228 (lv_at hl 1 rfl) ?_
  refine lv_icmp_eq (tgt := 1235) X.1.1 X.1.2.1 dL_law_1230 (by decide) (fun _ => ?_) (fun ne => absurd ht ne)
  refine lv_iload X.1.1 X.1.2.1 dL_law_1235 (lv_at hl 1 rfl) ?_
  refine lv_if_ne (tgt := 1251) X.1.1 X.1.2.1 dL_law_1237 (by decide) (fun _ => ?_) (fun h0 => ?_)
  · refine lv_goto (tgt := 1588) X.1.1 X.1.2.1 dL_law_1251 (by decide) ?_
    refine W.widen (k := cells + 147) (n := slots + 5438) (by omega) (by omega) ?_
    exact KK B pic h1 w.2 z'.2 H locs ls Vh hw rfl rfl (lv_sub hl [2, 3, 4, 5, 6] rfl)
  · refine lv_aload_n X.1.1 X.1.2.1 dL_law_1240 rfl (lv_at hl 5 rfl) ?_
    refine lv_iconst (v := (0 : Int32)) X.1.1 X.1.2.1 dL_law_1241 (by decide) ?_
    refine r_lald X hw.one go.1 (by rw [go.2]; decide) dL_law_1242 ?_
    refine lv_lload X.1.1 X.1.2.1 dL_law_1243 (lv_at hl 0 rfl) ?_
    refine W.lcmp X.1.1 X.1.2.1 dL_law_1245 ?_
    have hc : zJ w.2 (B 15) (0 : Int32).toNatClampNeg = z'.1 := hq h0
    rw [hc]
    refine lv_if_eq (tgt := 1251) X.1.1 X.1.2.1 dL_law_1246 (by decide) (fun _ => ?_) (fun ne => absurd lcmp_self ne)
    refine lv_goto (tgt := 1588) X.1.1 X.1.2.1 dL_law_1251 (by decide) ?_
    refine W.widen (k := cells + 147) (n := slots + 5438) (by omega) (by omega) ?_
    exact KK B pic h1 w.2 z'.2 H locs ls Vh hw rfl rfl (lv_sub hl [2, 3, 4, 5, 6] rfl)
set_option maxRecDepth 100000 in
theorem law_part (hst : l.stackTraces = false) (X : Cx p s m #[Value.ref b] c cL_law 8 gtbl RL D cy G) (S : Scr s b L xs G) (hi : i + 6 ≤ L) (hf : cells + 147 ≤ 226454 ∧ slots + 5438 ≤ 8416744) (V : Inv h1 M1 h2 M2 B A pic) (hw : Wd2 D cy G s.heap h1 M1 h2 M2 H locs) (hl : lv_has ls 8 [(0, .ref b), (1, .ref (B 0)), (2, .ref (A 0)), (3, .ref (B 15)), (4, .int (Int32.ofNat i))])
    (KK : Nxt p l e s m below meth c Q D cy G b A h2 i cells slots (B 0) (B 15)) : W p l e room_1 s m #[Value.ref b] below meth c H locs cells slots Q (F0 m 1254 ls []) := by
  have f0 : cells + 0 ≤ room_1.cells ∧ slots + 0 ≤ room_1.slots := ⟨by show cells + 0 ≤ 226454; omega, by show slots + 0 ≤ 8416744; omega⟩
  have g1 : ok h1 (B 0) 8 := V.1.2.1.1
  have g2 : ok h2 (A 0) 9 := V.2.1.1.1
  obtain ⟨hX, hbl, hbA, hL⟩ := S
  obtain ⟨z, hz, z', hz', V', hv⟩ := (t_part V : SimTJ (f_X8_part h1 (B 0) (xs (i + 1)) (xs (i + 2)) M1) (f_X9_part h2 (A 0) (xs (i + 1)) (xs (i + 2)) M2) h1 h2 B A pic)
  have go := V.1.2.1.2.2.2.2.2.2.2.2.2.2.2
  obtain ⟨Vh, ht, hq⟩ := hJ_use (o := B 15) V' hv
  have htn : f_X9_thrown h2 (A 0) z'.2 = some (zI z'.2 (A 0) 0) := by unfold f_X9_thrown; rw [gd, if_pos g2]
  have f1 : cells + 1 ≤ room_1.cells ∧ slots + 6 ≤ room_1.slots := ⟨by show cells + 1 ≤ 226454; omega, by show slots + 6 ≤ 8416744; omega⟩
  have f2 : cells + 1 + 0 ≤ room_1.cells ∧ slots + 6 + 0 ≤ room_1.slots := ⟨by show cells + 1 + 0 ≤ 226454; omega, by show slots + 6 + 0 ≤ 8416744; omega⟩
  refine lv_aload_n X.1.1 X.1.2.1 dL_law_1254 rfl (lv_at hl 1 rfl) ?_
  refine l_arg X.1.1 X.1.2.1 hw.2.2.1 hX hbl hbA hL (i := i) (kn := 1) (by omega) (lv_at hl 0 rfl) (lv_at hl 4 rfl) rfl dL_law_1255 dL_law_1256 dL_law_1258 dL_law_1259 dL_law_1260 ?_
  refine l_arg X.1.1 X.1.2.1 hw.2.2.1 hX hbl hbA hL (i := i) (kn := 2) (by omega) (lv_at hl 0 rfl) (lv_at hl 4 rfl) rfl dL_law_1261 dL_law_1262 dL_law_1264 dL_law_1265 dL_law_1266 ?_
  refine lv_aload_n X.1.1 X.1.2.1 dL_law_1267 rfl (lv_at hl 3 rfl) ?_
  refine l_S1 (As := [.ref (B 0), .int (xs (i + 1)), .int (xs (i + 2)), .ref (B 15)]) (rest := []) X hw (c_L_part hst g1 go.1 go.2 hz) (vx_cwSW 4 X.1.2.2.2.2 (guSW um_L_139 ut_L_part un_L uo_L_part) rfl rfl rfl (by decide +kernel) ⟨Nat.le_of_ble_eq_true rfl, Nat.le_of_ble_eq_true rfl⟩) rfl hl.1 rfl (Nat.le_of_ble_eq_true rfl) dL_law_1268 f1 (fun H locs hw => ?_)
  generalize hJ (B 15) z = w at hw Vh ht hq ⊢
  refine lv_istore (lv' := (5, .int w.1) :: [(0, .ref b), (1, .ref (B 0)), (2, .ref (A 0)), (3, .ref (B 15)), (4, .int (Int32.ofNat i))]) X.1.1 X.1.2.1 dL_law_1271 hl (by decide) rfl (fun ls hl => ?_)
  refine lv_aload_n X.1.1 X.1.2.1 dL_law_1273 rfl (lv_at hl 3 rfl) ?_
  refine l_arg X.1.1 X.1.2.1 hw.2.2.1 hX hbl hbA hL (i := i) (kn := 1) (by omega) (lv_at hl 1 rfl) (lv_at hl 5 rfl) rfl dL_law_1274 dL_law_1275 dL_law_1277 dL_law_1278 dL_law_1279 ?_
  refine l_arg X.1.1 X.1.2.1 hw.2.2.1 hX hbl hbA hL (i := i) (kn := 2) (by omega) (lv_at hl 1 rfl) (lv_at hl 5 rfl) rfl dL_law_1280 dL_law_1281 dL_law_1283 dL_law_1284 dL_law_1285 ?_
  refine l_V2L (As := [.int (xs (i + 1)), .int (xs (i + 2))]) (rest := []) X hw (c_X9_part hz') (cwV 2 X.1.2.2.2.2 (guV um_L_141 ui_X9_part us_X9_part un_X9 uo_X9_part) rfl rfl rfl (by decide +kernel) ⟨Nat.le_of_ble_eq_true rfl, Nat.le_of_ble_eq_true rfl⟩) g2 (by decide) rfl rfl hl.1 rfl (Nat.le_of_ble_eq_true rfl) dL_law_1286 f2 (fun H locs hw => ?_)
  refine lv_lstore (lv' := (6, .long z'.1) :: (5, .int w.1) :: [(0, .ref b), (1, .ref (B 0)), (2, .ref (A 0)), (3, .ref (B 15)), (4, .int (Int32.ofNat i))]) X.1.1 X.1.2.1 dL_law_1289 hl (by decide) rfl (fun ls hl => ?_)
  refine lv_aload_n X.1.1 X.1.2.1 dL_law_1291 rfl (lv_at hl 4 rfl) ?_
  refine l_V2 (As := []) (rest := []) X hw (c_X9_thrown htn) (cwV 0 X.1.2.2.2.2 (guV um_L_88 ui_X9_thrown us_X9_thrown un_X9 uo_X9_thrown) rfl rfl rfl (by decide +kernel) ⟨Nat.le_of_ble_eq_true rfl, Nat.le_of_ble_eq_true rfl⟩) g2 (by decide) rfl rfl hl.1 rfl (Nat.le_of_ble_eq_true rfl) dL_law_1292 f2 (fun H locs hw => ?_)
  refine lv_iload X.1.1 X.1.2.1 dL_law_1295 (lv_at hl 1 rfl) ?_
  refine lv_icmp_eq (tgt := 1302) X.1.1 X.1.2.1 dL_law_1297 (by decide) (fun _ => ?_) (fun ne => absurd ht ne)
  refine lv_iload X.1.1 X.1.2.1 dL_law_1302 (lv_at hl 1 rfl) ?_
  refine lv_if_ne (tgt := 1318) X.1.1 X.1.2.1 dL_law_1304 (by decide) (fun _ => ?_) (fun h0 => ?_)
  · refine lv_goto (tgt := 1588) X.1.1 X.1.2.1 dL_law_1318 (by decide) ?_
    refine W.widen (k := cells + 147) (n := slots + 5438) (by omega) (by omega) ?_
    exact KK B pic h1 w.2 z'.2 H locs ls Vh hw rfl rfl (lv_sub hl [2, 3, 4, 5, 6] rfl)
  · refine lv_aload_n X.1.1 X.1.2.1 dL_law_1307 rfl (lv_at hl 5 rfl) ?_
    refine lv_iconst (v := (0 : Int32)) X.1.1 X.1.2.1 dL_law_1308 (by decide) ?_
    refine r_lald X hw.one go.1 (by rw [go.2]; decide) dL_law_1309 ?_
    refine lv_lload X.1.1 X.1.2.1 dL_law_1310 (lv_at hl 0 rfl) ?_
    refine W.lcmp X.1.1 X.1.2.1 dL_law_1312 ?_
    have hc : zJ w.2 (B 15) (0 : Int32).toNatClampNeg = z'.1 := hq h0
    rw [hc]
    refine lv_if_eq (tgt := 1318) X.1.1 X.1.2.1 dL_law_1313 (by decide) (fun _ => ?_) (fun ne => absurd lcmp_self ne)
    refine lv_goto (tgt := 1588) X.1.1 X.1.2.1 dL_law_1318 (by decide) ?_
    refine W.widen (k := cells + 147) (n := slots + 5438) (by omega) (by omega) ?_
    exact KK B pic h1 w.2 z'.2 H locs ls Vh hw rfl rfl (lv_sub hl [2, 3, 4, 5, 6] rfl)
set_option maxRecDepth 100000 in
theorem law_parts (hst : l.stackTraces = false) (X : Cx p s m #[Value.ref b] c cL_law 8 gtbl RL D cy G) (S : Scr s b L xs G) (hi : i + 6 ≤ L) (hf : cells + 147 ≤ 226454 ∧ slots + 5438 ≤ 8416744) (V : Inv h1 M1 h2 M2 B A pic) (hw : Wd2 D cy G s.heap h1 M1 h2 M2 H locs) (hl : lv_has ls 8 [(0, .ref b), (1, .ref (B 0)), (2, .ref (A 0)), (3, .ref (B 15)), (4, .int (Int32.ofNat i))])
    (KK : Nxt p l e s m below meth c Q D cy G b A h2 i cells slots (B 0) (B 15)) : W p l e room_1 s m #[Value.ref b] below meth c H locs cells slots Q (F0 m 1321 ls []) := by
  have f0 : cells + 0 ≤ room_1.cells ∧ slots + 0 ≤ room_1.slots := ⟨by show cells + 0 ≤ 226454; omega, by show slots + 0 ≤ 8416744; omega⟩
  have g1 : ok h1 (B 0) 8 := V.1.2.1.1
  have g2 : ok h2 (A 0) 9 := V.2.1.1.1
  obtain ⟨hX, hbl, hbA, hL⟩ := S
  obtain ⟨z, hz, z', hz', V', hv⟩ := (t_parts V : SimT (f_X8_parts h1 (B 0) (xs (i + 1)) (xs (i + 2)) M1) (f_X9_parts h2 (A 0) (xs (i + 1)) (xs (i + 2)) M2) h1 h2 B A pic)
  have go := V.1.2.1.2.2.2.2.2.2.2.2.2.2.2
  obtain ⟨Vh, ht, hq⟩ := hI_use (o := B 15) V' hv
  have htn : f_X9_thrown h2 (A 0) z'.2 = some (zI z'.2 (A 0) 0) := by unfold f_X9_thrown; rw [gd, if_pos g2]
  have f1 : cells + 1 ≤ room_1.cells ∧ slots + 6 ≤ room_1.slots := ⟨by show cells + 1 ≤ 226454; omega, by show slots + 6 ≤ 8416744; omega⟩
  have f2 : cells + 1 + 0 ≤ room_1.cells ∧ slots + 6 + 0 ≤ room_1.slots := ⟨by show cells + 1 + 0 ≤ 226454; omega, by show slots + 6 + 0 ≤ 8416744; omega⟩
  refine lv_aload_n X.1.1 X.1.2.1 dL_law_1321 rfl (lv_at hl 1 rfl) ?_
  refine l_arg X.1.1 X.1.2.1 hw.2.2.1 hX hbl hbA hL (i := i) (kn := 1) (by omega) (lv_at hl 0 rfl) (lv_at hl 4 rfl) rfl dL_law_1322 dL_law_1323 dL_law_1325 dL_law_1326 dL_law_1327 ?_
  refine l_arg X.1.1 X.1.2.1 hw.2.2.1 hX hbl hbA hL (i := i) (kn := 2) (by omega) (lv_at hl 0 rfl) (lv_at hl 4 rfl) rfl dL_law_1328 dL_law_1329 dL_law_1331 dL_law_1332 dL_law_1333 ?_
  refine lv_aload_n X.1.1 X.1.2.1 dL_law_1334 rfl (lv_at hl 3 rfl) ?_
  refine l_S1 (As := [.ref (B 0), .int (xs (i + 1)), .int (xs (i + 2)), .ref (B 15)]) (rest := []) X hw (c_L_parts hst g1 go.1 go.2 hz) (vx_cwSW 4 X.1.2.2.2.2 (guSW um_L_142 ut_L_parts un_L uo_L_parts) rfl rfl rfl (by decide +kernel) ⟨Nat.le_of_ble_eq_true rfl, Nat.le_of_ble_eq_true rfl⟩) rfl hl.1 rfl (Nat.le_of_ble_eq_true rfl) dL_law_1335 f1 (fun H locs hw => ?_)
  generalize hI (B 15) z = w at hw Vh ht hq ⊢
  refine lv_istore (lv' := (5, .int w.1) :: [(0, .ref b), (1, .ref (B 0)), (2, .ref (A 0)), (3, .ref (B 15)), (4, .int (Int32.ofNat i))]) X.1.1 X.1.2.1 dL_law_1338 hl (by decide) rfl (fun ls hl => ?_)
  refine lv_aload_n X.1.1 X.1.2.1 dL_law_1340 rfl (lv_at hl 3 rfl) ?_
  refine l_arg X.1.1 X.1.2.1 hw.2.2.1 hX hbl hbA hL (i := i) (kn := 1) (by omega) (lv_at hl 1 rfl) (lv_at hl 5 rfl) rfl dL_law_1341 dL_law_1342 dL_law_1344 dL_law_1345 dL_law_1346 ?_
  refine l_arg X.1.1 X.1.2.1 hw.2.2.1 hX hbl hbA hL (i := i) (kn := 2) (by omega) (lv_at hl 1 rfl) (lv_at hl 5 rfl) rfl dL_law_1347 dL_law_1348 dL_law_1350 dL_law_1351 dL_law_1352 ?_
  refine l_V2 (As := [.int (xs (i + 1)), .int (xs (i + 2))]) (rest := []) X hw (c_X9_parts hz') (cwV 2 X.1.2.2.2.2 (guV um_L_144 ui_X9_parts us_X9_parts un_X9 uo_X9_parts) rfl rfl rfl (by decide +kernel) ⟨Nat.le_of_ble_eq_true rfl, Nat.le_of_ble_eq_true rfl⟩) g2 (by decide) rfl rfl hl.1 rfl (Nat.le_of_ble_eq_true rfl) dL_law_1353 f2 (fun H locs hw => ?_)
  refine lv_istore (lv' := (6, .int z'.1) :: (5, .int w.1) :: [(0, .ref b), (1, .ref (B 0)), (2, .ref (A 0)), (3, .ref (B 15)), (4, .int (Int32.ofNat i))]) X.1.1 X.1.2.1 dL_law_1356 hl (by decide) rfl (fun ls hl => ?_)
  refine lv_aload_n X.1.1 X.1.2.1 dL_law_1358 rfl (lv_at hl 4 rfl) ?_
  refine l_V2 (As := []) (rest := []) X hw (c_X9_thrown htn) (cwV 0 X.1.2.2.2.2 (guV um_L_88 ui_X9_thrown us_X9_thrown un_X9 uo_X9_thrown) rfl rfl rfl (by decide +kernel) ⟨Nat.le_of_ble_eq_true rfl, Nat.le_of_ble_eq_true rfl⟩) g2 (by decide) rfl rfl hl.1 rfl (Nat.le_of_ble_eq_true rfl) dL_law_1359 f2 (fun H locs hw => ?_)
  refine lv_iload X.1.1 X.1.2.1 dL_law_1362 (lv_at hl 1 rfl) ?_
  refine lv_icmp_eq (tgt := 1369) X.1.1 X.1.2.1 dL_law_1364 (by decide) (fun _ => ?_) (fun ne => absurd ht ne)
  refine lv_iload X.1.1 X.1.2.1 dL_law_1369 (lv_at hl 1 rfl) ?_
  refine lv_if_ne (tgt := 1386) X.1.1 X.1.2.1 dL_law_1371 (by decide) (fun _ => ?_) (fun h0 => ?_)
  · refine lv_goto (tgt := 1588) X.1.1 X.1.2.1 dL_law_1386 (by decide) ?_
    refine W.widen (k := cells + 147) (n := slots + 5438) (by omega) (by omega) ?_
    exact KK B pic h1 w.2 z'.2 H locs ls Vh hw rfl rfl (lv_sub hl [2, 3, 4, 5, 6] rfl)
  · refine lv_aload_n X.1.1 X.1.2.1 dL_law_1374 rfl (lv_at hl 5 rfl) ?_
    refine lv_iconst (v := (0 : Int32)) X.1.1 X.1.2.1 dL_law_1375 (by decide) ?_
    refine r_lald X hw.one go.1 (by rw [go.2]; decide) dL_law_1376 ?_
    refine lv_iload X.1.1 X.1.2.1 dL_law_1377 (lv_at hl 0 rfl) ?_
    refine lv_i2l X.1.1 X.1.2.1 dL_law_1379 rfl ?_
    refine W.lcmp X.1.1 X.1.2.1 dL_law_1380 ?_
    have hc : zJ w.2 (B 15) (0 : Int32).toNatClampNeg = z'.1.toInt64 := hq h0
    rw [hc]
    refine lv_if_eq (tgt := 1386) X.1.1 X.1.2.1 dL_law_1381 (by decide) (fun _ => ?_) (fun ne => absurd lcmp_self ne)
    refine lv_goto (tgt := 1588) X.1.1 X.1.2.1 dL_law_1386 (by decide) ?_
    refine W.widen (k := cells + 147) (n := slots + 5438) (by omega) (by omega) ?_
    exact KK B pic h1 w.2 z'.2 H locs ls Vh hw rfl rfl (lv_sub hl [2, 3, 4, 5, 6] rfl)
end LAW
