/-! THE LAW: its loop -/
theorem cmpL {i L : Nat} (hi : i ≤ 3072) (hL : L ≤ 3072) (h : ¬ (Int32.ofNat L - 6 < Int32.ofNat i)) : i + 6 ≤ L := by
  rcases Nat.lt_or_ge L 6 with g | g
  · exfalso
    apply h
    rw [Int32.lt_iff_toInt_lt, i_int (by omega)]
    have : (Int32.ofNat L - 6).toInt < 0 := by
      rcases (show L = 0 ∨ L = 1 ∨ L = 2 ∨ L = 3 ∨ L = 4 ∨ L = 5 by omega) with rfl | rfl | rfl | rfl | rfl | rfl <;> decide
    omega
  · rw [i_subL g, i_lt (by omega) (by omega)] at h
    simp at h
    omega
section LOOP
variable {p : Program} {l : Launch} {e : Env} {s : State} {m : MethodId} {below : List Frame} {meth : Method} {c : Code}
variable {D : va_G} {cy : Nat → ClassId} {G : Nat → Prop} {h2 : Hs} {b L : Nat} {xs : Nat → Int32} {A : Nat → Nat}
set_option maxHeartbeats 4000000 in
set_option maxRecDepth 100000 in
theorem law_loop (hst : l.stackTraces = false) (X : Cx p s m #[Value.ref b] c cL_law 8 gtbl RL D cy G) (S : Scr s b L xs G) (hG : ∀ q, G q → s.heap.size ≤ q) (hr : meth.sig.returnType = ret) (hlk : meth.locks = false) : ∀ (n i cells slots : Nat) (H : Heap) (locs : List Loc) (ls : Array Slot) (h1 : Hs) (M1 M2 : Mm) (B : Nat → Nat) (pic : Prop), i ≤ L → L ≤ i + 6 * n + 5 → cells + 147 * n ≤ 226454 ∧ slots + 5438 * n ≤ 8416744 →
    Inv h1 M1 h2 M2 B A pic → Wd2 D cy G s.heap h1 M1 h2 M2 H locs → lv_has ls 8 [(0, .ref b), (1, .ref (B 0)), (2, .ref (A 0)), (3, .ref (B 15)), (4, .int (Int32.ofNat i))] →
    W p l e room_1 s m #[Value.ref b] below meth c H locs cells slots (lw_Z below #[Value.ref b] s) (F0 m 23 ls []) := by
  have S' := S
  obtain ⟨hX, hbl, hbA, hL⟩ := S'
  intro n
  induction n with
  | zero =>
    intro i cells slots H locs ls h1 M1 M2 B pic hiL hn hf V hw hl
    refine lv_iload X.1.1 X.1.2.1 dL_law_23 (lv_at hl 4 rfl) ?_
    refine lv_aload_n X.1.1 X.1.2.1 dL_law_25 rfl (lv_at hl 0 rfl) ?_
    refine va_slen X.1.1 X.1.2.1 hX hbl hbA hw.2.2.1 dL_law_26 ?_
    refine lv_bipush (v := (6 : Int32)) X.1.1 X.1.2.1 dL_law_27 (by decide) ?_
    refine lv_isub X.1.1 X.1.2.1 dL_law_29 ?_
    refine lv_icmp_gt (tgt := 1594) X.1.1 X.1.2.1 dL_law_30 (by decide) (fun _ => ?_) (fun g => absurd (cmpL (by omega) hL g) (by omega))
    refine lv_iconst (v := (1 : Int32)) X.1.1 X.1.2.1 dL_law_1594 (by decide) ?_
    refine va_forget (fun q hq => hG _ (hw.2.2.1.2.2 q hq)) ?_
    refine W.widen (k := 226454) (n := 8416744) (by omega) (by omega) ?_
    exact lw_ret X.1.1 X.1.2.1 hr hlk dL_law_1595
  | succ n ih =>
    intro i cells slots H locs ls h1 M1 M2 B pic hiL hn hf V hw hl
    refine lv_iload X.1.1 X.1.2.1 dL_law_23 (lv_at hl 4 rfl) ?_
    refine lv_aload_n X.1.1 X.1.2.1 dL_law_25 rfl (lv_at hl 0 rfl) ?_
    refine va_slen X.1.1 X.1.2.1 hX hbl hbA hw.2.2.1 dL_law_26 ?_
    refine lv_bipush (v := (6 : Int32)) X.1.1 X.1.2.1 dL_law_27 (by decide) ?_
    refine lv_isub X.1.1 X.1.2.1 dL_law_29 ?_
    refine lv_icmp_gt (tgt := 1594) X.1.1 X.1.2.1 dL_law_30 (by decide) (fun _ => ?_) (fun g => ?_)
    · refine lv_iconst (v := (1 : Int32)) X.1.1 X.1.2.1 dL_law_1594 (by decide) ?_
      refine va_forget (fun q hq => hG _ (hw.2.2.1.2.2 q hq)) ?_
      refine W.widen (k := 226454) (n := 8416744) (by omega) (by omega) ?_
      exact lw_ret X.1.1 X.1.2.1 hr hlk dL_law_1595
    · have hi : i + 6 ≤ L := cmpL (by omega) hL g
      have f : cells + 147 ≤ 226454 ∧ slots + 5438 ≤ 8416744 := ⟨by omega, by omega⟩
      have KK : Nxt p l e s m below meth c (lw_Z below #[Value.ref b] s) D cy G b A h2 i cells slots (B 0) (B 15) := fun B' pic' h1' M1' M2' H' locs' ls' V' hw' e0 e15 hl' => by
        refine lv_iinc (k := 4) (lv' := [(4, .int (Int32.ofNat (i + 6))), (0, .ref b), (1, .ref (B 0)), (2, .ref (A 0)), (3, .ref (B 15))]) X.1.1 X.1.2.1 dL_law_1588 hl' rfl (by rw [show Int32.ofInt 6 = Int32.ofNat 6 by decide, i_add]) (by decide) rfl (fun ls hl => ?_)
        refine lv_goto (tgt := 23) X.1.1 X.1.2.1 dL_law_1591 (by decide) ?_
        have hl : lv_has ls 8 [(0, .ref b), (1, .ref (B 0)), (2, .ref (A 0)), (3, .ref (B 15)), (4, .int (Int32.ofNat (i + 6)))] := lv_sub hl [1, 2, 3, 4, 0] rfl
        exact ih (i + 6) (cells + 147) (slots + 5438) H' locs' ls h1' M1' M2' B' pic' (by omega) (by omega) ⟨by omega, by omega⟩ V' hw' (by rw [e0, e15]; exact hl)
      refine lv_aload_n X.1.1 X.1.2.1 dL_law_33 rfl (lv_at hl 0 rfl) ?_
      refine lv_iload X.1.1 X.1.2.1 dL_law_34 (lv_at hl 4 rfl) ?_
      refine va_sld X.1.1 X.1.2.1 hX hbl hbA hw.2.2.1 (i := Int32.ofNat i) (by show inb _ _; rw [i_inb (by omega)]; omega) dL_law_36 ?_
      refine lv_bipush (v := (31 : Int32)) X.1.1 X.1.2.1 dL_law_37 (by decide) ?_
      refine lv_iand X.1.1 X.1.2.1 dL_law_39 ?_
      obtain ⟨v, hv, ev⟩ := pk_andE (xs (Int32.ofNat i).toNatClampNeg) (m := 31) 5 (by decide)
      have ev : xs (Int32.ofNat i).toNatClampNeg &&& 31 = Int32.ofNat v := ev
      rw [ev]
      have hv : v < 32 := hv
      rcases (show v = 0 ∨ v = 1 ∨ v = 2 ∨ v = 3 ∨ v = 4 ∨ v = 5 ∨ v = 6 ∨ v = 7 ∨ v = 8 ∨ v = 9 ∨ v = 10 ∨ v = 11 ∨ v = 12 ∨ v = 13 ∨ v = 14 ∨ v = 15 ∨ v = 16 ∨ v = 17 ∨ v = 18 ∨ v = 19 ∨ v = 20 ∨ v = 21 ∨ v = 22 ∨ v = 23 ∨ v = 24 ∨ v = 25 ∨ v = 26 ∨ v = 27 ∨ v = 28 ∨ v = 29 ∨ v = 30 ∨ v = 31 by omega) with rfl | rfl | rfl | rfl | rfl | rfl | rfl | rfl | rfl | rfl | rfl | rfl | rfl | rfl | rfl | rfl | rfl | rfl | rfl | rfl | rfl | rfl | rfl | rfl | rfl | rfl | rfl | rfl | rfl | rfl | rfl | rfl
      · refine lv_tableIn (off := 144) (tgt := 184) X.1.1 X.1.2.1 dL_law_40 (by decide) (by decide) rfl (by decide) ?_
        exact law_feed X S hi f V hw hl KK
      · refine lv_tableIn (off := 217) (tgt := 257) X.1.1 X.1.2.1 dL_law_40 (by decide) (by decide) rfl (by decide) ?_
        exact law_end X S hi f V hw hl KK
      · refine lv_tableIn (off := 242) (tgt := 282) X.1.1 X.1.2.1 dL_law_40 (by decide) (by decide) rfl (by decide) ?_
        exact law_put X S hi f V hw hl KK
      · refine lv_tableIn (off := 303) (tgt := 343) X.1.1 X.1.2.1 dL_law_40 (by decide) (by decide) rfl (by decide) ?_
        exact law_plug X S hi f V hw hl KK
      · refine lv_tableIn (off := 328) (tgt := 368) X.1.1 X.1.2.1 dL_law_40 (by decide) (by decide) rfl (by decide) ?_
        exact law_take X S hi f V hw hl KK
      · refine lv_tableIn (off := 353) (tgt := 393) X.1.1 X.1.2.1 dL_law_40 (by decide) (by decide) rfl (by decide) ?_
        exact law_kind X S hi f V hw hl KK
      · refine lv_tableIn (off := 378) (tgt := 418) X.1.1 X.1.2.1 dL_law_40 (by decide) (by decide) rfl (by decide) ?_
        exact law_read X S hi f V hw hl KK
      · refine lv_tableIn (off := 415) (tgt := 455) X.1.1 X.1.2.1 dL_law_40 (by decide) (by decide) rfl (by decide) ?_
        exact law_tear X S hi f V hw hl KK
      · refine lv_tableIn (off := 464) (tgt := 504) X.1.1 X.1.2.1 dL_law_40 (by decide) (by decide) rfl (by decide) ?_
        exact law_fill X S hi f V hw hl KK
      · refine lv_tableIn (off := 513) (tgt := 553) X.1.1 X.1.2.1 dL_law_40 (by decide) (by decide) rfl (by decide) ?_
        exact law_row X S hi f V hw hl KK
      · refine lv_tableIn (off := 550) (tgt := 590) X.1.1 X.1.2.1 dL_law_40 (by decide) (by decide) rfl (by decide) ?_
        exact law_span hst X S hi f V hw hl KK
      · refine lv_tableIn (off := 618) (tgt := 658) X.1.1 X.1.2.1 dL_law_40 (by decide) (by decide) rfl (by decide) ?_
        exact law_turn hst X S hi f V hw hl KK
      · refine lv_tableIn (off := 698) (tgt := 738) X.1.1 X.1.2.1 dL_law_40 (by decide) (by decide) rfl (by decide) ?_
        exact law_cycle hst X S hi f V hw hl KK
      · refine lv_tableIn (off := 778) (tgt := 818) X.1.1 X.1.2.1 dL_law_40 (by decide) (by decide) rfl (by decide) ?_
        exact law_check X S hi f V hw hl KK
      · refine lv_tableIn (off := 803) (tgt := 843) X.1.1 X.1.2.1 dL_law_40 (by decide) (by decide) rfl (by decide) ?_
        exact law_detail X S hi f V hw hl KK
      · refine lv_tableIn (off := 840) (tgt := 880) X.1.1 X.1.2.1 dL_law_40 (by decide) (by decide) rfl (by decide) ?_
        exact law_bound X S hi f V hw hl KK
      · refine lv_tableIn (off := 889) (tgt := 929) X.1.1 X.1.2.1 dL_law_40 (by decide) (by decide) rfl (by decide) ?_
        exact law_mean X S hi f V hw hl KK
      · refine lv_tableIn (off := 938) (tgt := 978) X.1.1 X.1.2.1 dL_law_40 (by decide) (by decide) rfl (by decide) ?_
        exact law_limit X S hi f V hw hl KK
      · refine lv_tableIn (off := 975) (tgt := 1015) X.1.1 X.1.2.1 dL_law_40 (by decide) (by decide) rfl (by decide) ?_
        exact law_worst X S hi f V hw hl KK
      · refine lv_tableIn (off := 1012) (tgt := 1052) X.1.1 X.1.2.1 dL_law_40 (by decide) (by decide) rfl (by decide) ?_
        exact law_crack X S hi f V hw hl KK
      · refine lv_tableIn (off := 1061) (tgt := 1101) X.1.1 X.1.2.1 dL_law_40 (by decide) (by decide) rfl (by decide) ?_
        exact law_step X S hi f V hw hl KK
      · refine lv_tableIn (off := 1110) (tgt := 1150) X.1.1 X.1.2.1 dL_law_40 (by decide) (by decide) rfl (by decide) ?_
        exact law_mend X S hi f V hw hl KK
      · refine lv_tableIn (off := 1135) (tgt := 1175) X.1.1 X.1.2.1 dL_law_40 (by decide) (by decide) rfl (by decide) ?_
        exact law_damage hst X S hi f V hw hl KK
      · refine lv_tableIn (off := 1214) (tgt := 1254) X.1.1 X.1.2.1 dL_law_40 (by decide) (by decide) rfl (by decide) ?_
        exact law_part hst X S hi f V hw hl KK
      · refine lv_tableIn (off := 1281) (tgt := 1321) X.1.1 X.1.2.1 dL_law_40 (by decide) (by decide) rfl (by decide) ?_
        exact law_parts hst X S hi f V hw hl KK
      · refine lv_tableIn (off := 1349) (tgt := 1389) X.1.1 X.1.2.1 dL_law_40 (by decide) (by decide) rfl (by decide) ?_
        exact law_left X S hi f V hw hl KK
      · refine lv_tableIn (off := 1386) (tgt := 1426) X.1.1 X.1.2.1 dL_law_40 (by decide) (by decide) rfl (by decide) ?_
        exact law_length X S hi f V hw hl KK
      · refine lv_tableIn (off := 1411) (tgt := 1451) X.1.1 X.1.2.1 dL_law_40 (by decide) (by decide) rfl (by decide) ?_
        exact law_due X S hi f V hw hl KK
      · refine lv_tableIn (off := 1484) (tgt := 1524) X.1.1 X.1.2.1 dL_law_40 (by decide) (by decide) rfl (by decide) ?_
        exact law_undo X S hi f V hw hl KK
      · refine lv_tableIn (off := 1497) (tgt := 1537) X.1.1 X.1.2.1 dL_law_40 (by decide) (by decide) rfl (by decide) ?_
        exact law_image X S hi f V hw hl KK
      · refine lv_tableIn (off := 1510) (tgt := 1550) X.1.1 X.1.2.1 dL_law_40 (by decide) (by decide) rfl (by decide) ?_
        exact law_again X S hi f V hw hl KK
      · refine lv_tableIn (off := 1523) (tgt := 1563) X.1.1 X.1.2.1 dL_law_40 (by decide) (by decide) rfl (by decide) ?_
        exact law_count X S hi f V hw hl KK
end LOOP
