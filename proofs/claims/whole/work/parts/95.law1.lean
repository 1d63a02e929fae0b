/-! THE LAW: more cases -/
section LAW
variable {p : Program} {l : Launch} {e : Env} {s : State} {m : MethodId} {below : List Frame} {meth : Method} {c : Code} {H : Heap} {locs : List Loc} {cells slots : Nat} {Q : State → Prop}
variable {ls : Array Slot} {D : va_G} {cy : Nat → ClassId} {G : Nat → Prop} {h1 h2 : Hs} {M1 M2 : Mm} {b L i : Nat} {xs : Nat → Int32} {B A : Nat → Nat} {pic : Prop}
set_option maxRecDepth 100000 in
theorem law_check (X : Cx p s m #[Value.ref b] c cL_law 8 gtbl RL D cy G) (S : Scr s b L xs G) (hi : i + 6 ≤ L) (hf : cells + 147 ≤ 226454 ∧ slots + 5438 ≤ 8416744) (V : Inv h1 M1 h2 M2 B A pic) (hw : Wd2 D cy G s.heap h1 M1 h2 M2 H locs) (hl : lv_has ls 8 [(0, .ref b), (1, .ref (B 0)), (2, .ref (A 0)), (3, .ref (B 15)), (4, .int (Int32.ofNat i))])
    (KK : Nxt p l e s m below meth c Q D cy G b A h2 i cells slots (B 0) (B 15)) : W p l e room_1 s m #[Value.ref b] below meth c H locs cells slots Q (F0 m 818 ls []) := by
  have f0 : cells + 0 ≤ room_1.cells ∧ slots + 0 ≤ room_1.slots := ⟨by show cells + 0 ≤ 226454; omega, by show slots + 0 ≤ 8416744; omega⟩
  have g1 : ok h1 (B 0) 8 := V.1.2.1.1
  have g2 : ok h2 (A 0) 9 := V.2.1.1.1
  obtain ⟨hX, hbl, hbA, hL⟩ := S
  obtain ⟨z, hz, z', hz', ee, V'⟩ := (t_check V : Sim (f_X8_check h1 (B 0) (xs (i + 1)) M1) (f_X9_check h2 (A 0) (xs (i + 1)) M2) h1 h2 B A pic)
  refine lv_aload_n X.1.1 X.1.2.1 dL_law_818 rfl (lv_at hl 1 rfl) ?_
  refine l_arg X.1.1 X.1.2.1 hw.2.2.1 hX hbl hbA hL (i := i) (kn := 1) (by omega) (lv_at hl 0 rfl) (lv_at hl 4 rfl) rfl dL_law_819 dL_law_820 dL_law_822 dL_law_823 dL_law_824 ?_
  refine l_V1 (As := [.int (xs (i + 1))]) (rest := []) X hw (c_X8_check hz) (cwV 1 X.1.2.2.2.2 (guV um_L_99 ui_X8_check us_X8_check un_X8 uo_X8_check) rfl rfl rfl (by decide +kernel) ⟨Nat.le_of_ble_eq_true rfl, Nat.le_of_ble_eq_true rfl⟩) g1 (by decide) rfl rfl hl.1 rfl (Nat.le_of_ble_eq_true rfl) dL_law_825 f0 (fun H locs hw => ?_)
  refine lv_aload_n X.1.1 X.1.2.1 dL_law_828 rfl (lv_at hl 2 rfl) ?_
  refine l_arg X.1.1 X.1.2.1 hw.2.2.1 hX hbl hbA hL (i := i) (kn := 1) (by omega) (lv_at hl 0 rfl) (lv_at hl 4 rfl) rfl dL_law_829 dL_law_830 dL_law_832 dL_law_833 dL_law_834 ?_
  refine l_V2 (As := [.int (xs (i + 1))]) (rest := [.int z.1]) X hw (c_X9_check hz') (cwV 1 X.1.2.2.2.2 (guV um_L_102 ui_X9_check us_X9_check un_X9 uo_X9_check) rfl rfl rfl (by decide +kernel) ⟨Nat.le_of_ble_eq_true rfl, Nat.le_of_ble_eq_true rfl⟩) g2 (by decide) rfl rfl hl.1 rfl (Nat.le_of_ble_eq_true rfl) dL_law_835 f0 (fun H locs hw => ?_)
  refine lv_icmp_eq (tgt := 1588) X.1.1 X.1.2.1 dL_law_838 (by decide) (fun _ => ?_) (fun ne => absurd ee ne)
  refine W.widen (k := cells + 147) (n := slots + 5438) (by omega) (by omega) ?_
  exact KK B pic h1 z.2 z'.2 H locs ls V' hw rfl rfl hl
set_option maxRecDepth 100000 in
theorem law_detail (X : Cx p s m #[Value.ref b] c cL_law 8 gtbl RL D cy G) (S : Scr s b L xs G) (hi : i + 6 ≤ L) (hf : cells + 147 ≤ 226454 ∧ slots + 5438 ≤ 8416744) (V : Inv h1 M1 h2 M2 B A pic) (hw : Wd2 D cy G s.heap h1 M1 h2 M2 H locs) (hl : lv_has ls 8 [(0, .ref b), (1, .ref (B 0)), (2, .ref (A 0)), (3, .ref (B 15)), (4, .int (Int32.ofNat i))])
    (KK : Nxt p l e s m below meth c Q D cy G b A h2 i cells slots (B 0) (B 15)) : W p l e room_1 s m #[Value.ref b] below meth c H locs cells slots Q (F0 m 843 ls []) := by
  have f0 : cells + 0 ≤ room_1.cells ∧ slots + 0 ≤ room_1.slots := ⟨by show cells + 0 ≤ 226454; omega, by show slots + 0 ≤ 8416744; omega⟩
  have g1 : ok h1 (B 0) 8 := V.1.2.1.1
  have g2 : ok h2 (A 0) 9 := V.2.1.1.1
  obtain ⟨hX, hbl, hbA, hL⟩ := S
  obtain ⟨z, hz, z', hz', ee, V'⟩ := (t_detail V : Sim (f_X8_detail h1 (B 0) (xs (i + 1)) (xs (i + 2)) M1) (f_X9_detail h2 (A 0) (xs (i + 1)) (xs (i + 2)) M2) h1 h2 B A pic)
  refine lv_aload_n X.1.1 X.1.2.1 dL_law_843 rfl (lv_at hl 1 rfl) ?_
  refine l_arg X.1.1 X.1.2.1 hw.2.2.1 hX hbl hbA hL (i := i) (kn := 1) (by omega) (lv_at hl 0 rfl) (lv_at hl 4 rfl) rfl dL_law_844 dL_law_845 dL_law_847 dL_law_848 dL_law_849 ?_
  refine l_arg X.1.1 X.1.2.1 hw.2.2.1 hX hbl hbA hL (i := i) (kn := 2) (by omega) (lv_at hl 0 rfl) (lv_at hl 4 rfl) rfl dL_law_850 dL_law_851 dL_law_853 dL_law_854 dL_law_855 ?_
  refine l_V1 (As := [.int (xs (i + 1)), .int (xs (i + 2))]) (rest := []) X hw (c_X8_detail hz) (cwV 2 X.1.2.2.2.2 (guV um_L_103 ui_X8_detail us_X8_detail un_X8 uo_X8_detail) rfl rfl rfl (by decide +kernel) ⟨Nat.le_of_ble_eq_true rfl, Nat.le_of_ble_eq_true rfl⟩) g1 (by decide) rfl rfl hl.1 rfl (Nat.le_of_ble_eq_true rfl) dL_law_856 f0 (fun H locs hw => ?_)
  refine lv_aload_n X.1.1 X.1.2.1 dL_law_859 rfl (lv_at hl 2 rfl) ?_
  refine l_arg X.1.1 X.1.2.1 hw.2.2.1 hX hbl hbA hL (i := i) (kn := 1) (by omega) (lv_at hl 0 rfl) (lv_at hl 4 rfl) rfl dL_law_860 dL_law_861 dL_law_863 dL_law_864 dL_law_865 ?_
  refine l_arg X.1.1 X.1.2.1 hw.2.2.1 hX hbl hbA hL (i := i) (kn := 2) (by omega) (lv_at hl 0 rfl) (lv_at hl 4 rfl) rfl dL_law_866 dL_law_867 dL_law_869 dL_law_870 dL_law_871 ?_
  refine l_V2 (As := [.int (xs (i + 1)), .int (xs (i + 2))]) (rest := [.int z.1]) X hw (c_X9_detail hz') (cwV 2 X.1.2.2.2.2 (guV um_L_107 ui_X9_detail us_X9_detail un_X9 uo_X9_detail) rfl rfl rfl (by decide +kernel) ⟨Nat.le_of_ble_eq_true rfl, Nat.le_of_ble_eq_true rfl⟩) g2 (by decide) rfl rfl hl.1 rfl (Nat.le_of_ble_eq_true rfl) dL_law_872 f0 (fun H locs hw => ?_)
  refine lv_icmp_eq (tgt := 1588) X.1.1 X.1.2.1 dL_law_875 (by decide) (fun _ => ?_) (fun ne => absurd ee ne)
  refine W.widen (k := cells + 147) (n := slots + 5438) (by omega) (by omega) ?_
  exact KK B pic h1 z.2 z'.2 H locs ls V' hw rfl rfl hl
set_option maxRecDepth 100000 in
theorem law_bound (X : Cx p s m #[Value.ref b] c cL_law 8 gtbl RL D cy G) (S : Scr s b L xs G) (hi : i + 6 ≤ L) (hf : cells + 147 ≤ 226454 ∧ slots + 5438 ≤ 8416744) (V : Inv h1 M1 h2 M2 B A pic) (hw : Wd2 D cy G s.heap h1 M1 h2 M2 H locs) (hl : lv_has ls 8 [(0, .ref b), (1, .ref (B 0)), (2, .ref (A 0)), (3, .ref (B 15)), (4, .int (Int32.ofNat i))])
    (KK : Nxt p l e s m below meth c Q D cy G b A h2 i cells slots (B 0) (B 15)) : W p l e room_1 s m #[Value.ref b] below meth c H locs cells slots Q (F0 m 880 ls []) := by
  have f0 : cells + 0 ≤ room_1.cells ∧ slots + 0 ≤ room_1.slots := ⟨by show cells + 0 ≤ 226454; omega, by show slots + 0 ≤ 8416744; omega⟩
  have g1 : ok h1 (B 0) 8 := V.1.2.1.1
  have g2 : ok h2 (A 0) 9 := V.2.1.1.1
  obtain ⟨hX, hbl, hbA, hL⟩ := S
  obtain ⟨z, hz, z', hz', ee, V'⟩ := (t_bound V : Sim (f_X8_bound h1 (B 0) (xs (i + 1)) (xs (i + 2)) (xs (i + 3)) M1) (f_X9_bound h2 (A 0) (xs (i + 1)) (xs (i + 2)) (xs (i + 3)) M2) h1 h2 B A pic)
  refine lv_aload_n X.1.1 X.1.2.1 dL_law_880 rfl (lv_at hl 1 rfl) ?_
  refine l_arg X.1.1 X.1.2.1 hw.2.2.1 hX hbl hbA hL (i := i) (kn := 1) (by omega) (lv_at hl 0 rfl) (lv_at hl 4 rfl) rfl dL_law_881 dL_law_882 dL_law_884 dL_law_885 dL_law_886 ?_
  refine l_arg X.1.1 X.1.2.1 hw.2.2.1 hX hbl hbA hL (i := i) (kn := 2) (by omega) (lv_at hl 0 rfl) (lv_at hl 4 rfl) rfl dL_law_887 dL_law_888 dL_law_890 dL_law_891 dL_law_892 ?_
  refine l_arg X.1.1 X.1.2.1 hw.2.2.1 hX hbl hbA hL (i := i) (kn := 3) (by omega) (lv_at hl 0 rfl) (lv_at hl 4 rfl) rfl dL_law_893 dL_law_894 dL_law_896 dL_law_897 dL_law_898 ?_
  refine l_V1 (As := [.int (xs (i + 1)), .int (xs (i + 2)), .int (xs (i + 3))]) (rest := []) X hw (c_X8_bound hz) (cwV 3 X.1.2.2.2.2 (guV um_L_108 ui_X8_bound us_X8_bound un_X8 uo_X8_bound) rfl rfl rfl (by decide +kernel) ⟨Nat.le_of_ble_eq_true rfl, Nat.le_of_ble_eq_true rfl⟩) g1 (by decide) rfl rfl hl.1 rfl (Nat.le_of_ble_eq_true rfl) dL_law_899 f0 (fun H locs hw => ?_)
  refine lv_aload_n X.1.1 X.1.2.1 dL_law_902 rfl (lv_at hl 2 rfl) ?_
  refine l_arg X.1.1 X.1.2.1 hw.2.2.1 hX hbl hbA hL (i := i) (kn := 1) (by omega) (lv_at hl 0 rfl) (lv_at hl 4 rfl) rfl dL_law_903 dL_law_904 dL_law_906 dL_law_907 dL_law_908 ?_
  refine l_arg X.1.1 X.1.2.1 hw.2.2.1 hX hbl hbA hL (i := i) (kn := 2) (by omega) (lv_at hl 0 rfl) (lv_at hl 4 rfl) rfl dL_law_909 dL_law_910 dL_law_912 dL_law_913 dL_law_914 ?_
  refine l_arg X.1.1 X.1.2.1 hw.2.2.1 hX hbl hbA hL (i := i) (kn := 3) (by omega) (lv_at hl 0 rfl) (lv_at hl 4 rfl) rfl dL_law_915 dL_law_916 dL_law_918 dL_law_919 dL_law_920 ?_
  refine l_V2 (As := [.int (xs (i + 1)), .int (xs (i + 2)), .int (xs (i + 3))]) (rest := [.int z.1]) X hw (c_X9_bound hz') (cwV 3 X.1.2.2.2.2 (guV um_L_111 ui_X9_bound us_X9_bound un_X9 uo_X9_bound) rfl rfl rfl (by decide +kernel) ⟨Nat.le_of_ble_eq_true rfl, Nat.le_of_ble_eq_true rfl⟩) g2 (by decide) rfl rfl hl.1 rfl (Nat.le_of_ble_eq_true rfl) dL_law_921 f0 (fun H locs hw => ?_)
  refine lv_icmp_eq (tgt := 1588) X.1.1 X.1.2.1 dL_law_924 (by decide) (fun _ => ?_) (fun ne => absurd ee ne)
  refine W.widen (k := cells + 147) (n := slots + 5438) (by omega) (by omega) ?_
  exact KK B pic h1 z.2 z'.2 H locs ls V' hw rfl rfl hl
set_option maxRecDepth 100000 in
theorem law_mean (X : Cx p s m #[Value.ref b] c cL_law 8 gtbl RL D cy G) (S : Scr s b L xs G) (hi : i + 6 ≤ L) (hf : cells + 147 ≤ 226454 ∧ slots + 5438 ≤ 8416744) (V : Inv h1 M1 h2 M2 B A pic) (hw : Wd2 D cy G s.heap h1 M1 h2 M2 H locs) (hl : lv_has ls 8 [(0, .ref b), (1, .ref (B 0)), (2, .ref (A 0)), (3, .ref (B 15)), (4, .int (Int32.ofNat i))])
    (KK : Nxt p l e s m below meth c Q D cy G b A h2 i cells slots (B 0) (B 15)) : W p l e room_1 s m #[Value.ref b] below meth c H locs cells slots Q (F0 m 929 ls []) := by
  have f0 : cells + 0 ≤ room_1.cells ∧ slots + 0 ≤ room_1.slots := ⟨by show cells + 0 ≤ 226454; omega, by show slots + 0 ≤ 8416744; omega⟩
  have g1 : ok h1 (B 0) 8 := V.1.2.1.1
  have g2 : ok h2 (A 0) 9 := V.2.1.1.1
  obtain ⟨hX, hbl, hbA, hL⟩ := S
  obtain ⟨z, hz, z', hz', ee, V'⟩ := (t_mean V : Sim (f_X8_mean h1 (B 0) (xs (i + 1)) (xs (i + 2)) (xs (i + 3)) M1) (f_X9_mean h2 (A 0) (xs (i + 1)) (xs (i + 2)) (xs (i + 3)) M2) h1 h2 B A pic)
  refine lv_aload_n X.1.1 X.1.2.1 dL_law_929 rfl (lv_at hl 1 rfl) ?_
  refine l_arg X.1.1 X.1.2.1 hw.2.2.1 hX hbl hbA hL (i := i) (kn := 1) (by omega) (lv_at hl 0 rfl) (lv_at hl 4 rfl) rfl dL_law_930 dL_law_931 dL_law_933 dL_law_934 dL_law_935 ?_
  refine l_arg X.1.1 X.1.2.1 hw.2.2.1 hX hbl hbA hL (i := i) (kn := 2) (by omega) (lv_at hl 0 rfl) (lv_at hl 4 rfl) rfl dL_law_936 dL_law_937 dL_law_939 dL_law_940 dL_law_941 ?_
  refine l_arg X.1.1 X.1.2.1 hw.2.2.1 hX hbl hbA hL (i := i) (kn := 3) (by omega) (lv_at hl 0 rfl) (lv_at hl 4 rfl) rfl dL_law_942 dL_law_943 dL_law_945 dL_law_946 dL_law_947 ?_
  refine l_V1 (As := [.int (xs (i + 1)), .int (xs (i + 2)), .int (xs (i + 3))]) (rest := []) X hw (c_X8_mean hz) (cwV 3 X.1.2.2.2.2 (guV um_L_112 ui_X8_mean us_X8_mean un_X8 uo_X8_mean) rfl rfl rfl (by decide +kernel) ⟨Nat.le_of_ble_eq_true rfl, Nat.le_of_ble_eq_true rfl⟩) g1 (by decide) rfl rfl hl.1 rfl (Nat.le_of_ble_eq_true rfl) dL_law_948 f0 (fun H locs hw => ?_)
  refine lv_aload_n X.1.1 X.1.2.1 dL_law_951 rfl (lv_at hl 2 rfl) ?_
  refine l_arg X.1.1 X.1.2.1 hw.2.2.1 hX hbl hbA hL (i := i) (kn := 1) (by omega) (lv_at hl 0 rfl) (lv_at hl 4 rfl) rfl dL_law_952 dL_law_953 dL_law_955 dL_law_956 dL_law_957 ?_
  refine l_arg X.1.1 X.1.2.1 hw.2.2.1 hX hbl hbA hL (i := i) (kn := 2) (by omega) (lv_at hl 0 rfl) (lv_at hl 4 rfl) rfl dL_law_958 dL_law_959 dL_law_961 dL_law_962 dL_law_963 ?_
  refine l_arg X.1.1 X.1.2.1 hw.2.2.1 hX hbl hbA hL (i := i) (kn := 3) (by omega) (lv_at hl 0 rfl) (lv_at hl 4 rfl) rfl dL_law_964 dL_law_965 dL_law_967 dL_law_968 dL_law_969 ?_
  refine l_V2 (As := [.int (xs (i + 1)), .int (xs (i + 2)), .int (xs (i + 3))]) (rest := [.int z.1]) X hw (c_X9_mean hz') (cwV 3 X.1.2.2.2.2 (guV um_L_115 ui_X9_mean us_X9_mean un_X9 uo_X9_mean) rfl rfl rfl (by decide +kernel) ⟨Nat.le_of_ble_eq_true rfl, Nat.le_of_ble_eq_true rfl⟩) g2 (by decide) rfl rfl hl.1 rfl (Nat.le_of_ble_eq_true rfl) dL_law_970 f0 (fun H locs hw => ?_)
  refine lv_icmp_eq (tgt := 1588) X.1.1 X.1.2.1 dL_law_973 (by decide) (fun _ => ?_) (fun ne => absurd ee ne)
  refine W.widen (k := cells + 147) (n := slots + 5438) (by omega) (by omega) ?_
  exact KK B pic h1 z.2 z'.2 H locs ls V' hw rfl rfl hl
set_option maxRecDepth 100000 in
theorem law_limit (X : Cx p s m #[Value.ref b] c cL_law 8 gtbl RL D cy G) (S : Scr s b L xs G) (hi : i + 6 ≤ L) (hf : cells + 147 ≤ 226454 ∧ slots + 5438 ≤ 8416744) (V : Inv h1 M1 h2 M2 B A pic) (hw : Wd2 D cy G s.heap h1 M1 h2 M2 H locs) (hl : lv_has ls 8 [(0, .ref b), (1, .ref (B 0)), (2, .ref (A 0)), (3, .ref (B 15)), (4, .int (Int32.ofNat i))])
    (KK : Nxt p l e s m below meth c Q D cy G b A h2 i cells slots (B 0) (B 15)) : W p l e room_1 s m #[Value.ref b] below meth c H locs cells slots Q (F0 m 978 ls []) := by
  have f0 : cells + 0 ≤ room_1.cells ∧ slots + 0 ≤ room_1.slots := ⟨by show cells + 0 ≤ 226454; omega, by show slots + 0 ≤ 8416744; omega⟩
  have g1 : ok h1 (B 0) 8 := V.1.2.1.1
  have g2 : ok h2 (A 0) 9 := V.2.1.1.1
  obtain ⟨hX, hbl, hbA, hL⟩ := S
  obtain ⟨z, hz, z', hz', ee, V'⟩ := (t_limit V : Sim (f_X8_limit h1 (B 0) (xs (i + 1)) (xs (i + 2)) M1) (f_X9_limit h2 (A 0) (xs (i + 1)) (xs (i + 2)) M2) h1 h2 B A pic)
  refine lv_aload_n X.1.1 X.1.2.1 dL_law_978 rfl (lv_at hl 1 rfl) ?_
  refine l_arg X.1.1 X.1.2.1 hw.2.2.1 hX hbl hbA hL (i := i) (kn := 1) (by omega) (lv_at hl 0 rfl) (lv_at hl 4 rfl) rfl dL_law_979 dL_law_980 dL_law_982 dL_law_983 dL_law_984 ?_
  refine l_arg X.1.1 X.1.2.1 hw.2.2.1 hX hbl hbA hL (i := i) (kn := 2) (by omega) (lv_at hl 0 rfl) (lv_at hl 4 rfl) rfl dL_law_985 dL_law_986 dL_law_988 dL_law_989 dL_law_990 ?_
  refine l_V1 (As := [.int (xs (i + 1)), .int (xs (i + 2))]) (rest := []) X hw (c_X8_limit hz) (cwV 2 X.1.2.2.2.2 (guV um_L_116 ui_X8_limit us_X8_limit un_X8 uo_X8_limit) rfl rfl rfl (by decide +kernel) ⟨Nat.le_of_ble_eq_true rfl, Nat.le_of_ble_eq_true rfl⟩) g1 (by decide) rfl rfl hl.1 rfl (Nat.le_of_ble_eq_true rfl) dL_law_991 f0 (fun H locs hw => ?_)
  refine lv_aload_n X.1.1 X.1.2.1 dL_law_994 rfl (lv_at hl 2 rfl) ?_
  refine l_arg X.1.1 X.1.2.1 hw.2.2.1 hX hbl hbA hL (i := i) (kn := 1) (by omega) (lv_at hl 0 rfl) (lv_at hl 4 rfl) rfl dL_law_995 dL_law_996 dL_law_998 dL_law_999 dL_law_1000 ?_
  refine l_arg X.1.1 X.1.2.1 hw.2.2.1 hX hbl hbA hL (i := i) (kn := 2) (by omega) (lv_at hl 0 rfl) (lv_at hl 4 rfl) rfl dL_law_1001 dL_law_1002 dL_law_1004 dL_law_1005 dL_law_1006 ?_
  refine l_V2 (As := [.int (xs (i + 1)), .int (xs (i + 2))]) (rest := [.int z.1]) X hw (c_X9_limit hz') (cwV 2 X.1.2.2.2.2 (guV um_L_119 ui_X9_limit us_X9_limit un_X9 uo_X9_limit) rfl rfl rfl (by decide +kernel) ⟨Nat.le_of_ble_eq_true rfl, Nat.le_of_ble_eq_true rfl⟩) g2 (by decide) rfl rfl hl.1 rfl (Nat.le_of_ble_eq_true rfl) dL_law_1007 f0 (fun H locs hw => ?_)
  refine lv_icmp_eq (tgt := 1588) X.1.1 X.1.2.1 dL_law_1010 (by decide) (fun _ => ?_) (fun ne => absurd ee ne)
  refine W.widen (k := cells + 147) (n := slots + 5438) (by omega) (by omega) ?_
  exact KK B pic h1 z.2 z'.2 H locs ls V' hw rfl rfl hl
set_option maxRecDepth 100000 in
theorem law_worst (X : Cx p s m #[Value.ref b] c cL_law 8 gtbl RL D cy G) (S : Scr s b L xs G) (hi : i + 6 ≤ L) (hf : cells + 147 ≤ 226454 ∧ slots + 5438 ≤ 8416744) (V : Inv h1 M1 h2 M2 B A pic) (hw : Wd2 D cy G s.heap h1 M1 h2 M2 H locs) (hl : lv_has ls 8 [(0, .ref b), (1, .ref (B 0)), (2, .ref (A 0)), (3, .ref (B 15)), (4, .int (Int32.ofNat i))])
    (KK : Nxt p l e s m below meth c Q D cy G b A h2 i cells slots (B 0) (B 15)) : W p l e room_1 s m #[Value.ref b] below meth c H locs cells slots Q (F0 m 1015 ls []) := by
  have f0 : cells + 0 ≤ room_1.cells ∧ slots + 0 ≤ room_1.slots := ⟨by show cells + 0 ≤ 226454; omega, by show slots + 0 ≤ 8416744; omega⟩
  have g1 : ok h1 (B 0) 8 := V.1.2.1.1
  have g2 : ok h2 (A 0) 9 := V.2.1.1.1
  obtain ⟨hX, hbl, hbA, hL⟩ := S
  obtain ⟨z, hz, z', hz', ee, V'⟩ := (t_worst V : Sim (f_X8_worst h1 (B 0) (xs (i + 1)) (xs (i + 2)) M1) (f_X9_worst h2 (A 0) (xs (i + 1)) (xs (i + 2)) M2) h1 h2 B A pic)
  refine lv_aload_n X.1.1 X.1.2.1 dL_law_1015 rfl (lv_at hl 1 rfl) ?_
  refine l_arg X.1.1 X.1.2.1 hw.2.2.1 hX hbl hbA hL (i := i) (kn := 1) (by omega) (lv_at hl 0 rfl) (lv_at hl 4 rfl) rfl dL_law_1016 dL_law_1017 dL_law_1019 dL_law_1020 dL_law_1021 ?_
  refine l_arg X.1.1 X.1.2.1 hw.2.2.1 hX hbl hbA hL (i := i) (kn := 2) (by omega) (lv_at hl 0 rfl) (lv_at hl 4 rfl) rfl dL_law_1022 dL_law_1023 dL_law_1025 dL_law_1026 dL_law_1027 ?_
  refine l_V1 (As := [.int (xs (i + 1)), .int (xs (i + 2))]) (rest := []) X hw (c_X8_worst hz) (cwV 2 X.1.2.2.2.2 (guV um_L_120 ui_X8_worst us_X8_worst un_X8 uo_X8_worst) rfl rfl rfl (by decide +kernel) ⟨Nat.le_of_ble_eq_true rfl, Nat.le_of_ble_eq_true rfl⟩) g1 (by decide) rfl rfl hl.1 rfl (Nat.le_of_ble_eq_true rfl) dL_law_1028 f0 (fun H locs hw => ?_)
  refine lv_aload_n X.1.1 X.1.2.1 dL_law_1031 rfl (lv_at hl 2 rfl) ?_
  refine l_arg X.1.1 X.1.2.1 hw.2.2.1 hX hbl hbA hL (i := i) (kn := 1) (by omega) (lv_at hl 0 rfl) (lv_at hl 4 rfl) rfl dL_law_1032 dL_law_1033 dL_law_1035 dL_law_1036 dL_law_1037 ?_
  refine l_arg X.1.1 X.1.2.1 hw.2.2.1 hX hbl hbA hL (i := i) (kn := 2) (by omega) (lv_at hl 0 rfl) (lv_at hl 4 rfl) rfl dL_law_1038 dL_law_1039 dL_law_1041 dL_law_1042 dL_law_1043 ?_
  refine l_V2 (As := [.int (xs (i + 1)), .int (xs (i + 2))]) (rest := [.int z.1]) X hw (c_X9_worst hz') (cwV 2 X.1.2.2.2.2 (guV um_L_123 ui_X9_worst us_X9_worst un_X9 uo_X9_worst) rfl rfl rfl (by decide +kernel) ⟨Nat.le_of_ble_eq_true rfl, Nat.le_of_ble_eq_true rfl⟩) g2 (by decide) rfl rfl hl.1 rfl (Nat.le_of_ble_eq_true rfl) dL_law_1044 f0 (fun H locs hw => ?_)
  refine lv_icmp_eq (tgt := 1588) X.1.1 X.1.2.1 dL_law_1047 (by decide) (fun _ => ?_) (fun ne => absurd ee ne)
  refine W.widen (k := cells + 147) (n := slots + 5438) (by omega) (by omega) ?_
  exact KK B pic h1 z.2 z'.2 H locs ls V' hw rfl rfl hl
set_option maxRecDepth 100000 in
theorem law_crack (X : Cx p s m #[Value.ref b] c cL_law 8 gtbl RL D cy G) (S : Scr s b L xs G) (hi : i + 6 ≤ L) (hf : cells + 147 ≤ 226454 ∧ slots + 5438 ≤ 8416744) (V : Inv h1 M1 h2 M2 B A pic) (hw : Wd2 D cy G s.heap h1 M1 h2 M2 H locs) (hl : lv_has ls 8 [(0, .ref b), (1, .ref (B 0)), (2, .ref (A 0)), (3, .ref (B 15)), (4, .int (Int32.ofNat i))])
    (KK : Nxt p l e s m below meth c Q D cy G b A h2 i cells slots (B 0) (B 15)) : W p l e room_1 s m #[Value.ref b] below meth c H locs cells slots Q (F0 m 1052 ls []) := by
  have f0 : cells + 0 ≤ room_1.cells ∧ slots + 0 ≤ room_1.slots := ⟨by show cells + 0 ≤ 226454; omega, by show slots + 0 ≤ 8416744; omega⟩
  have g1 : ok h1 (B 0) 8 := V.1.2.1.1
  have g2 : ok h2 (A 0) 9 := V.2.1.1.1
  obtain ⟨hX, hbl, hbA, hL⟩ := S
  obtain ⟨z, hz, z', hz', ee, V'⟩ := (t_crack V : Sim (f_X8_crack h1 (B 0) (xs (i + 1)) (xs (i + 2)) (xs (i + 3)) M1) (f_X9_crack h2 (A 0) (xs (i + 1)) (xs (i + 2)) (xs (i + 3)) M2) h1 h2 B A pic)
  refine lv_aload_n X.1.1 X.1.2.1 dL_law_1052 rfl (lv_at hl 1 rfl) ?_
  refine l_arg X.1.1 X.1.2.1 hw.2.2.1 hX hbl hbA hL (i := i) (kn := 1) (by omega) (lv_at hl 0 rfl) (lv_at hl 4 rfl) rfl dL_law_1053 dL_law_1054 dL_law_1056 dL_law_1057 dL_law_1058 ?_
  refine l_arg X.1.1 X.1.2.1 hw.2.2.1 hX hbl hbA hL (i := i) (kn := 2) (by omega) (lv_at hl 0 rfl) (lv_at hl 4 rfl) rfl dL_law_1059 dL_law_1060 dL_law_1062 dL_law_1063 dL_law_1064 ?_
  refine l_arg X.1.1 X.1.2.1 hw.2.2.1 hX hbl hbA hL (i := i) (kn := 3) (by omega) (lv_at hl 0 rfl) (lv_at hl 4 rfl) rfl dL_law_1065 dL_law_1066 dL_law_1068 dL_law_1069 dL_law_1070 ?_
  refine l_V1 (As := [.int (xs (i + 1)), .int (xs (i + 2)), .int (xs (i + 3))]) (rest := []) X hw (c_X8_crack hz) (cwV 3 X.1.2.2.2.2 (guV um_L_124 ui_X8_crack us_X8_crack un_X8 uo_X8_crack) rfl rfl rfl (by decide +kernel) ⟨Nat.le_of_ble_eq_true rfl, Nat.le_of_ble_eq_true rfl⟩) g1 (by decide) rfl rfl hl.1 rfl (Nat.le_of_ble_eq_true rfl) dL_law_1071 f0 (fun H locs hw => ?_)
  refine lv_aload_n X.1.1 X.1.2.1 dL_law_1074 rfl (lv_at hl 2 rfl) ?_
  refine l_arg X.1.1 X.1.2.1 hw.2.2.1 hX hbl hbA hL (i := i) (kn := 1) (by omega) (lv_at hl 0 rfl) (lv_at hl 4 rfl) rfl dL_law_1075 dL_law_1076 dL_law_1078 dL_law_1079 dL_law_1080 ?_
  refine l_arg X.1.1 X.1.2.1 hw.2.2.1 hX hbl hbA hL (i := i) (kn := 2) (by omega) (lv_at hl 0 rfl) (lv_at hl 4 rfl) rfl dL_law_1081 dL_law_1082 dL_law_1084 dL_law_1085 dL_law_1086 ?_
  refine l_arg X.1.1 X.1.2.1 hw.2.2.1 hX hbl hbA hL (i := i) (kn := 3) (by omega) (lv_at hl 0 rfl) (lv_at hl 4 rfl) rfl dL_law_1087 dL_law_1088 dL_law_1090 dL_law_1091 dL_law_1092 ?_
  refine l_V2 (As := [.int (xs (i + 1)), .int (xs (i + 2)), .int (xs (i + 3))]) (rest := [.int z.1]) X hw (c_X9_crack hz') (cwV 3 X.1.2.2.2.2 (guV um_L_127 ui_X9_crack us_X9_crack un_X9 uo_X9_crack) rfl rfl rfl (by decide +kernel) ⟨Nat.le_of_ble_eq_true rfl, Nat.le_of_ble_eq_true rfl⟩) g2 (by decide) rfl rfl hl.1 rfl (Nat.le_of_ble_eq_true rfl) dL_law_1093 f0 (fun H locs hw => ?_)
  refine lv_icmp_eq (tgt := 1588) X.1.1 X.1.2.1 dL_law_1096 (by decide) (fun _ => ?_) (fun ne => absurd ee ne)
  refine W.widen (k := cells + 147) (n := slots + 5438) (by omega) (by omega) ?_
  exact KK B pic h1 z.2 z'.2 H locs ls V' hw rfl rfl hl
set_option maxRecDepth 100000 in
theorem law_step (X : Cx p s m #[Value.ref b] c cL_law 8 gtbl RL D cy G) (S : Scr s b L xs G) (hi : i + 6 ≤ L) (hf : cells + 147 ≤ 226454 ∧ slots + 5438 ≤ 8416744) (V : Inv h1 M1 h2 M2 B A pic) (hw : Wd2 D cy G s.heap h1 M1 h2 M2 H locs) (hl : lv_has ls 8 [(0, .ref b), (1, .ref (B 0)), (2, .ref (A 0)), (3, .ref (B 15)), (4, .int (Int32.ofNat i))])
    (KK : Nxt p l e s m below meth c Q D cy G b A h2 i cells slots (B 0) (B 15)) : W p l e room_1 s m #[Value.ref b] below meth c H locs cells slots Q (F0 m 1101 ls []) := by
  have f0 : cells + 0 ≤ room_1.cells ∧ slots + 0 ≤ room_1.slots := ⟨by show cells + 0 ≤ 226454; omega, by show slots + 0 ≤ 8416744; omega⟩
  have g1 : ok h1 (B 0) 8 := V.1.2.1.1
  have g2 : ok h2 (A 0) 9 := V.2.1.1.1
  obtain ⟨hX, hbl, hbA, hL⟩ := S
  obtain ⟨z, hz, z', hz', ee, V'⟩ := (t_step V : Sim (f_X8_step h1 (B 0) (xs (i + 1)) (xs (i + 2)) (xs (i + 3)) M1) (f_X9_step h2 (A 0) (xs (i + 1)) (xs (i + 2)) (xs (i + 3)) M2) h1 h2 B A pic)
  refine lv_aload_n X.1.1 X.1.2.1 dL_law_1101 rfl (lv_at hl 1 rfl) ?_
  refine l_arg X.1.1 X.1.2.1 hw.2.2.1 hX hbl hbA hL (i := i) (kn := 1) (by omega) (lv_at hl 0 rfl) (lv_at hl 4 rfl) rfl dL_law_1102 dL_law_1103 dL_law_1105 dL_law_1106 dL_law_1107 ?_
  refine l_arg X.1.1 X.1.2.1 hw.2.2.1 hX hbl hbA hL (i := i) (kn := 2) (by omega) (lv_at hl 0 rfl) (lv_at hl 4 rfl) rfl dL_law_1108 dL_law_1109 dL_law_1111 dL_law_1112 dL_law_1113 ?_
  refine l_arg X.1.1 X.1.2.1 hw.2.2.1 hX hbl hbA hL (i := i) (kn := 3) (by omega) (lv_at hl 0 rfl) (lv_at hl 4 rfl) rfl dL_law_1114 dL_law_1115 dL_law_1117 dL_law_1118 dL_law_1119 ?_
  refine l_V1 (As := [.int (xs (i + 1)), .int (xs (i + 2)), .int (xs (i + 3))]) (rest := []) X hw (c_X8_step hz) (cwV 3 X.1.2.2.2.2 (guV um_L_128 ui_X8_step us_X8_step un_X8 uo_X8_step) rfl rfl rfl (by decide +kernel) ⟨Nat.le_of_ble_eq_true rfl, Nat.le_of_ble_eq_true rfl⟩) g1 (by decide) rfl rfl hl.1 rfl (Nat.le_of_ble_eq_true rfl) dL_law_1120 f0 (fun H locs hw => ?_)
  refine lv_aload_n X.1.1 X.1.2.1 dL_law_1123 rfl (lv_at hl 2 rfl) ?_
  refine l_arg X.1.1 X.1.2.1 hw.2.2.1 hX hbl hbA hL (i := i) (kn := 1) (by omega) (lv_at hl 0 rfl) (lv_at hl 4 rfl) rfl dL_law_1124 dL_law_1125 dL_law_1127 dL_law_1128 dL_law_1129 ?_
  refine l_arg X.1.1 X.1.2.1 hw.2.2.1 hX hbl hbA hL (i := i) (kn := 2) (by omega) (lv_at hl 0 rfl) (lv_at hl 4 rfl) rfl dL_law_1130 dL_law_1131 dL_law_1133 dL_law_1134 dL_law_1135 ?_
  refine l_arg X.1.1 X.1.2.1 hw.2.2.1 hX hbl hbA hL (i := i) (kn := 3) (by omega) (lv_at hl 0 rfl) (lv_at hl 4 rfl) rfl dL_law_1136 dL_law_1137 dL_law_1139 dL_law_1140 dL_law_1141 ?_
  refine l_V2 (As := [.int (xs (i + 1)), .int (xs (i + 2)), .int (xs (i + 3))]) (rest := [.int z.1]) X hw (c_X9_step hz') (cwV 3 X.1.2.2.2.2 (guV um_L_131 ui_X9_step us_X9_step un_X9 uo_X9_step) rfl rfl rfl (by decide +kernel) ⟨Nat.le_of_ble_eq_true rfl, Nat.le_of_ble_eq_true rfl⟩) g2 (by decide) rfl rfl hl.1 rfl (Nat.le_of_ble_eq_true rfl) dL_law_1142 f0 (fun H locs hw => ?_)
  refine lv_icmp_eq (tgt := 1588) X.1.1 X.1.2.1 dL_law_1145 (by decide) (fun _ => ?_) (fun ne => absurd ee ne)
  refine W.widen (k := cells + 147) (n := slots + 5438) (by omega) (by omega) ?_
  exact KK B pic h1 z.2 z'.2 H locs ls V' hw rfl rfl hl
set_option maxRecDepth 100000 in
theorem law_mend (X : Cx p s m #[Value.ref b] c cL_law 8 gtbl RL D cy G) (S : Scr s b L xs G) (hi : i + 6 ≤ L) (hf : cells + 147 ≤ 226454 ∧ slots + 5438 ≤ 8416744) (V : Inv h1 M1 h2 M2 B A pic) (hw : Wd2 D cy G s.heap h1 M1 h2 M2 H locs) (hl : lv_has ls 8 [(0, .ref b), (1, .ref (B 0)), (2, .ref (A 0)), (3, .ref (B 15)), (4, .int (Int32.ofNat i))])
    (KK : Nxt p l e s m below meth c Q D cy G b A h2 i cells slots (B 0) (B 15)) : W p l e room_1 s m #[Value.ref b] below meth c H locs cells slots Q (F0 m 1150 ls []) := by
  have f0 : cells + 0 ≤ room_1.cells ∧ slots + 0 ≤ room_1.slots := ⟨by show cells + 0 ≤ 226454; omega, by show slots + 0 ≤ 8416744; omega⟩
  have g1 : ok h1 (B 0) 8 := V.1.2.1.1
  have g2 : ok h2 (A 0) 9 := V.2.1.1.1
  obtain ⟨hX, hbl, hbA, hL⟩ := S
  obtain ⟨z, hz, z', hz', ee, V'⟩ := (t_mend V : Sim (f_X8_mend h1 (B 0) (xs (i + 1)) M1) (f_X9_mend h2 (A 0) (xs (i + 1)) M2) h1 h2 B A pic)
  refine lv_aload_n X.1.1 X.1.2.1 dL_law_1150 rfl (lv_at hl 1 rfl) ?_
  refine l_arg X.1.1 X.1.2.1 hw.2.2.1 hX hbl hbA hL (i := i) (kn := 1) (by omega) (lv_at hl 0 rfl) (lv_at hl 4 rfl) rfl dL_law_1151 dL_law_1152 dL_law_1154 dL_law_1155 dL_law_1156 ?_
  refine l_V1 (As := [.int (xs (i + 1))]) (rest := []) X hw (c_X8_mend hz) (cwV 1 X.1.2.2.2.2 (guV um_L_132 ui_X8_mend us_X8_mend un_X8 uo_X8_mend) rfl rfl rfl (by decide +kernel) ⟨Nat.le_of_ble_eq_true rfl, Nat.le_of_ble_eq_true rfl⟩) g1 (by decide) rfl rfl hl.1 rfl (Nat.le_of_ble_eq_true rfl) dL_law_1157 f0 (fun H locs hw => ?_)
  refine lv_aload_n X.1.1 X.1.2.1 dL_law_1160 rfl (lv_at hl 2 rfl) ?_
  refine l_arg X.1.1 X.1.2.1 hw.2.2.1 hX hbl hbA hL (i := i) (kn := 1) (by omega) (lv_at hl 0 rfl) (lv_at hl 4 rfl) rfl dL_law_1161 dL_law_1162 dL_law_1164 dL_law_1165 dL_law_1166 ?_
  refine l_V2 (As := [.int (xs (i + 1))]) (rest := [.int z.1]) X hw (c_X9_mend hz') (cwV 1 X.1.2.2.2.2 (guV um_L_135 ui_X9_mend us_X9_mend un_X9 uo_X9_mend) rfl rfl rfl (by decide +kernel) ⟨Nat.le_of_ble_eq_true rfl, Nat.le_of_ble_eq_true rfl⟩) g2 (by decide) rfl rfl hl.1 rfl (Nat.le_of_ble_eq_true rfl) dL_law_1167 f0 (fun H locs hw => ?_)
  refine lv_icmp_eq (tgt := 1588) X.1.1 X.1.2.1 dL_law_1170 (by decide) (fun _ => ?_) (fun ne => absurd ee ne)
  refine W.widen (k := cells + 147) (n := slots + 5438) (by omega) (by omega) ?_
  exact KK B pic h1 z.2 z'.2 H locs ls V' hw rfl rfl hl
set_option maxRecDepth 100000 in
theorem law_left (X : Cx p s m #[Value.ref b] c cL_law 8 gtbl RL D cy G) (S : Scr s b L xs G) (hi : i + 6 ≤ L) (hf : cells + 147 ≤ 226454 ∧ slots + 5438 ≤ 8416744) (V : Inv h1 M1 h2 M2 B A pic) (hw : Wd2 D cy G s.heap h1 M1 h2 M2 H locs) (hl : lv_has ls 8 [(0, .ref b), (1, .ref (B 0)), (2, .ref (A 0)), (3, .ref (B 15)), (4, .int (Int32.ofNat i))])
    (KK : Nxt p l e s m below meth c Q D cy G b A h2 i cells slots (B 0) (B 15)) : W p l e room_1 s m #[Value.ref b] below meth c H locs cells slots Q (F0 m 1389 ls []) := by
  have f0 : cells + 0 ≤ room_1.cells ∧ slots + 0 ≤ room_1.slots := ⟨by show cells + 0 ≤ 226454; omega, by show slots + 0 ≤ 8416744; omega⟩
  have g1 : ok h1 (B 0) 8 := V.1.2.1.1
  have g2 : ok h2 (A 0) 9 := V.2.1.1.1
  obtain ⟨hX, hbl, hbA, hL⟩ := S
  obtain ⟨z, hz, z', hz', ee, V'⟩ := (t_left V : Sim (f_X8_left h1 (B 0) (xs (i + 1)) (xs (i + 2)) M1) (f_X9_left h2 (A 0) (xs (i + 1)) (xs (i + 2)) M2) h1 h2 B A pic)
  refine lv_aload_n X.1.1 X.1.2.1 dL_law_1389 rfl (lv_at hl 1 rfl) ?_
  refine l_arg X.1.1 X.1.2.1 hw.2.2.1 hX hbl hbA hL (i := i) (kn := 1) (by omega) (lv_at hl 0 rfl) (lv_at hl 4 rfl) rfl dL_law_1390 dL_law_1391 dL_law_1393 dL_law_1394 dL_law_1395 ?_
  refine l_arg X.1.1 X.1.2.1 hw.2.2.1 hX hbl hbA hL (i := i) (kn := 2) (by omega) (lv_at hl 0 rfl) (lv_at hl 4 rfl) rfl dL_law_1396 dL_law_1397 dL_law_1399 dL_law_1400 dL_law_1401 ?_
  refine l_V1 (As := [.int (xs (i + 1)), .int (xs (i + 2))]) (rest := []) X hw (c_X8_left hz) (cwV 2 X.1.2.2.2.2 (guV um_L_145 ui_X8_left us_X8_left un_X8 uo_X8_left) rfl rfl rfl (by decide +kernel) ⟨Nat.le_of_ble_eq_true rfl, Nat.le_of_ble_eq_true rfl⟩) g1 (by decide) rfl rfl hl.1 rfl (Nat.le_of_ble_eq_true rfl) dL_law_1402 f0 (fun H locs hw => ?_)
  refine lv_aload_n X.1.1 X.1.2.1 dL_law_1405 rfl (lv_at hl 2 rfl) ?_
  refine l_arg X.1.1 X.1.2.1 hw.2.2.1 hX hbl hbA hL (i := i) (kn := 1) (by omega) (lv_at hl 0 rfl) (lv_at hl 4 rfl) rfl dL_law_1406 dL_law_1407 dL_law_1409 dL_law_1410 dL_law_1411 ?_
  refine l_arg X.1.1 X.1.2.1 hw.2.2.1 hX hbl hbA hL (i := i) (kn := 2) (by omega) (lv_at hl 0 rfl) (lv_at hl 4 rfl) rfl dL_law_1412 dL_law_1413 dL_law_1415 dL_law_1416 dL_law_1417 ?_
  refine l_V2 (As := [.int (xs (i + 1)), .int (xs (i + 2))]) (rest := [.int z.1]) X hw (c_X9_left hz') (cwV 2 X.1.2.2.2.2 (guV um_L_148 ui_X9_left us_X9_left un_X9 uo_X9_left) rfl rfl rfl (by decide +kernel) ⟨Nat.le_of_ble_eq_true rfl, Nat.le_of_ble_eq_true rfl⟩) g2 (by decide) rfl rfl hl.1 rfl (Nat.le_of_ble_eq_true rfl) dL_law_1418 f0 (fun H locs hw => ?_)
  refine lv_icmp_eq (tgt := 1588) X.1.1 X.1.2.1 dL_law_1421 (by decide) (fun _ => ?_) (fun ne => absurd ee ne)
  refine W.widen (k := cells + 147) (n := slots + 5438) (by omega) (by omega) ?_
  exact KK B pic h1 z.2 z'.2 H locs ls V' hw rfl rfl hl
set_option maxRecDepth 100000 in
theorem law_length (X : Cx p s m #[Value.ref b] c cL_law 8 gtbl RL D cy G) (S : Scr s b L xs G) (hi : i + 6 ≤ L) (hf : cells + 147 ≤ 226454 ∧ slots + 5438 ≤ 8416744) (V : Inv h1 M1 h2 M2 B A pic) (hw : Wd2 D cy G s.heap h1 M1 h2 M2 H locs) (hl : lv_has ls 8 [(0, .ref b), (1, .ref (B 0)), (2, .ref (A 0)), (3, .ref (B 15)), (4, .int (Int32.ofNat i))])
    (KK : Nxt p l e s m below meth c Q D cy G b A h2 i cells slots (B 0) (B 15)) : W p l e room_1 s m #[Value.ref b] below meth c H locs cells slots Q (F0 m 1426 ls []) := by
  have f0 : cells + 0 ≤ room_1.cells ∧ slots + 0 ≤ room_1.slots := ⟨by show cells + 0 ≤ 226454; omega, by show slots + 0 ≤ 8416744; omega⟩
  have g1 : ok h1 (B 0) 8 := V.1.2.1.1
  have g2 : ok h2 (A 0) 9 := V.2.1.1.1
  obtain ⟨hX, hbl, hbA, hL⟩ := S
  obtain ⟨z, hz, z', hz', ee, V'⟩ := (t_length V : Sim (f_X8_length h1 (B 0) (xs (i + 1)) M1) (f_X9_length h2 (A 0) (xs (i + 1)) M2) h1 h2 B A pic)
  refine lv_aload_n X.1.1 X.1.2.1 dL_law_1426 rfl (lv_at hl 1 rfl) ?_
  refine l_arg X.1.1 X.1.2.1 hw.2.2.1 hX hbl hbA hL (i := i) (kn := 1) (by omega) (lv_at hl 0 rfl) (lv_at hl 4 rfl) rfl dL_law_1427 dL_law_1428 dL_law_1430 dL_law_1431 dL_law_1432 ?_
  refine l_V1 (As := [.int (xs (i + 1))]) (rest := []) X hw (c_X8_length hz) (cwV 1 X.1.2.2.2.2 (guV um_L_149 ui_X8_length us_X8_length un_X8 uo_X8_length) rfl rfl rfl (by decide +kernel) ⟨Nat.le_of_ble_eq_true rfl, Nat.le_of_ble_eq_true rfl⟩) g1 (by decide) rfl rfl hl.1 rfl (Nat.le_of_ble_eq_true rfl) dL_law_1433 f0 (fun H locs hw => ?_)
  refine lv_aload_n X.1.1 X.1.2.1 dL_law_1436 rfl (lv_at hl 2 rfl) ?_
  refine l_arg X.1.1 X.1.2.1 hw.2.2.1 hX hbl hbA hL (i := i) (kn := 1) (by omega) (lv_at hl 0 rfl) (lv_at hl 4 rfl) rfl dL_law_1437 dL_law_1438 dL_law_1440 dL_law_1441 dL_law_1442 ?_
  refine l_V2 (As := [.int (xs (i + 1))]) (rest := [.int z.1]) X hw (c_X9_length hz') (cwV 1 X.1.2.2.2.2 (guV um_L_152 ui_X9_length us_X9_length un_X9 uo_X9_length) rfl rfl rfl (by decide +kernel) ⟨Nat.le_of_ble_eq_true rfl, Nat.le_of_ble_eq_true rfl⟩) g2 (by decide) rfl rfl hl.1 rfl (Nat.le_of_ble_eq_true rfl) dL_law_1443 f0 (fun H locs hw => ?_)
  refine lv_icmp_eq (tgt := 1588) X.1.1 X.1.2.1 dL_law_1446 (by decide) (fun _ => ?_) (fun ne => absurd ee ne)
  refine W.widen (k := cells + 147) (n := slots + 5438) (by omega) (by omega) ?_
  exact KK B pic h1 z.2 z'.2 H locs ls V' hw rfl rfl hl
set_option maxRecDepth 100000 in
theorem law_due (X : Cx p s m #[Value.ref b] c cL_law 8 gtbl RL D cy G) (S : Scr s b L xs G) (hi : i + 6 ≤ L) (hf : cells + 147 ≤ 226454 ∧ slots + 5438 ≤ 8416744) (V : Inv h1 M1 h2 M2 B A pic) (hw : Wd2 D cy G s.heap h1 M1 h2 M2 H locs) (hl : lv_has ls 8 [(0, .ref b), (1, .ref (B 0)), (2, .ref (A 0)), (3, .ref (B 15)), (4, .int (Int32.ofNat i))])
    (KK : Nxt p l e s m below meth c Q D cy G b A h2 i cells slots (B 0) (B 15)) : W p l e room_1 s m #[Value.ref b] below meth c H locs cells slots Q (F0 m 1451 ls []) := by
  have f0 : cells + 0 ≤ room_1.cells ∧ slots + 0 ≤ room_1.slots := ⟨by show cells + 0 ≤ 226454; omega, by show slots + 0 ≤ 8416744; omega⟩
  have g1 : ok h1 (B 0) 8 := V.1.2.1.1
  have g2 : ok h2 (A 0) 9 := V.2.1.1.1
  obtain ⟨hX, hbl, hbA, hL⟩ := S
  obtain ⟨z, hz, z', hz', ee, V'⟩ := (t_due V : Sim (f_X8_due h1 (B 0) (xs (i + 1)) (xs (i + 2)) (xs (i + 3)) (xs (i + 4)) (xs (i + 5)) M1) (f_X9_due h2 (A 0) (xs (i + 1)) (xs (i + 2)) (xs (i + 3)) (xs (i + 4)) (xs (i + 5)) M2) h1 h2 B A pic)
  refine lv_aload_n X.1.1 X.1.2.1 dL_law_1451 rfl (lv_at hl 1 rfl) ?_
  refine l_arg X.1.1 X.1.2.1 hw.2.2.1 hX hbl hbA hL (i := i) (kn := 1) (by omega) (lv_at hl 0 rfl) (lv_at hl 4 rfl) rfl dL_law_1452 dL_law_1453 dL_law_1455 dL_law_1456 dL_law_1457 ?_
  refine l_arg X.1.1 X.1.2.1 hw.2.2.1 hX hbl hbA hL (i := i) (kn := 2) (by omega) (lv_at hl 0 rfl) (lv_at hl 4 rfl) rfl dL_law_1458 dL_law_1459 dL_law_1461 dL_law_1462 dL_law_1463 ?_
  refine l_arg X.1.1 X.1.2.1 hw.2.2.1 hX hbl hbA hL (i := i) (kn := 3) (by omega) (lv_at hl 0 rfl) (lv_at hl 4 rfl) rfl dL_law_1464 dL_law_1465 dL_law_1467 dL_law_1468 dL_law_1469 ?_
  refine l_arg X.1.1 X.1.2.1 hw.2.2.1 hX hbl hbA hL (i := i) (kn := 4) (by omega) (lv_at hl 0 rfl) (lv_at hl 4 rfl) rfl dL_law_1470 dL_law_1471 dL_law_1473 dL_law_1474 dL_law_1475 ?_
  refine l_arg X.1.1 X.1.2.1 hw.2.2.1 hX hbl hbA hL (i := i) (kn := 5) (by omega) (lv_at hl 0 rfl) (lv_at hl 4 rfl) rfl dL_law_1476 dL_law_1477 dL_law_1479 dL_law_1480 dL_law_1481 ?_
  refine l_V1 (As := [.int (xs (i + 1)), .int (xs (i + 2)), .int (xs (i + 3)), .int (xs (i + 4)), .int (xs (i + 5))]) (rest := []) X hw (c_X8_due hz) (cwV 5 X.1.2.2.2.2 (guV um_L_153 ui_X8_due us_X8_due un_X8 uo_X8_due) rfl rfl rfl (by decide +kernel) ⟨Nat.le_of_ble_eq_true rfl, Nat.le_of_ble_eq_true rfl⟩) g1 (by decide) rfl rfl hl.1 rfl (Nat.le_of_ble_eq_true rfl) dL_law_1482 f0 (fun H locs hw => ?_)
  refine lv_aload_n X.1.1 X.1.2.1 dL_law_1485 rfl (lv_at hl 2 rfl) ?_
  refine l_arg X.1.1 X.1.2.1 hw.2.2.1 hX hbl hbA hL (i := i) (kn := 1) (by omega) (lv_at hl 0 rfl) (lv_at hl 4 rfl) rfl dL_law_1486 dL_law_1487 dL_law_1489 dL_law_1490 dL_law_1491 ?_
  refine l_arg X.1.1 X.1.2.1 hw.2.2.1 hX hbl hbA hL (i := i) (kn := 2) (by omega) (lv_at hl 0 rfl) (lv_at hl 4 rfl) rfl dL_law_1492 dL_law_1493 dL_law_1495 dL_law_1496 dL_law_1497 ?_
  refine l_arg X.1.1 X.1.2.1 hw.2.2.1 hX hbl hbA hL (i := i) (kn := 3) (by omega) (lv_at hl 0 rfl) (lv_at hl 4 rfl) rfl dL_law_1498 dL_law_1499 dL_law_1501 dL_law_1502 dL_law_1503 ?_
  refine l_arg X.1.1 X.1.2.1 hw.2.2.1 hX hbl hbA hL (i := i) (kn := 4) (by omega) (lv_at hl 0 rfl) (lv_at hl 4 rfl) rfl dL_law_1504 dL_law_1505 dL_law_1507 dL_law_1508 dL_law_1509 ?_
  refine l_arg X.1.1 X.1.2.1 hw.2.2.1 hX hbl hbA hL (i := i) (kn := 5) (by omega) (lv_at hl 0 rfl) (lv_at hl 4 rfl) rfl dL_law_1510 dL_law_1511 dL_law_1513 dL_law_1514 dL_law_1515 ?_
  refine l_V2 (As := [.int (xs (i + 1)), .int (xs (i + 2)), .int (xs (i + 3)), .int (xs (i + 4)), .int (xs (i + 5))]) (rest := [.int z.1]) X hw (c_X9_due hz') (cwV 5 X.1.2.2.2.2 (guV um_L_156 ui_X9_due us_X9_due un_X9 uo_X9_due) rfl rfl rfl (by decide +kernel) ⟨Nat.le_of_ble_eq_true rfl, Nat.le_of_ble_eq_true rfl⟩) g2 (by decide) rfl rfl hl.1 rfl (Nat.le_of_ble_eq_true rfl) dL_law_1516 f0 (fun H locs hw => ?_)
  refine lv_icmp_eq (tgt := 1588) X.1.1 X.1.2.1 dL_law_1519 (by decide) (fun _ => ?_) (fun ne => absurd ee ne)
  refine W.widen (k := cells + 147) (n := slots + 5438) (by omega) (by omega) ?_
  exact KK B pic h1 z.2 z'.2 H locs ls V' hw rfl rfl hl
set_option maxRecDepth 100000 in
theorem law_undo (X : Cx p s m #[Value.ref b] c cL_law 8 gtbl RL D cy G) (S : Scr s b L xs G) (hi : i + 6 ≤ L) (hf : cells + 147 ≤ 226454 ∧ slots + 5438 ≤ 8416744) (V : Inv h1 M1 h2 M2 B A pic) (hw : Wd2 D cy G s.heap h1 M1 h2 M2 H locs) (hl : lv_has ls 8 [(0, .ref b), (1, .ref (B 0)), (2, .ref (A 0)), (3, .ref (B 15)), (4, .int (Int32.ofNat i))])
    (KK : Nxt p l e s m below meth c Q D cy G b A h2 i cells slots (B 0) (B 15)) : W p l e room_1 s m #[Value.ref b] below meth c H locs cells slots Q (F0 m 1524 ls []) := by
  have f0 : cells + 0 ≤ room_1.cells ∧ slots + 0 ≤ room_1.slots := ⟨by show cells + 0 ≤ 226454; omega, by show slots + 0 ≤ 8416744; omega⟩
  have g1 : ok h1 (B 0) 8 := V.1.2.1.1
  have g2 : ok h2 (A 0) 9 := V.2.1.1.1
  obtain ⟨hX, hbl, hbA, hL⟩ := S
  obtain ⟨z, hz, z', hz', ee, V'⟩ := (t_undo V : Sim (f_X8_undo h1 (B 0)  M1) (f_X9_undo h2 (A 0)  M2) h1 h2 B A pic)
  refine lv_aload_n X.1.1 X.1.2.1 dL_law_1524 rfl (lv_at hl 1 rfl) ?_
  refine l_V1 (As := []) (rest := []) X hw (c_X8_undo hz) (cwV 0 X.1.2.2.2.2 (guV um_L_157 ui_X8_undo us_X8_undo un_X8 uo_X8_undo) rfl rfl rfl (by decide +kernel) ⟨Nat.le_of_ble_eq_true rfl, Nat.le_of_ble_eq_true rfl⟩) g1 (by decide) rfl rfl hl.1 rfl (Nat.le_of_ble_eq_true rfl) dL_law_1525 f0 (fun H locs hw => ?_)
  refine lv_aload_n X.1.1 X.1.2.1 dL_law_1528 rfl (lv_at hl 2 rfl) ?_
  refine l_V2 (As := []) (rest := [.int z.1]) X hw (c_X9_undo hz') (cwV 0 X.1.2.2.2.2 (guV um_L_161 ui_X9_undo us_X9_undo un_X9 uo_X9_undo) rfl rfl rfl (by decide +kernel) ⟨Nat.le_of_ble_eq_true rfl, Nat.le_of_ble_eq_true rfl⟩) g2 (by decide) rfl rfl hl.1 rfl (Nat.le_of_ble_eq_true rfl) dL_law_1529 f0 (fun H locs hw => ?_)
  refine lv_icmp_eq (tgt := 1588) X.1.1 X.1.2.1 dL_law_1532 (by decide) (fun _ => ?_) (fun ne => absurd ee ne)
  refine W.widen (k := cells + 147) (n := slots + 5438) (by omega) (by omega) ?_
  exact KK B pic h1 z.2 z'.2 H locs ls V' hw rfl rfl hl
set_option maxRecDepth 100000 in
theorem law_image (X : Cx p s m #[Value.ref b] c cL_law 8 gtbl RL D cy G) (S : Scr s b L xs G) (hi : i + 6 ≤ L) (hf : cells + 147 ≤ 226454 ∧ slots + 5438 ≤ 8416744) (V : Inv h1 M1 h2 M2 B A pic) (hw : Wd2 D cy G s.heap h1 M1 h2 M2 H locs) (hl : lv_has ls 8 [(0, .ref b), (1, .ref (B 0)), (2, .ref (A 0)), (3, .ref (B 15)), (4, .int (Int32.ofNat i))])
    (KK : Nxt p l e s m below meth c Q D cy G b A h2 i cells slots (B 0) (B 15)) : W p l e room_1 s m #[Value.ref b] below meth c H locs cells slots Q (F0 m 1537 ls []) := by
  have f0 : cells + 0 ≤ room_1.cells ∧ slots + 0 ≤ room_1.slots := ⟨by show cells + 0 ≤ 226454; omega, by show slots + 0 ≤ 8416744; omega⟩
  have g1 : ok h1 (B 0) 8 := V.1.2.1.1
  have g2 : ok h2 (A 0) 9 := V.2.1.1.1
  obtain ⟨hX, hbl, hbA, hL⟩ := S
  have w0 := hw
  have f3 : cells + 147 ≤ room_1.cells ∧ slots + 5438 ≤ room_1.slots := hf
  have f4 : cells + 147 + 0 ≤ room_1.cells ∧ slots + 5438 + 0 ≤ room_1.slots := hf
  rcases V.1.2.2.2.2.2.2 with ⟨np, r5⟩ | ⟨hp, r5, -⟩
  · have ep : pic = False := propext ⟨np, False.elim⟩
    subst ep
    refine lv_aload_n X.1.1 X.1.2.1 dL_law_1537 rfl (lv_at hl 1 rfl) ?_
    refine l_V1N (As := []) (rest := []) X hw (c_X8_image0 r5 g1 (fun q u hq hu => image0_pre V w0.nd hq hu)) (cwV 0 X.1.2.2.2.2 (guV um_L_162 ui_X8_image us_X8_image un_X8 uo_X8_image) rfl rfl rfl (by decide +kernel) ⟨Nat.le_of_ble_eq_true rfl, Nat.le_of_ble_eq_true rfl⟩) g1 (by decide) rfl rfl hl.1 rfl (Nat.le_of_ble_eq_true rfl) dL_law_1538 f3 (fun u H locs hu hw => ?_)
    obtain ⟨B', e0, e15, z', hz', ez, V'⟩ := t_image0 V w0.nd hu
    refine lv_aload_n X.1.1 X.1.2.1 dL_law_1541 rfl (lv_at hl 2 rfl) ?_
    refine l_V2 (As := []) (rest := [.int (0 : Int32)]) X hw (c_X9_image hz') (cwV 0 X.1.2.2.2.2 (guV um_L_165 ui_X9_image us_X9_image un_X9 uo_X9_image) rfl rfl rfl (by decide +kernel) ⟨Nat.le_of_ble_eq_true rfl, Nat.le_of_ble_eq_true rfl⟩) g2 (by decide) rfl rfl hl.1 rfl (Nat.le_of_ble_eq_true rfl) dL_law_1542 f4 (fun H locs hw => ?_)
    refine lv_icmp_eq (tgt := 1588) X.1.1 X.1.2.1 dL_law_1545 (by decide) (fun _ => ?_) (fun ne => absurd ez.symm ne)
    exact KK B' True u.1 u.2 z'.2 H locs ls V' hw e0 e15 hl
  · have ep : pic = True := propext ⟨fun _ => trivial, fun _ => hp⟩
    subst ep
    obtain ⟨z, hz, z', hz', ez, V'⟩ := t_image1 V
    refine lv_aload_n X.1.1 X.1.2.1 dL_law_1537 rfl (lv_at hl 1 rfl) ?_
    refine l_V1 (As := []) (rest := []) X hw (c_X8_image1 r5 hz) (cwV 0 X.1.2.2.2.2 (guV um_L_162 ui_X8_image us_X8_image un_X8 uo_X8_image) rfl rfl rfl (by decide +kernel) ⟨Nat.le_of_ble_eq_true rfl, Nat.le_of_ble_eq_true rfl⟩) g1 (by decide) rfl rfl hl.1 rfl (Nat.le_of_ble_eq_true rfl) dL_law_1538 f0 (fun H locs hw => ?_)
    refine lv_aload_n X.1.1 X.1.2.1 dL_law_1541 rfl (lv_at hl 2 rfl) ?_
    refine l_V2 (As := []) (rest := [.int (1 : Int32)]) X hw (c_X9_image hz') (cwV 0 X.1.2.2.2.2 (guV um_L_165 ui_X9_image us_X9_image un_X9 uo_X9_image) rfl rfl rfl (by decide +kernel) ⟨Nat.le_of_ble_eq_true rfl, Nat.le_of_ble_eq_true rfl⟩) g2 (by decide) rfl rfl hl.1 rfl (Nat.le_of_ble_eq_true rfl) dL_law_1542 f0 (fun H locs hw => ?_)
    refine lv_icmp_eq (tgt := 1588) X.1.1 X.1.2.1 dL_law_1545 (by decide) (fun _ => ?_) (fun ne => absurd ez.symm ne)
    refine W.widen (k := cells + 147) (n := slots + 5438) (by omega) (by omega) ?_
    exact KK B True h1 z z'.2 H locs ls V' hw rfl rfl hl
set_option maxRecDepth 100000 in
theorem law_again (X : Cx p s m #[Value.ref b] c cL_law 8 gtbl RL D cy G) (S : Scr s b L xs G) (hi : i + 6 ≤ L) (hf : cells + 147 ≤ 226454 ∧ slots + 5438 ≤ 8416744) (V : Inv h1 M1 h2 M2 B A pic) (hw : Wd2 D cy G s.heap h1 M1 h2 M2 H locs) (hl : lv_has ls 8 [(0, .ref b), (1, .ref (B 0)), (2, .ref (A 0)), (3, .ref (B 15)), (4, .int (Int32.ofNat i))])
    (KK : Nxt p l e s m below meth c Q D cy G b A h2 i cells slots (B 0) (B 15)) : W p l e room_1 s m #[Value.ref b] below meth c H locs cells slots Q (F0 m 1550 ls []) := by
  have f0 : cells + 0 ≤ room_1.cells ∧ slots + 0 ≤ room_1.slots := ⟨by show cells + 0 ≤ 226454; omega, by show slots + 0 ≤ 8416744; omega⟩
  have g1 : ok h1 (B 0) 8 := V.1.2.1.1
  have g2 : ok h2 (A 0) 9 := V.2.1.1.1
  obtain ⟨hX, hbl, hbA, hL⟩ := S
  obtain ⟨z, hz, z', hz', ee, V'⟩ := (t_again V : Sim (f_X8_again h1 (B 0)  M1) (f_X9_again h2 (A 0)  M2) h1 h2 B A pic)
  refine lv_aload_n X.1.1 X.1.2.1 dL_law_1550 rfl (lv_at hl 1 rfl) ?_
  refine l_V1 (As := []) (rest := []) X hw (c_X8_again hz) (cwV 0 X.1.2.2.2.2 (guV um_L_166 ui_X8_again us_X8_again un_X8 uo_X8_again) rfl rfl rfl (by decide +kernel) ⟨Nat.le_of_ble_eq_true rfl, Nat.le_of_ble_eq_true rfl⟩) g1 (by decide) rfl rfl hl.1 rfl (Nat.le_of_ble_eq_true rfl) dL_law_1551 f0 (fun H locs hw => ?_)
  refine lv_aload_n X.1.1 X.1.2.1 dL_law_1554 rfl (lv_at hl 2 rfl) ?_
  refine l_V2 (As := []) (rest := [.int z.1]) X hw (c_X9_again hz') (cwV 0 X.1.2.2.2.2 (guV um_L_169 ui_X9_again us_X9_again un_X9 uo_X9_again) rfl rfl rfl (by decide +kernel) ⟨Nat.le_of_ble_eq_true rfl, Nat.le_of_ble_eq_true rfl⟩) g2 (by decide) rfl rfl hl.1 rfl (Nat.le_of_ble_eq_true rfl) dL_law_1555 f0 (fun H locs hw => ?_)
  refine lv_icmp_eq (tgt := 1588) X.1.1 X.1.2.1 dL_law_1558 (by decide) (fun _ => ?_) (fun ne => absurd ee ne)
  refine W.widen (k := cells + 147) (n := slots + 5438) (by omega) (by omega) ?_
  exact KK B pic h1 z.2 z'.2 H locs ls V' hw rfl rfl hl
set_option maxRecDepth 100000 in
theorem law_count (X : Cx p s m #[Value.ref b] c cL_law 8 gtbl RL D cy G) (S : Scr s b L xs G) (hi : i + 6 ≤ L) (hf : cells + 147 ≤ 226454 ∧ slots + 5438 ≤ 8416744) (V : Inv h1 M1 h2 M2 B A pic) (hw : Wd2 D cy G s.heap h1 M1 h2 M2 H locs) (hl : lv_has ls 8 [(0, .ref b), (1, .ref (B 0)), (2, .ref (A 0)), (3, .ref (B 15)), (4, .int (Int32.ofNat i))])
    (KK : Nxt p l e s m below meth c Q D cy G b A h2 i cells slots (B 0) (B 15)) : W p l e room_1 s m #[Value.ref b] below meth c H locs cells slots Q (F0 m 1563 ls []) := by
  have f0 : cells + 0 ≤ room_1.cells ∧ slots + 0 ≤ room_1.slots := ⟨by show cells + 0 ≤ 226454; omega, by show slots + 0 ≤ 8416744; omega⟩
  have g1 : ok h1 (B 0) 8 := V.1.2.1.1
  have g2 : ok h2 (A 0) 9 := V.2.1.1.1
  obtain ⟨hX, hbl, hbA, hL⟩ := S
  obtain ⟨z, hz0, z', hz', ee, V'⟩ := (t_count V : Sim ((f_X8_count h1 (B 0) (xs (i + 1)) M1).bind fun r => some (r, M1)) (f_X9_count h2 (A 0) (xs (i + 1)) M2) h1 h2 B A pic)
  obtain ⟨r, hz, hr⟩ := Option.bind_eq_some_iff.mp hz0
  cases hr
  refine lv_aload_n X.1.1 X.1.2.1 dL_law_1563 rfl (lv_at hl 1 rfl) ?_
  refine l_arg X.1.1 X.1.2.1 hw.2.2.1 hX hbl hbA hL (i := i) (kn := 1) (by omega) (lv_at hl 0 rfl) (lv_at hl 4 rfl) rfl dL_law_1564 dL_law_1565 dL_law_1567 dL_law_1568 dL_law_1569 ?_
  refine l_V1 (As := [.int (xs (i + 1))]) (rest := []) X hw (c_X8_count hz) (cwV 1 X.1.2.2.2.2 (guV um_L_170 ui_X8_count us_X8_count un_X8 uo_X8_count) rfl rfl rfl (by decide +kernel) ⟨Nat.le_of_ble_eq_true rfl, Nat.le_of_ble_eq_true rfl⟩) g1 (by decide) rfl rfl hl.1 rfl (Nat.le_of_ble_eq_true rfl) dL_law_1570 f0 (fun H locs hw => ?_)
  refine lv_aload_n X.1.1 X.1.2.1 dL_law_1573 rfl (lv_at hl 2 rfl) ?_
  refine l_arg X.1.1 X.1.2.1 hw.2.2.1 hX hbl hbA hL (i := i) (kn := 1) (by omega) (lv_at hl 0 rfl) (lv_at hl 4 rfl) rfl dL_law_1574 dL_law_1575 dL_law_1577 dL_law_1578 dL_law_1579 ?_
  refine l_V2 (As := [.int (xs (i + 1))]) (rest := [.int r]) X hw (c_X9_count hz') (cwV 1 X.1.2.2.2.2 (guV um_L_173 ui_X9_count us_X9_count un_X9 uo_X9_count) rfl rfl rfl (by decide +kernel) ⟨Nat.le_of_ble_eq_true rfl, Nat.le_of_ble_eq_true rfl⟩) g2 (by decide) rfl rfl hl.1 rfl (Nat.le_of_ble_eq_true rfl) dL_law_1580 f0 (fun H locs hw => ?_)
  refine lv_icmp_eq (tgt := 1588) X.1.1 X.1.2.1 dL_law_1583 (by decide) (fun _ => ?_) (fun ne => absurd ee ne)
  refine W.widen (k := cells + 147) (n := slots + 5438) (by omega) (by omega) ?_
  exact KK B pic h1 M1 z'.2 H locs ls V' hw rfl rfl hl
end LAW
