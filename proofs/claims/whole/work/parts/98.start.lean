/-! THE LAW: what the start gives -/
theorem lw_in {w : Cond} (i : Nat) (h : tables_1[i]? = some w) : w ∈ lw_tbl := List.mem_append_right _ (List.mem_of_getElem? h)
theorem nestW_in : ∀ w ∈ nestW, w ∈ lw_tbl := by
  intro w hw
  simp only [nestW, List.mem_cons, List.not_mem_nil, or_false] at hw
  rcases hw with rfl | rfl | rfl | rfl | rfl | rfl | rfl | rfl | rfl | rfl | rfl | rfl | rfl | rfl
  · exact lw_in 26 (by decide +kernel)
  · exact lw_in 50 (by decide +kernel)
  · exact lw_in 80 (by decide +kernel)
  · exact lw_in 150 (by decide +kernel)
  · exact lw_in 202 (by decide +kernel)
  · exact lw_in 224 (by decide +kernel)
  · exact lw_in 236 (by decide +kernel)
  · exact lw_in 238 (by decide +kernel)
  · exact lw_in 369 (by decide +kernel)
  · exact lw_in 466 (by decide +kernel)
  · exact lw_in 707 (by decide +kernel)
  · exact lw_in 709 (by decide +kernel)
  · exact lw_in 711 (by decide +kernel)
  · exact lw_in 705 (by decide +kernel)
theorem str_of {args : Array Value} {s : State} {k : Nat} {tx : String} (h1 : (Cond.stringRef RX8 k tx).before args s = true) (h2 : (Cond.exactly (.string RX8 k) "java/lang/String").before args s = true) : ∃ a : Nat, vk_R RX8 k tx a s := by
  obtain ⟨a, c, cA, kA, q1, -⟩ := Cond.exactly_spec (args := args) (first := s) (o := none) (s := s) (idx := []) (t := .string RX8 k) (cls := "java/lang/String") h2
  exact ⟨a, vk_R.of h1 q1⟩
theorem SF_of {b : Nat} {s : State} (hts : ∀ w ∈ lw_tbl, w.before #[Value.ref b] s = true) (hgv : (Jvm.Cond.and given_1 narrow_1).before #[Value.ref b] s = true) : SF (fun q => s.heap.size ≤ q) s s.heap := by
  have hs := flat_of_before _ hgv
  have hA : ∀ a : Nat, a < s.heap.size → ¬ (fun q : Nat => s.heap.size ≤ q) a := fun a h => Nat.not_le.mpr h
  have htg : ∀ w ∈ gtbl, w.before #[Value.ref b] s = true := fun w hw => hts w (gtbl_sub w hw)
  obtain ⟨t, ht, hT⟩ := va_Tof (tm := .static "LoadCounter" "BYTES_OF_WIDTH" "[I") (ty := .int) (N := 6) (f := bow) (A := fun q => s.heap.size ≤ q) (by decide) (hs (.arrayOf (.static "LoadCounter" "BYTES_OF_WIDTH" "[I") .int) (by decide +kernel)) (va_eqt (z := 6) (hs (.eq (.length (.static "LoadCounter" "BYTES_OF_WIDTH" "[I")) (.int 6)) (by decide +kernel))) (fun j hj => by
    rcases (show j = 0 ∨ j = 1 ∨ j = 2 ∨ j = 3 ∨ j = 4 ∨ j = 5 by omega) with rfl | rfl | rfl | rfl | rfl | rfl
    · exact va_eqt (z := 1) (hs (.eq (.elem (.static "LoadCounter" "BYTES_OF_WIDTH" "[I") (.int 0)) (.int 1)) (by decide +kernel))
    · exact va_eqt (z := 2) (hs (.eq (.elem (.static "LoadCounter" "BYTES_OF_WIDTH" "[I") (.int 1)) (.int 2)) (by decide +kernel))
    · exact va_eqt (z := 4) (hs (.eq (.elem (.static "LoadCounter" "BYTES_OF_WIDTH" "[I") (.int 2)) (.int 4)) (by decide +kernel))
    · exact va_eqt (z := 8) (hs (.eq (.elem (.static "LoadCounter" "BYTES_OF_WIDTH" "[I") (.int 3)) (.int 8)) (by decide +kernel))
    · exact va_eqt (z := 4) (hs (.eq (.elem (.static "LoadCounter" "BYTES_OF_WIDTH" "[I") (.int 4)) (.int 4)) (by decide +kernel))
    · exact va_eqt (z := 8) (hs (.eq (.elem (.static "LoadCounter" "BYTES_OF_WIDTH" "[I") (.int 5)) (.int 8)) (by decide +kernel))) hA
  refine ⟨⟨t, va_Zof (hts _ (lw_in 347 (by decide +kernel))) (htg _ un_X8) ht hA, hT⟩, vx_Zqof (hts _ (lw_in 730 (by decide +kernel))) (htg _ un_java_lang_Throwable) (hs (.isRef (.static Bundle.tN "UNASSIGNED_STACK" Bundle.steD)) (by decide +kernel)) hA, vx_Zqof (hts _ (lw_in 732 (by decide +kernel))) (htg _ un_java_lang_Throwable) (hs (.isRef (.static Bundle.tN "SUPPRESSED_SENTINEL" Bundle.listD)) (by decide +kernel)) hA, ?_, ?_, ?_, ?_, ?_, ?_⟩
  · exact str_of (hts _ (lw_in 742 (by decide +kernel))) (hs (.exactly (.string "LoadCounter" 152) "java/lang/String") (by decide +kernel))
  · exact str_of (hts _ (lw_in 776 (by decide +kernel))) (hs (.exactly (.string "LoadCounter" 161) "java/lang/String") (by decide +kernel))
  · exact str_of (hts _ (lw_in 786 (by decide +kernel))) (hs (.exactly (.string "LoadCounter" 170) "java/lang/String") (by decide +kernel))
  · exact str_of (hts _ (lw_in 804 (by decide +kernel))) (hs (.exactly (.string "LoadCounter" 226) "java/lang/String") (by decide +kernel))
  · exact str_of (hts _ (lw_in 815 (by decide +kernel))) (hs (.exactly (.string "LoadCounter" 248) "java/lang/String") (by decide +kernel))
  · exact str_of (hts _ (lw_in 827 (by decide +kernel))) (hs (.exactly (.string "LoadCounter" 254) "java/lang/String") (by decide +kernel))
theorem NN_of {b : Nat} {s : State} (hts : ∀ w ∈ lw_tbl, w.before #[Value.ref b] s = true) : NN s :=
  ⟨fun w hw => va_Nw.of ((by decide +kernel : ∀ w ∈ nestW, w.onTables = true) w hw) (hts w (nestW_in w hw)), va_AO.of (hts _ (lw_in 46 (by decide +kernel))), va_AO.of (hts _ (lw_in 48 (by decide +kernel)))⟩
theorem K_of {b : Nat} {s : State} (hts : ∀ w ∈ lw_tbl, w.before #[Value.ref b] s = true) : ∃ (D : va_G) (cy : Nat → ClassId), va_K D vwCl (tyL cy) s := by
  have htg : ∀ w ∈ gtbl, w.before #[Value.ref b] s = true := fun w hw => hts w (gtbl_sub w hw)
  obtain ⟨c0, i0, k0⟩ := u_known (C := RX0) (T := TX0) (N := 2) (n := 2) htg inX0 (htg _ up_X0)
  obtain ⟨c1, i1, k1⟩ := u_known (C := RX1) (T := TX1) (N := 2) (n := 2) htg inX1 (htg _ up_X1)
  obtain ⟨c2, i2, k2⟩ := u_known (C := RX2) (T := TX2) (N := 9) (n := 9) htg inX2 (htg _ up_X2)
  obtain ⟨c3, i3, k3⟩ := u_known (C := RX3) (T := TX3) (N := 3) (n := 3) htg inX3 (htg _ up_X3)
  obtain ⟨c4, i4, k4⟩ := u_known (C := RX4) (T := TX4) (N := 5) (n := 5) htg inX4 (htg _ up_X4)
  obtain ⟨c5, i5, k5⟩ := u_known (C := RX5) (T := TX5) (N := 12) (n := 12) htg inX5 (htg _ up_X5)
  obtain ⟨c6, i6, k6⟩ := u_known (C := RX6) (T := TX6) (N := 2) (n := 2) htg inX6 (htg _ up_X6)
  obtain ⟨c7, i7, k7⟩ := u_known (C := RX7) (T := TX7) (N := 4) (n := 4) htg inX7 (htg _ up_X7)
  obtain ⟨c8, i8, k8⟩ := u_known (C := RX8) (T := TX8) (N := 10) (n := 10) htg inX8 (htg _ up_X8)
  obtain ⟨c9, i9, k9⟩ := u_known (C := RX9) (T := TX9) (N := 22) (n := 22) htg inX9 (htg _ up_X9)
  obtain ⟨a10, r10, f10⟩ := kA_of (ty := .byte) (htg _ ua_byte)
  obtain ⟨a11, r11, f11⟩ := kA_of (ty := .int) (htg _ ua_int)
  obtain ⟨a12, r12, f12⟩ := kA_of (ty := .long) (htg _ ua_long)
  obtain ⟨a13, r13, f13⟩ := kA_of (ty := .boolean) (htg _ ua_boolean)
  obtain ⟨a14, r14, f14⟩ := kO_of (C := "LoadCounter$Detail") (hts _ (lw_in 48 (by decide +kernel)))
  obtain ⟨a15, r15, f15⟩ := kO_of (C := "LoadCounter$Place") (hts _ (lw_in 46 (by decide +kernel)))
  refine ⟨(fun k => [c0, c1, c2, c3, c4, c5, c6, c7, c8, c9].getD k c0, fun k => [i0, i1, i2, i3, i4, i5, i6, i7, i8, i9].getD k i0), fun k => [a10, a11, a12, a13, a14, a15].getD (k - 10) a10, fun k q hq => ?_, fun k q hq => ?_⟩
  · match k, hq with
    | 0, hq => cases hq; exact k0
    | 1, hq => cases hq; exact k1
    | 2, hq => cases hq; exact k2
    | 3, hq => cases hq; exact k3
    | 4, hq => cases hq; exact k4
    | 5, hq => cases hq; exact k5
    | 6, hq => cases hq; exact k6
    | 7, hq => cases hq; exact k7
    | 8, hq => cases hq; exact k8
    | 9, hq => cases hq; exact k9
    | k + 10, hq => simp [vwCl] at hq
  · match k, hq with
    | 0, hq => cases hq; exact ⟨r10, f10⟩
    | 1, hq => cases hq; exact ⟨r11, f11⟩
    | 2, hq => cases hq; exact ⟨r12, f12⟩
    | 3, hq => cases hq; exact ⟨r13, f13⟩
    | 4, hq => cases hq; exact ⟨r14, f14⟩
    | 5, hq => cases hq; exact ⟨r15, f15⟩
    | k + 6, hq => simp [tyL] at hq
def e0 : Hs := ([], fun _ => 0, fun _ => 0, fun _ _ => none)
def m0 : Mm := (fun _ _ => 0, fun _ _ => 0)
theorem Wd2.rf {D : va_G} {cy : Nat → ClassId} {s : State} : Wd2 D cy (fun q => s.heap.size ≤ q) s.heap e0 m0 e0 m0 s.heap [] :=
  ⟨fun k q h => (by cases h), ⟨fun i j p q h => (by cases h), fun k q h => (by cases h)⟩, va_S.rf, fun q h => h⟩
set_option maxHeartbeats 4000000 in
set_option maxRecDepth 100000 in
theorem whole_start {p : Program} {e : Env} {s : State} {m : MethodId} {below : List Frame} {meth : Method} {c : Code} (l : Launch) (hflags : l.flags = flags0) {b L : Nat} {xs : Nat → Int32} (hL : L ≤ 3072) (C0 : lw_At p s m meth c b L xs) : W p l e room_1 s m #[Value.ref b] below meth c s.heap [] 0 0 (lw_Z below #[Value.ref b] s) (entryFrame m ([Value.ref b] : List Value).toArray 8) := by
  obtain ⟨hx, hb, hr, hml, hown, hts, hX, hbl, hlk, hgv⟩ := id C0
  have hst : l.stackTraces = false := by
    unfold Launch.stackTraces
    rw [hflags]
    decide +kernel
  obtain ⟨D, cy, hK⟩ := K_of hts
  have X : Cx p s m #[Value.ref b] c cL_law 8 gtbl RL D cy (fun q => s.heap.size ≤ q) := ⟨⟨hx, hb, hml, hown, fun w hw => hts w (gtbl_sub w hw)⟩, hK, NN_of hts, SF_of hts hgv⟩
  have hw : Wd2 D cy (fun q => s.heap.size ≤ q) s.heap e0 m0 e0 m0 s.heap [] := Wd2.rf
  have hl := lv_entry ([.ref b]) (n := 8) (Nat.le_of_ble_eq_true rfl)
  rw [lg_entry_eq]
  generalize (lg_sl ([.ref b]) ++ List.replicate (8 - (lg_sl ([.ref b])).length) Slot.unset).toArray = ls at hl ⊢
  have hl : lv_has ls 8 [(0, .ref b)] := hl
  refine l_new2 (k := 8) X hw rfl inX8 tyX8_ok ul_L_8 up_X8 un_X8 (by decide) (fun j hj => by rcases (show j = 0 ∨ j = 1 ∨ j = 2 ∨ j = 3 ∨ j = 4 ∨ j = 5 ∨ j = 6 ∨ j = 7 ∨ j = 8 ∨ j = 9 by omega) with rfl | rfl | rfl | rfl | rfl | rfl | rfl | rfl | rfl | rfl <;> rfl) (Nat.le_of_ble_eq_true rfl) (Nat.le_of_ble_eq_true rfl) dL_law_0 (fun q H hq hw => ?_)
  refine lv_dup X.1.1 X.1.2.1 dL_law_3 rfl ?_
  refine l_init1 (As := []) (rest := [.ref q]) X hw.swap (c_X8_init nh_ok) (cwI 0 X.1.2.2.2.2 (guN uo_X8_init) rfl rfl rfl (X.1.2.2.2.2 _ un_X8) (X.1.2.2.2.2 _ um_L_33) (X.1.2.2.2.2 _ ui_X8_init) rfl (by decide +kernel) ⟨Nat.le_of_ble_eq_true rfl, Nat.le_of_ble_eq_true rfl⟩) rfl hl.1 rfl (Nat.le_of_ble_eq_true rfl) dL_law_4 ⟨Nat.le_of_ble_eq_true rfl, Nat.le_of_ble_eq_true rfl⟩ (fun u H locs hu hw => ?_)
  refine lv_astore_n (lv' := [(1, .ref q), (0, .ref b)]) X.1.1 X.1.2.1 dL_law_7 rfl hl (by decide) rfl (fun ls hl => ?_)
  refine l_new2 (k := 9) X hw rfl inX9 tyX9_ok ul_L_34 up_X9 un_X9 (by decide) (fun j hj => by rcases (show j = 0 ∨ j = 1 ∨ j = 2 ∨ j = 3 ∨ j = 4 ∨ j = 5 ∨ j = 6 ∨ j = 7 ∨ j = 8 ∨ j = 9 ∨ j = 10 ∨ j = 11 ∨ j = 12 ∨ j = 13 ∨ j = 14 ∨ j = 15 ∨ j = 16 ∨ j = 17 ∨ j = 18 ∨ j = 19 ∨ j = 20 ∨ j = 21 by omega) with rfl | rfl | rfl | rfl | rfl | rfl | rfl | rfl | rfl | rfl | rfl | rfl | rfl | rfl | rfl | rfl | rfl | rfl | rfl | rfl | rfl | rfl <;> rfl) (Nat.le_of_ble_eq_true rfl) (Nat.le_of_ble_eq_true rfl) dL_law_8 (fun q2 H hq2 hw => ?_)
  refine lv_dup X.1.1 X.1.2.1 dL_law_11 rfl ?_
  refine l_init1 (As := []) (rest := [.ref q2]) X hw.swap (c_X9_init nh_ok) (cwI 0 X.1.2.2.2.2 (guN uo_X9_init) rfl rfl rfl (X.1.2.2.2.2 _ un_X9) (X.1.2.2.2.2 _ um_L_36) (X.1.2.2.2.2 _ ui_X9_init) rfl (by decide +kernel) ⟨Nat.le_of_ble_eq_true rfl, Nat.le_of_ble_eq_true rfl⟩) rfl hl.1 rfl (Nat.le_of_ble_eq_true rfl) dL_law_12 ⟨Nat.le_of_ble_eq_true rfl, Nat.le_of_ble_eq_true rfl⟩ (fun v H locs hv hw => ?_)
  refine lv_astore_n (lv' := [(2, .ref q2), (1, .ref q), (0, .ref b)]) X.1.1 X.1.2.1 dL_law_15 rfl hl (by decide) rfl (fun ls hl => ?_)
  refine lv_iconst (v := (1 : Int32)) X.1.1 X.1.2.1 dL_law_16 (by decide) ?_
  refine l_newaJ2 (N := 1) X hw (by decide) (by decide) (by decide) (Nat.le_of_ble_eq_true rfl) (Nat.le_of_ble_eq_true rfl) dL_law_17 (fun qo H hqo hw => ?_)
  refine lv_astore_n (lv' := [(3, .ref qo), (2, .ref q2), (1, .ref q), (0, .ref b)]) X.1.1 X.1.2.1 dL_law_19 rfl hl (by decide) rfl (fun ls hl => ?_)
  refine lv_iconst (v := (0 : Int32)) X.1.1 X.1.2.1 dL_law_20 (by decide) ?_
  refine lv_istore (lv' := [(4, .int 0), (3, .ref qo), (2, .ref q2), (1, .ref q), (0, .ref b)]) X.1.1 X.1.2.1 dL_law_21 hl (by decide) rfl (fun ls hl => ?_)
  obtain ⟨⟨L1, eL, lL⟩, ndu, O⟩ := office_N hu nh_ok (by show [q].Nodup; simp) (by rw [nh_R])
  have O : OfN u q 1 := O
  have eL : zL u.1 = [q] ++ L1 := eL
  obtain ⟨A, A0, S2, w, z, -⟩ := start9 hv nh_ok (by show [q2].Nodup; simp) nm_I
  obtain ⟨B, B0, B15, V⟩ := start_inv (h2 := v.1) (M2 := v.2) O (by rw [eL, List.length_append, lL]; rfl) ndu (by unfold at_; rw [eL]; rfl) hqo S2 w z
  refine law_loop hst X ⟨hX, hbl, Nat.not_le.mpr hbl, hL⟩ (fun q h => h) hr hlk 512 0 _ _ H locs ls _ _ _ B False (Nat.zero_le _) (by omega) ⟨Nat.le_of_ble_eq_true rfl, Nat.le_of_ble_eq_true rfl⟩ V hw.swap ?_
  rw [B0, B15, A0]
  exact lv_sub hl [4, 3, 2, 1, 0] rfl
