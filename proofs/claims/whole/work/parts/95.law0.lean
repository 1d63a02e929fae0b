/-! THE LAW: its switch, case by case -/
/-- the script -/
def Scr (s : State) (b L : Nat) (xs : Nat → Int32) (G : Nat → Prop) : Prop := va_X b L xs s s.heap ∧ b < s.heap.size ∧ ¬ G b ∧ L ≤ 3072
/-- what is wanted behind a case: a the office, o the law's row of one long -/
def Nxt (p : Program) (l : Launch) (e : Env) (s : State) (m : MethodId) (below : List Frame) (meth : Method) (c : Code) (Q : State → Prop) (D : va_G) (cy : Nat → ClassId) (G : Nat → Prop) (b : Nat) (A : Nat → Nat) (h2 : Hs) (i cells slots a o : Nat) : Prop :=
  ∀ (B' : Nat → Nat) (pic' : Prop) (h1' : Hs) (M1' M2' : Mm) (H' : Heap) (locs' : List Loc) (ls' : Array Slot), Inv h1' M1' h2 M2' B' A pic' → Wd2 D cy G s.heap h1' M1' h2 M2' H' locs' → B' 0 = a → B' 15 = o → lv_has ls' 8 [(0, .ref b), (1, .ref a), (2, .ref (A 0)), (3, .ref o), (4, .int (Int32.ofNat i))] →
    W p l e room_1 s m #[Value.ref b] below meth c H' locs' (cells + 147) (slots + 5438) Q (F0 m 1588 ls' [])
theorem lcmp_self {x : Int64} : lg_cmp x x = 0 := by simp [lg_cmp]
theorem hI_use {h1 h2 : Hs} {B A : Nat → Nat} {pic : Prop} {o : Nat} {z : Option Int32 × Mm} {z' : Int32 × Mm} (V : Inv h1 z.2 h2 z'.2 B A pic) (hv : match z.1 with
  | some v => zI z'.2 (A 0) 0 = 0 ∧ z'.1 = v
  | none => zI z'.2 (A 0) 0 = 1) : Inv h1 (hI o z).2 h2 z'.2 B A pic ∧ zI z'.2 (A 0) 0 = (hI o z).1 ∧ ((hI o z).1 = 0 → zJ (hI o z).2 o 0 = z'.1.toInt64) := by
  obtain ⟨z1, z2⟩ := z
  cases z1 with
  | none => exact ⟨V, hv, fun h => absurd (show (1 : Int32) = 0 from h) (by decide)⟩
  | some v =>
    obtain ⟨h0, rfl⟩ := hv
    exact ⟨V, h0, fun _ => by simp [hI, zJ, sJ, up2]⟩
theorem hJ_use {h1 h2 : Hs} {B A : Nat → Nat} {pic : Prop} {o : Nat} {z : Option Int64 × Mm} {z' : Int64 × Mm} (V : Inv h1 z.2 h2 z'.2 B A pic) (hv : match z.1 with
  | some v => zI z'.2 (A 0) 0 = 0 ∧ z'.1 = v
  | none => zI z'.2 (A 0) 0 = 1) : Inv h1 (hJ o z).2 h2 z'.2 B A pic ∧ zI z'.2 (A 0) 0 = (hJ o z).1 ∧ ((hJ o z).1 = 0 → zJ (hJ o z).2 o 0 = z'.1) := by
  obtain ⟨z1, z2⟩ := z
  cases z1 with
  | none => exact ⟨V, hv, fun h => absurd (show (1 : Int32) = 0 from h) (by decide)⟩
  | some v =>
    obtain ⟨h0, rfl⟩ := hv
    exact ⟨V, h0, fun _ => by simp [hJ, zJ, sJ, up2]⟩
section LAW
variable {p : Program} {l : Launch} {e : Env} {s : State} {m : MethodId} {below : List Frame} {meth : Method} {c : Code} {H : Heap} {locs : List Loc} {cells slots : Nat} {Q : State → Prop}
variable {ls : Array Slot} {D : va_G} {cy : Nat → ClassId} {G : Nat → Prop} {h1 h2 : Hs} {M1 M2 : Mm} {b L i : Nat} {xs : Nat → Int32} {B A : Nat → Nat} {pic : Prop}
set_option maxRecDepth 100000 in
theorem law_feed (X : Cx p s m #[Value.ref b] c cL_law 8 gtbl RL D cy G) (S : Scr s b L xs G) (hi : i + 6 ≤ L) (hf : cells + 147 ≤ 226454 ∧ slots + 5438 ≤ 8416744) (V : Inv h1 M1 h2 M2 B A pic) (hw : Wd2 D cy G s.heap h1 M1 h2 M2 H locs) (hl : lv_has ls 8 [(0, .ref b), (1, .ref (B 0)), (2, .ref (A 0)), (3, .ref (B 15)), (4, .int (Int32.ofNat i))])
    (KK : Nxt p l e s m below meth c Q D cy G b A h2 i cells slots (B 0) (B 15)) : W p l e room_1 s m #[Value.ref b] below meth c H locs cells slots Q (F0 m 184 ls []) := by
  have f0 : cells + 0 ≤ room_1.cells ∧ slots + 0 ≤ room_1.slots := ⟨by show cells + 0 ≤ 226454; omega, by show slots + 0 ≤ 8416744; omega⟩
  have g1 : ok h1 (B 0) 8 := V.1.2.1.1
  have g2 : ok h2 (A 0) 9 := V.2.1.1.1
  obtain ⟨hX, hbl, hbA, hL⟩ := S
  obtain ⟨z, hz, z', hz', ee, V'⟩ := (t_feed V : Sim (f_X8_feed h1 (B 0) (xs (i + 1)) (xs (i + 2)) (xs (i + 3)) (xs (i + 4)) (xs (i + 5)) M1) (f_X9_feed h2 (A 0) (xs (i + 1)) (xs (i + 2)) (xs (i + 3)) (xs (i + 4)) (xs (i + 5)) M2) h1 h2 B A pic)
  refine lv_aload_n X.1.1 X.1.2.1 dL_law_184 rfl (lv_at hl 1 rfl) ?_
  refine l_arg X.1.1 X.1.2.1 hw.2.2.1 hX hbl hbA hL (i := i) (kn := 1) (by omega) (lv_at hl 0 rfl) (lv_at hl 4 rfl) rfl dL_law_185 dL_law_186 dL_law_188 dL_law_189 dL_law_190 ?_
  refine l_arg X.1.1 X.1.2.1 hw.2.2.1 hX hbl hbA hL (i := i) (kn := 2) (by omega) (lv_at hl 0 rfl) (lv_at hl 4 rfl) rfl dL_law_191 dL_law_192 dL_law_194 dL_law_195 dL_law_196 ?_
  refine l_arg X.1.1 X.1.2.1 hw.2.2.1 hX hbl hbA hL (i := i) (kn := 3) (by omega) (lv_at hl 0 rfl) (lv_at hl 4 rfl) rfl dL_law_197 dL_law_198 dL_law_200 dL_law_201 dL_law_202 ?_
  refine l_arg X.1.1 X.1.2.1 hw.2.2.1 hX hbl hbA hL (i := i) (kn := 4) (by omega) (lv_at hl 0 rfl) (lv_at hl 4 rfl) rfl dL_law_203 dL_law_204 dL_law_206 dL_law_207 dL_law_208 ?_
  refine l_arg X.1.1 X.1.2.1 hw.2.2.1 hX hbl hbA hL (i := i) (kn := 5) (by omega) (lv_at hl 0 rfl) (lv_at hl 4 rfl) rfl dL_law_209 dL_law_210 dL_law_212 dL_law_213 dL_law_214 ?_
  refine l_V1 (As := [.int (xs (i + 1)), .int (xs (i + 2)), .int (xs (i + 3)), .int (xs (i + 4)), .int (xs (i + 5))]) (rest := []) X hw (c_X8_feed hz) (cwV 5 X.1.2.2.2.2 (guV um_L_37 ui_X8_feed us_X8_feed un_X8 uo_X8_feed) rfl rfl rfl (by decide +kernel) ⟨Nat.le_of_ble_eq_true rfl, Nat.le_of_ble_eq_true rfl⟩) g1 (by decide) rfl rfl hl.1 rfl (Nat.le_of_ble_eq_true rfl) dL_law_215 f0 (fun H locs hw => ?_)
  refine lv_aload_n X.1.1 X.1.2.1 dL_law_218 rfl (lv_at hl 2 rfl) ?_
  refine l_arg X.1.1 X.1.2.1 hw.2.2.1 hX hbl hbA hL (i := i) (kn := 1) (by omega) (lv_at hl 0 rfl) (lv_at hl 4 rfl) rfl dL_law_219 dL_law_220 dL_law_222 dL_law_223 dL_law_224 ?_
  refine l_arg X.1.1 X.1.2.1 hw.2.2.1 hX hbl hbA hL (i := i) (kn := 2) (by omega) (lv_at hl 0 rfl) (lv_at hl 4 rfl) rfl dL_law_225 dL_law_226 dL_law_228 dL_law_229 dL_law_230 ?_
  refine l_arg X.1.1 X.1.2.1 hw.2.2.1 hX hbl hbA hL (i := i) (kn := 3) (by omega) (lv_at hl 0 rfl) (lv_at hl 4 rfl) rfl dL_law_231 dL_law_232 dL_law_234 dL_law_235 dL_law_236 ?_
  refine l_arg X.1.1 X.1.2.1 hw.2.2.1 hX hbl hbA hL (i := i) (kn := 4) (by omega) (lv_at hl 0 rfl) (lv_at hl 4 rfl) rfl dL_law_237 dL_law_238 dL_law_240 dL_law_241 dL_law_242 ?_
  refine l_arg X.1.1 X.1.2.1 hw.2.2.1 hX hbl hbA hL (i := i) (kn := 5) (by omega) (lv_at hl 0 rfl) (lv_at hl 4 rfl) rfl dL_law_243 dL_law_244 dL_law_246 dL_law_247 dL_law_248 ?_
  refine l_V2 (As := [.int (xs (i + 1)), .int (xs (i + 2)), .int (xs (i + 3)), .int (xs (i + 4)), .int (xs (i + 5))]) (rest := [.int z.1]) X hw (c_X9_feed hz') (cwV 5 X.1.2.2.2.2 (guV um_L_41 ui_X9_feed us_X9_feed un_X9 uo_X9_feed) rfl rfl rfl (by decide +kernel) ⟨Nat.le_of_ble_eq_true rfl, Nat.le_of_ble_eq_true rfl⟩) g2 (by decide) rfl rfl hl.1 rfl (Nat.le_of_ble_eq_true rfl) dL_law_249 f0 (fun H locs hw => ?_)
  refine lv_icmp_eq (tgt := 1588) X.1.1 X.1.2.1 dL_law_252 (by decide) (fun _ => ?_) (fun ne => absurd ee ne)
  refine W.widen (k := cells + 147) (n := slots + 5438) (by omega) (by omega) ?_
  exact KK B pic h1 z.2 z'.2 H locs ls V' hw rfl rfl hl
set_option maxRecDepth 100000 in
theorem law_end (X : Cx p s m #[Value.ref b] c cL_law 8 gtbl RL D cy G) (S : Scr s b L xs G) (hi : i + 6 ≤ L) (hf : cells + 147 ≤ 226454 ∧ slots + 5438 ≤ 8416744) (V : Inv h1 M1 h2 M2 B A pic) (hw : Wd2 D cy G s.heap h1 M1 h2 M2 H locs) (hl : lv_has ls 8 [(0, .ref b), (1, .ref (B 0)), (2, .ref (A 0)), (3, .ref (B 15)), (4, .int (Int32.ofNat i))])
    (KK : Nxt p l e s m below meth c Q D cy G b A h2 i cells slots (B 0) (B 15)) : W p l e room_1 s m #[Value.ref b] below meth c H locs cells slots Q (F0 m 257 ls []) := by
  have f0 : cells + 0 ≤ room_1.cells ∧ slots + 0 ≤ room_1.slots := ⟨by show cells + 0 ≤ 226454; omega, by show slots + 0 ≤ 8416744; omega⟩
  have g1 : ok h1 (B 0) 8 := V.1.2.1.1
  have g2 : ok h2 (A 0) 9 := V.2.1.1.1
  obtain ⟨hX, hbl, hbA, hL⟩ := S
  obtain ⟨z, hz, z', hz', ee, V'⟩ := (t_end V : Sim (f_X8_end h1 (B 0) (xs (i + 1)) M1) (f_X9_end h2 (A 0) (xs (i + 1)) M2) h1 h2 B A pic)
  refine lv_aload_n X.1.1 X.1.2.1 dL_law_257 rfl (lv_at hl 1 rfl) ?_
  refine l_arg X.1.1 X.1.2.1 hw.2.2.1 hX hbl hbA hL (i := i) (kn := 1) (by omega) (lv_at hl 0 rfl) (lv_at hl 4 rfl) rfl dL_law_258 dL_law_259 dL_law_261 dL_law_262 dL_law_263 ?_
  refine l_V1 (As := [.int (xs (i + 1))]) (rest := []) X hw (c_X8_end hz) (cwV 1 X.1.2.2.2.2 (guV um_L_42 ui_X8_end us_X8_end un_X8 uo_X8_end) rfl rfl rfl (by decide +kernel) ⟨Nat.le_of_ble_eq_true rfl, Nat.le_of_ble_eq_true rfl⟩) g1 (by decide) rfl rfl hl.1 rfl (Nat.le_of_ble_eq_true rfl) dL_law_264 f0 (fun H locs hw => ?_)
  refine lv_aload_n X.1.1 X.1.2.1 dL_law_267 rfl (lv_at hl 2 rfl) ?_
  refine l_arg X.1.1 X.1.2.1 hw.2.2.1 hX hbl hbA hL (i := i) (kn := 1) (by omega) (lv_at hl 0 rfl) (lv_at hl 4 rfl) rfl dL_law_268 dL_law_269 dL_law_271 dL_law_272 dL_law_273 ?_
  refine l_V2 (As := [.int (xs (i + 1))]) (rest := [.int z.1]) X hw (c_X9_end hz') (cwV 1 X.1.2.2.2.2 (guV um_L_46 ui_X9_end us_X9_end un_X9 uo_X9_end) rfl rfl rfl (by decide +kernel) ⟨Nat.le_of_ble_eq_true rfl, Nat.le_of_ble_eq_true rfl⟩) g2 (by decide) rfl rfl hl.1 rfl (Nat.le_of_ble_eq_true rfl) dL_law_274 f0 (fun H locs hw => ?_)
  refine lv_icmp_eq (tgt := 1588) X.1.1 X.1.2.1 dL_law_277 (by decide) (fun _ => ?_) (fun ne => absurd ee ne)
  refine W.widen (k := cells + 147) (n := slots + 5438) (by omega) (by omega) ?_
  exact KK B pic h1 z.2 z'.2 H locs ls V' hw rfl rfl hl
set_option maxRecDepth 100000 in
theorem law_put (X : Cx p s m #[Value.ref b] c cL_law 8 gtbl RL D cy G) (S : Scr s b L xs G) (hi : i + 6 ≤ L) (hf : cells + 147 ≤ 226454 ∧ slots + 5438 ≤ 8416744) (V : Inv h1 M1 h2 M2 B A pic) (hw : Wd2 D cy G s.heap h1 M1 h2 M2 H locs) (hl : lv_has ls 8 [(0, .ref b), (1, .ref (B 0)), (2, .ref (A 0)), (3, .ref (B 15)), (4, .int (Int32.ofNat i))])
    (KK : Nxt p l e s m below meth c Q D cy G b A h2 i cells slots (B 0) (B 15)) : W p l e room_1 s m #[Value.ref b] below meth c H locs cells slots Q (F0 m 282 ls []) := by
  have f0 : cells + 0 ≤ room_1.cells ∧ slots + 0 ≤ room_1.slots := ⟨by show cells + 0 ≤ 226454; omega, by show slots + 0 ≤ 8416744; omega⟩
  have g1 : ok h1 (B 0) 8 := V.1.2.1.1
  have g2 : ok h2 (A 0) 9 := V.2.1.1.1
  obtain ⟨hX, hbl, hbA, hL⟩ := S
  obtain ⟨z, hz, z', hz', ee, V'⟩ := (t_put V : Sim (f_X8_put h1 (B 0) (xs (i + 1)) (xs (i + 2)) (xs (i + 3)) (xs (i + 4)) M1) (f_X9_put h2 (A 0) (xs (i + 1)) (xs (i + 2)) (xs (i + 3)) (xs (i + 4)) M2) h1 h2 B A pic)
  refine lv_aload_n X.1.1 X.1.2.1 dL_law_282 rfl (lv_at hl 1 rfl) ?_
  refine l_arg X.1.1 X.1.2.1 hw.2.2.1 hX hbl hbA hL (i := i) (kn := 1) (by omega) (lv_at hl 0 rfl) (lv_at hl 4 rfl) rfl dL_law_283 dL_law_284 dL_law_286 dL_law_287 dL_law_288 ?_
  refine l_arg X.1.1 X.1.2.1 hw.2.2.1 hX hbl hbA hL (i := i) (kn := 2) (by omega) (lv_at hl 0 rfl) (lv_at hl 4 rfl) rfl dL_law_289 dL_law_290 dL_law_292 dL_law_293 dL_law_294 ?_
  refine l_arg X.1.1 X.1.2.1 hw.2.2.1 hX hbl hbA hL (i := i) (kn := 3) (by omega) (lv_at hl 0 rfl) (lv_at hl 4 rfl) rfl dL_law_295 dL_law_296 dL_law_298 dL_law_299 dL_law_300 ?_
  refine l_arg X.1.1 X.1.2.1 hw.2.2.1 hX hbl hbA hL (i := i) (kn := 4) (by omega) (lv_at hl 0 rfl) (lv_at hl 4 rfl) rfl dL_law_301 dL_law_302 dL_law_304 dL_law_305 dL_law_306 ?_
  refine l_V1 (As := [.int (xs (i + 1)), .int (xs (i + 2)), .int (xs (i + 3)), .int (xs (i + 4))]) (rest := []) X hw (c_X8_put hz) (cwV 4 X.1.2.2.2.2 (guV um_L_47 ui_X8_put us_X8_put un_X8 uo_X8_put) rfl rfl rfl (by decide +kernel) ⟨Nat.le_of_ble_eq_true rfl, Nat.le_of_ble_eq_true rfl⟩) g1 (by decide) rfl rfl hl.1 rfl (Nat.le_of_ble_eq_true rfl) dL_law_307 f0 (fun H locs hw => ?_)
  refine lv_aload_n X.1.1 X.1.2.1 dL_law_310 rfl (lv_at hl 2 rfl) ?_
  refine l_arg X.1.1 X.1.2.1 hw.2.2.1 hX hbl hbA hL (i := i) (kn := 1) (by omega) (lv_at hl 0 rfl) (lv_at hl 4 rfl) rfl dL_law_311 dL_law_312 dL_law_314 dL_law_315 dL_law_316 ?_
  refine l_arg X.1.1 X.1.2.1 hw.2.2.1 hX hbl hbA hL (i := i) (kn := 2) (by omega) (lv_at hl 0 rfl) (lv_at hl 4 rfl) rfl dL_law_317 dL_law_318 dL_law_320 dL_law_321 dL_law_322 ?_
  refine l_arg X.1.1 X.1.2.1 hw.2.2.1 hX hbl hbA hL (i := i) (kn := 3) (by omega) (lv_at hl 0 rfl) (lv_at hl 4 rfl) rfl dL_law_323 dL_law_324 dL_law_326 dL_law_327 dL_law_328 ?_
  refine l_arg X.1.1 X.1.2.1 hw.2.2.1 hX hbl hbA hL (i := i) (kn := 4) (by omega) (lv_at hl 0 rfl) (lv_at hl 4 rfl) rfl dL_law_329 dL_law_330 dL_law_332 dL_law_333 dL_law_334 ?_
  refine l_V2 (As := [.int (xs (i + 1)), .int (xs (i + 2)), .int (xs (i + 3)), .int (xs (i + 4))]) (rest := [.int z.1]) X hw (c_X9_put hz') (cwV 4 X.1.2.2.2.2 (guV um_L_51 ui_X9_put us_X9_put un_X9 uo_X9_put) rfl rfl rfl (by decide +kernel) ⟨Nat.le_of_ble_eq_true rfl, Nat.le_of_ble_eq_true rfl⟩) g2 (by decide) rfl rfl hl.1 rfl (Nat.le_of_ble_eq_true rfl) dL_law_335 f0 (fun H locs hw => ?_)
  refine lv_icmp_eq (tgt := 1588) X.1.1 X.1.2.1 dL_law_338 (by decide) (fun _ => ?_) (fun ne => absurd ee ne)
  refine W.widen (k := cells + 147) (n := slots + 5438) (by omega) (by omega) ?_
  exact KK B pic h1 z.2 z'.2 H locs ls V' hw rfl rfl hl
set_option maxRecDepth 100000 in
theorem law_plug (X : Cx p s m #[Value.ref b] c cL_law 8 gtbl RL D cy G) (S : Scr s b L xs G) (hi : i + 6 ≤ L) (hf : cells + 147 ≤ 226454 ∧ slots + 5438 ≤ 8416744) (V : Inv h1 M1 h2 M2 B A pic) (hw : Wd2 D cy G s.heap h1 M1 h2 M2 H locs) (hl : lv_has ls 8 [(0, .ref b), (1, .ref (B 0)), (2, .ref (A 0)), (3, .ref (B 15)), (4, .int (Int32.ofNat i))])
    (KK : Nxt p l e s m below meth c Q D cy G b A h2 i cells slots (B 0) (B 15)) : W p l e room_1 s m #[Value.ref b] below meth c H locs cells slots Q (F0 m 343 ls []) := by
  have f0 : cells + 0 ≤ room_1.cells ∧ slots + 0 ≤ room_1.slots := ⟨by show cells + 0 ≤ 226454; omega, by show slots + 0 ≤ 8416744; omega⟩
  have g1 : ok h1 (B 0) 8 := V.1.2.1.1
  have g2 : ok h2 (A 0) 9 := V.2.1.1.1
  obtain ⟨hX, hbl, hbA, hL⟩ := S
  obtain ⟨z, hz, z', hz', ee, V'⟩ := (t_plug V : Sim (f_X8_plug h1 (B 0) (xs (i + 1)) M1) (f_X9_plug h2 (A 0) (xs (i + 1)) M2) h1 h2 B A pic)
  refine lv_aload_n X.1.1 X.1.2.1 dL_law_343 rfl (lv_at hl 1 rfl) ?_
  refine l_arg X.1.1 X.1.2.1 hw.2.2.1 hX hbl hbA hL (i := i) (kn := 1) (by omega) (lv_at hl 0 rfl) (lv_at hl 4 rfl) rfl dL_law_344 dL_law_345 dL_law_347 dL_law_348 dL_law_349 ?_
  refine l_V1 (As := [.int (xs (i + 1))]) (rest := []) X hw (c_X8_plug hz) (cwV 1 X.1.2.2.2.2 (guV um_L_52 ui_X8_plug us_X8_plug un_X8 uo_X8_plug) rfl rfl rfl (by decide +kernel) ⟨Nat.le_of_ble_eq_true rfl, Nat.le_of_ble_eq_true rfl⟩) g1 (by decide) rfl rfl hl.1 rfl (Nat.le_of_ble_eq_true rfl) dL_law_350 f0 (fun H locs hw => ?_)
  refine lv_aload_n X.1.1 X.1.2.1 dL_law_353 rfl (lv_at hl 2 rfl) ?_
  refine l_arg X.1.1 X.1.2.1 hw.2.2.1 hX hbl hbA hL (i := i) (kn := 1) (by omega) (lv_at hl 0 rfl) (lv_at hl 4 rfl) rfl dL_law_354 dL_law_355 dL_law_357 dL_law_358 dL_law_359 ?_
  refine l_V2 (As := [.int (xs (i + 1))]) (rest := [.int z.1]) X hw (c_X9_plug hz') (cwV 1 X.1.2.2.2.2 (guV um_L_55 ui_X9_plug us_X9_plug un_X9 uo_X9_plug) rfl rfl rfl (by decide +kernel) ⟨Nat.le_of_ble_eq_true rfl, Nat.le_of_ble_eq_true rfl⟩) g2 (by decide) rfl rfl hl.1 rfl (Nat.le_of_ble_eq_true rfl) dL_law_360 f0 (fun H locs hw => ?_)
  refine lv_icmp_eq (tgt := 1588) X.1.1 X.1.2.1 dL_law_363 (by decide) (fun _ => ?_) (fun ne => absurd ee ne)
  refine W.widen (k := cells + 147) (n := slots + 5438) (by omega) (by omega) ?_
  exact KK B pic h1 z.2 z'.2 H locs ls V' hw rfl rfl hl
set_option maxRecDepth 100000 in
theorem law_take (X : Cx p s m #[Value.ref b] c cL_law 8 gtbl RL D cy G) (S : Scr s b L xs G) (hi : i + 6 ≤ L) (hf : cells + 147 ≤ 226454 ∧ slots + 5438 ≤ 8416744) (V : Inv h1 M1 h2 M2 B A pic) (hw : Wd2 D cy G s.heap h1 M1 h2 M2 H locs) (hl : lv_has ls 8 [(0, .ref b), (1, .ref (B 0)), (2, .ref (A 0)), (3, .ref (B 15)), (4, .int (Int32.ofNat i))])
    (KK : Nxt p l e s m below meth c Q D cy G b A h2 i cells slots (B 0) (B 15)) : W p l e room_1 s m #[Value.ref b] below meth c H locs cells slots Q (F0 m 368 ls []) := by
  have f0 : cells + 0 ≤ room_1.cells ∧ slots + 0 ≤ room_1.slots := ⟨by show cells + 0 ≤ 226454; omega, by show slots + 0 ≤ 8416744; omega⟩
  have g1 : ok h1 (B 0) 8 := V.1.2.1.1
  have g2 : ok h2 (A 0) 9 := V.2.1.1.1
  obtain ⟨hX, hbl, hbA, hL⟩ := S
  obtain ⟨z, hz, z', hz', ee, V'⟩ := (t_take V : Sim (f_X8_take h1 (B 0) (xs (i + 1)) M1) (f_X9_take h2 (A 0) (xs (i + 1)) M2) h1 h2 B A pic)
  refine lv_aload_n X.1.1 X.1.2.1 dL_law_368 rfl (lv_at hl 1 rfl) ?_
  refine l_arg X.1.1 X.1.2.1 hw.2.2.1 hX hbl hbA hL (i := i) (kn := 1) (by omega) (lv_at hl 0 rfl) (lv_at hl 4 rfl) rfl dL_law_369 dL_law_370 dL_law_372 dL_law_373 dL_law_374 ?_
  refine l_V1 (As := [.int (xs (i + 1))]) (rest := []) X hw (c_X8_take hz) (cwV 1 X.1.2.2.2.2 (guV um_L_56 ui_X8_take us_X8_take un_X8 uo_X8_take) rfl rfl rfl (by decide +kernel) ⟨Nat.le_of_ble_eq_true rfl, Nat.le_of_ble_eq_true rfl⟩) g1 (by decide) rfl rfl hl.1 rfl (Nat.le_of_ble_eq_true rfl) dL_law_375 f0 (fun H locs hw => ?_)
  refine lv_aload_n X.1.1 X.1.2.1 dL_law_378 rfl (lv_at hl 2 rfl) ?_
  refine l_arg X.1.1 X.1.2.1 hw.2.2.1 hX hbl hbA hL (i := i) (kn := 1) (by omega) (lv_at hl 0 rfl) (lv_at hl 4 rfl) rfl dL_law_379 dL_law_380 dL_law_382 dL_law_383 dL_law_384 ?_
  refine l_V2 (As := [.int (xs (i + 1))]) (rest := [.int z.1]) X hw (c_X9_take hz') (cwV 1 X.1.2.2.2.2 (guV um_L_59 ui_X9_take us_X9_take un_X9 uo_X9_take) rfl rfl rfl (by decide +kernel) ⟨Nat.le_of_ble_eq_true rfl, Nat.le_of_ble_eq_true rfl⟩) g2 (by decide) rfl rfl hl.1 rfl (Nat.le_of_ble_eq_true rfl) dL_law_385 f0 (fun H locs hw => ?_)
  refine lv_icmp_eq (tgt := 1588) X.1.1 X.1.2.1 dL_law_388 (by decide) (fun _ => ?_) (fun ne => absurd ee ne)
  refine W.widen (k := cells + 147) (n := slots + 5438) (by omega) (by omega) ?_
  exact KK B pic h1 z.2 z'.2 H locs ls V' hw rfl rfl hl
set_option maxRecDepth 100000 in
theorem law_kind (X : Cx p s m #[Value.ref b] c cL_law 8 gtbl RL D cy G) (S : Scr s b L xs G) (hi : i + 6 ≤ L) (hf : cells + 147 ≤ 226454 ∧ slots + 5438 ≤ 8416744) (V : Inv h1 M1 h2 M2 B A pic) (hw : Wd2 D cy G s.heap h1 M1 h2 M2 H locs) (hl : lv_has ls 8 [(0, .ref b), (1, .ref (B 0)), (2, .ref (A 0)), (3, .ref (B 15)), (4, .int (Int32.ofNat i))])
    (KK : Nxt p l e s m below meth c Q D cy G b A h2 i cells slots (B 0) (B 15)) : W p l e room_1 s m #[Value.ref b] below meth c H locs cells slots Q (F0 m 393 ls []) := by
  have f0 : cells + 0 ≤ room_1.cells ∧ slots + 0 ≤ room_1.slots := ⟨by show cells + 0 ≤ 226454; omega, by show slots + 0 ≤ 8416744; omega⟩
  have g1 : ok h1 (B 0) 8 := V.1.2.1.1
  have g2 : ok h2 (A 0) 9 := V.2.1.1.1
  obtain ⟨hX, hbl, hbA, hL⟩ := S
  obtain ⟨z, hz0, z', hz', ee, V'⟩ := (t_kind V : Sim ((f_X8_kind h1 (B 0) (xs (i + 1)) M1).bind fun r => some (r, M1)) (f_X9_kind h2 (A 0) (xs (i + 1)) M2) h1 h2 B A pic)
  obtain ⟨r, hz, hr⟩ := Option.bind_eq_some_iff.mp hz0
  cases hr
  refine lv_aload_n X.1.1 X.1.2.1 dL_law_393 rfl (lv_at hl 1 rfl) ?_
  refine l_arg X.1.1 X.1.2.1 hw.2.2.1 hX hbl hbA hL (i := i) (kn := 1) (by omega) (lv_at hl 0 rfl) (lv_at hl 4 rfl) rfl dL_law_394 dL_law_395 dL_law_397 dL_law_398 dL_law_399 ?_
  refine l_V1 (As := [.int (xs (i + 1))]) (rest := []) X hw (c_X8_kind hz) (cwV 1 X.1.2.2.2.2 (guV um_L_60 ui_X8_kind us_X8_kind un_X8 uo_X8_kind) rfl rfl rfl (by decide +kernel) ⟨Nat.le_of_ble_eq_true rfl, Nat.le_of_ble_eq_true rfl⟩) g1 (by decide) rfl rfl hl.1 rfl (Nat.le_of_ble_eq_true rfl) dL_law_400 f0 (fun H locs hw => ?_)
  refine lv_aload_n X.1.1 X.1.2.1 dL_law_403 rfl (lv_at hl 2 rfl) ?_
  refine l_arg X.1.1 X.1.2.1 hw.2.2.1 hX hbl hbA hL (i := i) (kn := 1) (by omega) (lv_at hl 0 rfl) (lv_at hl 4 rfl) rfl dL_law_404 dL_law_405 dL_law_407 dL_law_408 dL_law_409 ?_
  refine l_V2 (As := [.int (xs (i + 1))]) (rest := [.int r]) X hw (c_X9_kind hz') (cwV 1 X.1.2.2.2.2 (guV um_L_64 ui_X9_kind us_X9_kind un_X9 uo_X9_kind) rfl rfl rfl (by decide +kernel) ⟨Nat.le_of_ble_eq_true rfl, Nat.le_of_ble_eq_true rfl⟩) g2 (by decide) rfl rfl hl.1 rfl (Nat.le_of_ble_eq_true rfl) dL_law_410 f0 (fun H locs hw => ?_)
  refine lv_icmp_eq (tgt := 1588) X.1.1 X.1.2.1 dL_law_413 (by decide) (fun _ => ?_) (fun ne => absurd ee ne)
  refine W.widen (k := cells + 147) (n := slots + 5438) (by omega) (by omega) ?_
  exact KK B pic h1 M1 z'.2 H locs ls V' hw rfl rfl hl
set_option maxRecDepth 100000 in
theorem law_read (X : Cx p s m #[Value.ref b] c cL_law 8 gtbl RL D cy G) (S : Scr s b L xs G) (hi : i + 6 ≤ L) (hf : cells + 147 ≤ 226454 ∧ slots + 5438 ≤ 8416744) (V : Inv h1 M1 h2 M2 B A pic) (hw : Wd2 D cy G s.heap h1 M1 h2 M2 H locs) (hl : lv_has ls 8 [(0, .ref b), (1, .ref (B 0)), (2, .ref (A 0)), (3, .ref (B 15)), (4, .int (Int32.ofNat i))])
    (KK : Nxt p l e s m below meth c Q D cy G b A h2 i cells slots (B 0) (B 15)) : W p l e room_1 s m #[Value.ref b] below meth c H locs cells slots Q (F0 m 418 ls []) := by
  have f0 : cells + 0 ≤ room_1.cells ∧ slots + 0 ≤ room_1.slots := ⟨by show cells + 0 ≤ 226454; omega, by show slots + 0 ≤ 8416744; omega⟩
  have g1 : ok h1 (B 0) 8 := V.1.2.1.1
  have g2 : ok h2 (A 0) 9 := V.2.1.1.1
  obtain ⟨hX, hbl, hbA, hL⟩ := S
  obtain ⟨z, hz, z', hz', ee, V'⟩ := (t_read V : Sim (f_X8_read h1 (B 0) (xs (i + 1)) (xs (i + 2)) M1) (f_X9_read h2 (A 0) (xs (i + 1)) (xs (i + 2)) M2) h1 h2 B A pic)
  refine lv_aload_n X.1.1 X.1.2.1 dL_law_418 rfl (lv_at hl 1 rfl) ?_
  refine l_arg X.1.1 X.1.2.1 hw.2.2.1 hX hbl hbA hL (i := i) (kn := 1) (by omega) (lv_at hl 0 rfl) (lv_at hl 4 rfl) rfl dL_law_419 dL_law_420 dL_law_422 dL_law_423 dL_law_424 ?_
  refine l_arg X.1.1 X.1.2.1 hw.2.2.1 hX hbl hbA hL (i := i) (kn := 2) (by omega) (lv_at hl 0 rfl) (lv_at hl 4 rfl) rfl dL_law_425 dL_law_426 dL_law_428 dL_law_429 dL_law_430 ?_
  refine l_V1 (As := [.int (xs (i + 1)), .int (xs (i + 2))]) (rest := []) X hw (c_X8_read hz) (cwV 2 X.1.2.2.2.2 (guV um_L_65 ui_X8_read us_X8_read un_X8 uo_X8_read) rfl rfl rfl (by decide +kernel) ⟨Nat.le_of_ble_eq_true rfl, Nat.le_of_ble_eq_true rfl⟩) g1 (by decide) rfl rfl hl.1 rfl (Nat.le_of_ble_eq_true rfl) dL_law_431 f0 (fun H locs hw => ?_)
  refine lv_aload_n X.1.1 X.1.2.1 dL_law_434 rfl (lv_at hl 2 rfl) ?_
  refine l_arg X.1.1 X.1.2.1 hw.2.2.1 hX hbl hbA hL (i := i) (kn := 1) (by omega) (lv_at hl 0 rfl) (lv_at hl 4 rfl) rfl dL_law_435 dL_law_436 dL_law_438 dL_law_439 dL_law_440 ?_
  refine l_arg X.1.1 X.1.2.1 hw.2.2.1 hX hbl hbA hL (i := i) (kn := 2) (by omega) (lv_at hl 0 rfl) (lv_at hl 4 rfl) rfl dL_law_441 dL_law_442 dL_law_444 dL_law_445 dL_law_446 ?_
  refine l_V2 (As := [.int (xs (i + 1)), .int (xs (i + 2))]) (rest := [.int z.1]) X hw (c_X9_read hz') (cwV 2 X.1.2.2.2.2 (guV um_L_68 ui_X9_read us_X9_read un_X9 uo_X9_read) rfl rfl rfl (by decide +kernel) ⟨Nat.le_of_ble_eq_true rfl, Nat.le_of_ble_eq_true rfl⟩) g2 (by decide) rfl rfl hl.1 rfl (Nat.le_of_ble_eq_true rfl) dL_law_447 f0 (fun H locs hw => ?_)
  refine lv_icmp_eq (tgt := 1588) X.1.1 X.1.2.1 dL_law_450 (by decide) (fun _ => ?_) (fun ne => absurd ee ne)
  refine W.widen (k := cells + 147) (n := slots + 5438) (by omega) (by omega) ?_
  exact KK B pic h1 z.2 z'.2 H locs ls V' hw rfl rfl hl
set_option maxRecDepth 100000 in
theorem law_tear (X : Cx p s m #[Value.ref b] c cL_law 8 gtbl RL D cy G) (S : Scr s b L xs G) (hi : i + 6 ≤ L) (hf : cells + 147 ≤ 226454 ∧ slots + 5438 ≤ 8416744) (V : Inv h1 M1 h2 M2 B A pic) (hw : Wd2 D cy G s.heap h1 M1 h2 M2 H locs) (hl : lv_has ls 8 [(0, .ref b), (1, .ref (B 0)), (2, .ref (A 0)), (3, .ref (B 15)), (4, .int (Int32.ofNat i))])
    (KK : Nxt p l e s m below meth c Q D cy G b A h2 i cells slots (B 0) (B 15)) : W p l e room_1 s m #[Value.ref b] below meth c H locs cells slots Q (F0 m 455 ls []) := by
  have f0 : cells + 0 ≤ room_1.cells ∧ slots + 0 ≤ room_1.slots := ⟨by show cells + 0 ≤ 226454; omega, by show slots + 0 ≤ 8416744; omega⟩
  have g1 : ok h1 (B 0) 8 := V.1.2.1.1
  have g2 : ok h2 (A 0) 9 := V.2.1.1.1
  obtain ⟨hX, hbl, hbA, hL⟩ := S
  obtain ⟨z, hz, z', hz', ee, V'⟩ := (t_tear V : Sim (f_X8_tear h1 (B 0) (xs (i + 1)) (xs (i + 2)) (xs (i + 3)) M1) (f_X9_tear h2 (A 0) (xs (i + 1)) (xs (i + 2)) (xs (i + 3)) M2) h1 h2 B A pic)
  refine lv_aload_n X.1.1 X.1.2.1 dL_law_455 rfl (lv_at hl 1 rfl) ?_
  refine l_arg X.1.1 X.1.2.1 hw.2.2.1 hX hbl hbA hL (i := i) (kn := 1) (by omega) (lv_at hl 0 rfl) (lv_at hl 4 rfl) rfl dL_law_456 dL_law_457 dL_law_459 dL_law_460 dL_law_461 ?_
  refine l_arg X.1.1 X.1.2.1 hw.2.2.1 hX hbl hbA hL (i := i) (kn := 2) (by omega) (lv_at hl 0 rfl) (lv_at hl 4 rfl) rfl dL_law_462 dL_law_463 dL_law_465 dL_law_466 dL_law_467 ?_
  refine l_arg X.1.1 X.1.2.1 hw.2.2.1 hX hbl hbA hL (i := i) (kn := 3) (by omega) (lv_at hl 0 rfl) (lv_at hl 4 rfl) rfl dL_law_468 dL_law_469 dL_law_471 dL_law_472 dL_law_473 ?_
  refine l_V1 (As := [.int (xs (i + 1)), .int (xs (i + 2)), .int (xs (i + 3))]) (rest := []) X hw (c_X8_tear hz) (cwV 3 X.1.2.2.2.2 (guV um_L_69 ui_X8_tear us_X8_tear un_X8 uo_X8_tear) rfl rfl rfl (by decide +kernel) ⟨Nat.le_of_ble_eq_true rfl, Nat.le_of_ble_eq_true rfl⟩) g1 (by decide) rfl rfl hl.1 rfl (Nat.le_of_ble_eq_true rfl) dL_law_474 f0 (fun H locs hw => ?_)
  refine lv_aload_n X.1.1 X.1.2.1 dL_law_477 rfl (lv_at hl 2 rfl) ?_
  refine l_arg X.1.1 X.1.2.1 hw.2.2.1 hX hbl hbA hL (i := i) (kn := 1) (by omega) (lv_at hl 0 rfl) (lv_at hl 4 rfl) rfl dL_law_478 dL_law_479 dL_law_481 dL_law_482 dL_law_483 ?_
  refine l_arg X.1.1 X.1.2.1 hw.2.2.1 hX hbl hbA hL (i := i) (kn := 2) (by omega) (lv_at hl 0 rfl) (lv_at hl 4 rfl) rfl dL_law_484 dL_law_485 dL_law_487 dL_law_488 dL_law_489 ?_
  refine l_arg X.1.1 X.1.2.1 hw.2.2.1 hX hbl hbA hL (i := i) (kn := 3) (by omega) (lv_at hl 0 rfl) (lv_at hl 4 rfl) rfl dL_law_490 dL_law_491 dL_law_493 dL_law_494 dL_law_495 ?_
  refine l_V2 (As := [.int (xs (i + 1)), .int (xs (i + 2)), .int (xs (i + 3))]) (rest := [.int z.1]) X hw (c_X9_tear hz') (cwV 3 X.1.2.2.2.2 (guV um_L_72 ui_X9_tear us_X9_tear un_X9 uo_X9_tear) rfl rfl rfl (by decide +kernel) ⟨Nat.le_of_ble_eq_true rfl, Nat.le_of_ble_eq_true rfl⟩) g2 (by decide) rfl rfl hl.1 rfl (Nat.le_of_ble_eq_true rfl) dL_law_496 f0 (fun H locs hw => ?_)
  refine lv_icmp_eq (tgt := 1588) X.1.1 X.1.2.1 dL_law_499 (by decide) (fun _ => ?_) (fun ne => absurd ee ne)
  refine W.widen (k := cells + 147) (n := slots + 5438) (by omega) (by omega) ?_
  exact KK B pic h1 z.2 z'.2 H locs ls V' hw rfl rfl hl
set_option maxRecDepth 100000 in
theorem law_fill (X : Cx p s m #[Value.ref b] c cL_law 8 gtbl RL D cy G) (S : Scr s b L xs G) (hi : i + 6 ≤ L) (hf : cells + 147 ≤ 226454 ∧ slots + 5438 ≤ 8416744) (V : Inv h1 M1 h2 M2 B A pic) (hw : Wd2 D cy G s.heap h1 M1 h2 M2 H locs) (hl : lv_has ls 8 [(0, .ref b), (1, .ref (B 0)), (2, .ref (A 0)), (3, .ref (B 15)), (4, .int (Int32.ofNat i))])
    (KK : Nxt p l e s m below meth c Q D cy G b A h2 i cells slots (B 0) (B 15)) : W p l e room_1 s m #[Value.ref b] below meth c H locs cells slots Q (F0 m 504 ls []) := by
  have f0 : cells + 0 ≤ room_1.cells ∧ slots + 0 ≤ room_1.slots := ⟨by show cells + 0 ≤ 226454; omega, by show slots + 0 ≤ 8416744; omega⟩
  have g1 : ok h1 (B 0) 8 := V.1.2.1.1
  have g2 : ok h2 (A 0) 9 := V.2.1.1.1
  obtain ⟨hX, hbl, hbA, hL⟩ := S
  obtain ⟨z, hz, z', hz', ee, V'⟩ := (t_fill V : Sim (f_X8_fill h1 (B 0) (xs (i + 1)) (xs (i + 2)) (xs (i + 3)) M1) (f_X9_fill h2 (A 0) (xs (i + 1)) (xs (i + 2)) (xs (i + 3)) M2) h1 h2 B A pic)
  refine lv_aload_n X.1.1 X.1.2.1 dL_law_504 rfl (lv_at hl 1 rfl) ?_
  refine l_arg X.1.1 X.1.2.1 hw.2.2.1 hX hbl hbA hL (i := i) (kn := 1) (by omega) (lv_at hl 0 rfl) (lv_at hl 4 rfl) rfl dL_law_505 dL_law_506 dL_law_508 dL_law_509 dL_law_510 ?_
  refine l_arg X.1.1 X.1.2.1 hw.2.2.1 hX hbl hbA hL (i := i) (kn := 2) (by omega) (lv_at hl 0 rfl) (lv_at hl 4 rfl) rfl dL_law_511 dL_law_512 dL_law_514 dL_law_515 dL_law_516 ?_
  refine l_arg X.1.1 X.1.2.1 hw.2.2.1 hX hbl hbA hL (i := i) (kn := 3) (by omega) (lv_at hl 0 rfl) (lv_at hl 4 rfl) rfl dL_law_517 dL_law_518 dL_law_520 dL_law_521 dL_law_522 ?_
  refine l_V1 (As := [.int (xs (i + 1)), .int (xs (i + 2)), .int (xs (i + 3))]) (rest := []) X hw (c_X8_fill hz) (cwV 3 X.1.2.2.2.2 (guV um_L_73 ui_X8_fill us_X8_fill un_X8 uo_X8_fill) rfl rfl rfl (by decide +kernel) ⟨Nat.le_of_ble_eq_true rfl, Nat.le_of_ble_eq_true rfl⟩) g1 (by decide) rfl rfl hl.1 rfl (Nat.le_of_ble_eq_true rfl) dL_law_523 f0 (fun H locs hw => ?_)
  refine lv_aload_n X.1.1 X.1.2.1 dL_law_526 rfl (lv_at hl 2 rfl) ?_
  refine l_arg X.1.1 X.1.2.1 hw.2.2.1 hX hbl hbA hL (i := i) (kn := 1) (by omega) (lv_at hl 0 rfl) (lv_at hl 4 rfl) rfl dL_law_527 dL_law_528 dL_law_530 dL_law_531 dL_law_532 ?_
  refine l_arg X.1.1 X.1.2.1 hw.2.2.1 hX hbl hbA hL (i := i) (kn := 2) (by omega) (lv_at hl 0 rfl) (lv_at hl 4 rfl) rfl dL_law_533 dL_law_534 dL_law_536 dL_law_537 dL_law_538 ?_
  refine l_arg X.1.1 X.1.2.1 hw.2.2.1 hX hbl hbA hL (i := i) (kn := 3) (by omega) (lv_at hl 0 rfl) (lv_at hl 4 rfl) rfl dL_law_539 dL_law_540 dL_law_542 dL_law_543 dL_law_544 ?_
  refine l_V2 (As := [.int (xs (i + 1)), .int (xs (i + 2)), .int (xs (i + 3))]) (rest := [.int z.1]) X hw (c_X9_fill hz') (cwV 3 X.1.2.2.2.2 (guV um_L_77 ui_X9_fill us_X9_fill un_X9 uo_X9_fill) rfl rfl rfl (by decide +kernel) ⟨Nat.le_of_ble_eq_true rfl, Nat.le_of_ble_eq_true rfl⟩) g2 (by decide) rfl rfl hl.1 rfl (Nat.le_of_ble_eq_true rfl) dL_law_545 f0 (fun H locs hw => ?_)
  refine lv_icmp_eq (tgt := 1588) X.1.1 X.1.2.1 dL_law_548 (by decide) (fun _ => ?_) (fun ne => absurd ee ne)
  refine W.widen (k := cells + 147) (n := slots + 5438) (by omega) (by omega) ?_
  exact KK B pic h1 z.2 z'.2 H locs ls V' hw rfl rfl hl
set_option maxRecDepth 100000 in
theorem law_row (X : Cx p s m #[Value.ref b] c cL_law 8 gtbl RL D cy G) (S : Scr s b L xs G) (hi : i + 6 ≤ L) (hf : cells + 147 ≤ 226454 ∧ slots + 5438 ≤ 8416744) (V : Inv h1 M1 h2 M2 B A pic) (hw : Wd2 D cy G s.heap h1 M1 h2 M2 H locs) (hl : lv_has ls 8 [(0, .ref b), (1, .ref (B 0)), (2, .ref (A 0)), (3, .ref (B 15)), (4, .int (Int32.ofNat i))])
    (KK : Nxt p l e s m below meth c Q D cy G b A h2 i cells slots (B 0) (B 15)) : W p l e room_1 s m #[Value.ref b] below meth c H locs cells slots Q (F0 m 553 ls []) := by
  have f0 : cells + 0 ≤ room_1.cells ∧ slots + 0 ≤ room_1.slots := ⟨by show cells + 0 ≤ 226454; omega, by show slots + 0 ≤ 8416744; omega⟩
  have g1 : ok h1 (B 0) 8 := V.1.2.1.1
  have g2 : ok h2 (A 0) 9 := V.2.1.1.1
  obtain ⟨hX, hbl, hbA, hL⟩ := S
  obtain ⟨z, hz, z', hz', ee, V'⟩ := (t_row V : Sim (f_X8_row h1 (B 0) (xs (i + 1)) (xs (i + 2)) M1) (f_X9_row h2 (A 0) (xs (i + 1)) (xs (i + 2)) M2) h1 h2 B A pic)
  refine lv_aload_n X.1.1 X.1.2.1 dL_law_553 rfl (lv_at hl 1 rfl) ?_
  refine l_arg X.1.1 X.1.2.1 hw.2.2.1 hX hbl hbA hL (i := i) (kn := 1) (by omega) (lv_at hl 0 rfl) (lv_at hl 4 rfl) rfl dL_law_554 dL_law_555 dL_law_557 dL_law_558 dL_law_559 ?_
  refine l_arg X.1.1 X.1.2.1 hw.2.2.1 hX hbl hbA hL (i := i) (kn := 2) (by omega) (lv_at hl 0 rfl) (lv_at hl 4 rfl) rfl dL_law_560 dL_law_561 dL_law_563 dL_law_564 dL_law_565 ?_
  refine l_V1 (As := [.int (xs (i + 1)), .int (xs (i + 2))]) (rest := []) X hw (c_X8_row hz) (cwV 2 X.1.2.2.2.2 (guV um_L_78 ui_X8_row us_X8_row un_X8 uo_X8_row) rfl rfl rfl (by decide +kernel) ⟨Nat.le_of_ble_eq_true rfl, Nat.le_of_ble_eq_true rfl⟩) g1 (by decide) rfl rfl hl.1 rfl (Nat.le_of_ble_eq_true rfl) dL_law_566 f0 (fun H locs hw => ?_)
  refine lv_aload_n X.1.1 X.1.2.1 dL_law_569 rfl (lv_at hl 2 rfl) ?_
  refine l_arg X.1.1 X.1.2.1 hw.2.2.1 hX hbl hbA hL (i := i) (kn := 1) (by omega) (lv_at hl 0 rfl) (lv_at hl 4 rfl) rfl dL_law_570 dL_law_571 dL_law_573 dL_law_574 dL_law_575 ?_
  refine l_arg X.1.1 X.1.2.1 hw.2.2.1 hX hbl hbA hL (i := i) (kn := 2) (by omega) (lv_at hl 0 rfl) (lv_at hl 4 rfl) rfl dL_law_576 dL_law_577 dL_law_579 dL_law_580 dL_law_581 ?_
  refine l_V2 (As := [.int (xs (i + 1)), .int (xs (i + 2))]) (rest := [.int z.1]) X hw (c_X9_row hz') (cwV 2 X.1.2.2.2.2 (guV um_L_81 ui_X9_row us_X9_row un_X9 uo_X9_row) rfl rfl rfl (by decide +kernel) ⟨Nat.le_of_ble_eq_true rfl, Nat.le_of_ble_eq_true rfl⟩) g2 (by decide) rfl rfl hl.1 rfl (Nat.le_of_ble_eq_true rfl) dL_law_582 f0 (fun H locs hw => ?_)
  refine lv_icmp_eq (tgt := 1588) X.1.1 X.1.2.1 dL_law_585 (by decide) (fun _ => ?_) (fun ne => absurd ee ne)
  refine W.widen (k := cells + 147) (n := slots + 5438) (by omega) (by omega) ?_
  exact KK B pic h1 z.2 z'.2 H locs ls V' hw rfl rfl hl
end LAW
