/-! image(): with a picture it copies; without one it makes a Board first -/
def f_X8_image1 (h : Hs) (a0 qp : Nat) (M : Mm) : Option Mm :=
  gd (ok h a0 8) <|
  dq (zR h a0 1) fun qb =>
  gd (ok h qp 0) <|
  (f_X0_copyFrom h qp qb M).bind fun z =>
  some z
set_option maxHeartbeats 4000000 in
set_option maxRecDepth 100000 in
theorem c_X8_image1 {l : Launch} {D : va_G} {cy : Nat → ClassId} {h : Hs} {a0 qp : Nat} {M z : Mm} (eqp : zR h a0 5 = some qp) (hf : f_X8_image1 h a0 qp M = some z) : CtI l D cy yX8_image (wu yX8_image cX8_image 2 (some .boolean)) ({ frames := 4, cells := 0, slots := 0, locals := 100 }) [.ref a0] h M 1 z := by
  refine enterI (cc := cX8_image) (maxL := 2) (ret := (some .boolean)) (by decide) (Nat.le_of_ble_eq_true rfl) ?_
  intro p e s m args below meth c A ls X hw hr hlk hl
  have hl : lv_has ls 2 [(0, .ref a0)] := hl
  unfold f_X8_image1 at hf
  obtain ⟨g_a0, hf⟩ := ogd hf
  obtain ⟨qb, eqb, hf⟩ := odq hf
  obtain ⟨g_qp, hf⟩ := ogd hf
  obtain ⟨z1, ez1, hf⟩ := obd hf
  refine lv_aload_n X.1.1 X.1.2.1 dX8_image_0 rfl (lv_at hl 0 rfl) ?_
  refine r_getq (k := 8) (j := 5) X hw rfl inX8 g_a0 rfl (by decide) (by decide) uf_X8_290 rfl dX8_image_1 eqp ?_
  refine lv_ifnull X.1.1 X.1.2.1 dX8_image_4 ?_
  refine lv_iconst (v := (1 : Int32)) X.1.1 X.1.2.1 dX8_image_7 (by decide) ?_
  refine lv_goto (tgt := 12) X.1.1 X.1.2.1 dX8_image_8 (by decide) ?_
  refine lv_istore_n (lv' := [(1, .int (1 : Int32)), (0, .ref a0)]) X.1.1 X.1.2.1 dX8_image_12 rfl hl (by decide) rfl (fun ls hl => ?_)
  refine lv_aload_n X.1.1 X.1.2.1 dX8_image_13 rfl (lv_at hl 1 rfl) ?_
  refine r_getq (k := 8) (j := 5) X hw rfl inX8 g_a0 rfl (by decide) (by decide) uf_X8_290 rfl dX8_image_14 eqp ?_
  refine lv_ifnonnull (tgt := 31) X.1.1 X.1.2.1 dX8_image_17 (by decide) ?_
  refine lv_aload_n X.1.1 X.1.2.1 dX8_image_31 rfl (lv_at hl 1 rfl) ?_
  refine r_getq (k := 8) (j := 5) X hw rfl inX8 g_a0 rfl (by decide) (by decide) uf_X8_290 rfl dX8_image_32 eqp ?_
  refine lv_aload_n X.1.1 X.1.2.1 dX8_image_35 rfl (lv_at hl 1 rfl) ?_
  refine r_getq (k := 8) (j := 1) X hw rfl inX8 g_a0 rfl (by decide) (by decide) uf_X8_19 rfl dX8_image_36 eqb ?_
  refine r_callVV (As := [.ref qb]) (rest := []) X hw (c_X0_copyFrom ez1) (cwV 1 X.1.2.2.2.2 (guV um_X8_293 ui_X0_copyFrom us_X0_copyFrom un_X0 uo_X0_copyFrom) rfl rfl rfl (by decide +kernel) ⟨Nat.le_of_ble_eq_true rfl, Nat.le_of_ble_eq_true rfl⟩) g_qp (by decide) rfl rfl hl.1 rfl (Nat.le_of_ble_eq_true rfl) dX8_image_39 ⟨Nat.zero_le _, Nat.zero_le _⟩ (fun H locs hw => ?_)
  refine lv_iload_n X.1.1 X.1.2.1 dX8_image_42 rfl (lv_at hl 0 rfl) ?_
  cases hf
  exact r_retI (v := (1 : Int32)) X hw hr hlk rfl dX8_image_43
def CtNI (l : Launch) (D : va_G) (cy : Nat → ClassId) (y : MethodName) (ws : List Cond) (rm : Room) (As : List Value) (h : Hs) (M : Mm) (r : Int32) (P : Hs × Mm → Prop) (mc ms : Nat) : Prop := ∀ sz : Nat, Met l y ws rm (va_Pc As (PCs D cy h M sz)) (va_Qi (fun (r2 : Int32) (u : Hs × Mm) => r2 = r ∧ P u) (fun u => PEs D cy (va_A (pool cy h M) sz) u.1 u.2) (va_A (pool cy h M) sz)) mc ms (va_A (pool cy h M) sz)
def n_X8_image0 (h : Hs) (a0 : Nat) (M : Mm) (v : Hs × Mm) : Prop :=
  ∃ q, q ∉ zL h ∧ ∃ u : Hs × Mm, n_X0_init (nh h q 0 0) q (nm M q) u ∧ ∃ qb, zR (setR u.1 a0 5 (some q)) a0 1 = some qb ∧
  ∃ z, f_X0_copyFrom (setR u.1 a0 5 (some q)) q qb u.2 = some z ∧ v = (setR u.1 a0 5 (some q), z)
set_option maxHeartbeats 4000000 in
set_option maxRecDepth 100000 in
theorem c_X8_image0 {l : Launch} {D : va_G} {cy : Nat → ClassId} {h : Hs} {a0 : Nat} {M : Mm} (eqp : zR h a0 5 = none) (g_a0 : ok h a0 8)
    (hpre : ∀ (q : Nat) (u : Hs × Mm), q ∉ zL h → n_X0_init (nh h q 0 0) q (nm M q) u → ∃ qb, zR (setR u.1 a0 5 (some q)) a0 1 = some qb ∧ ∃ z, f_X0_copyFrom (setR u.1 a0 5 (some q)) q qb u.2 = some z) :
    CtNI l D cy yX8_image (wu yX8_image cX8_image 2 (some .boolean)) ({ frames := 4, cells := 147, slots := 5438, locals := 100 }) [.ref a0] h M 0 (n_X8_image0 h a0 M) 147 5438 := fun sz => by
  refine Met.ofW (cc := cX8_image) (maxL := 2) (ret := (some .boolean)) (by decide) rfl ?_
  intro p e s m args below meth c s₁ B hml hv
  obtain ⟨rfl, hsz, hP, hK, hN, hD0, hF⟩ := hv
  have hts0 := atoms_spec (ws := wu yX8_image cX8_image 2 (some .boolean)) B.pre
  have hts : ∀ w ∈ gtbl, w.before #[Value.ref a0] s = true := fun w hw => hts0 w (List.mem_cons_of_mem _ hw)
  have hown : s.vm.findClass RX8 = some m.cls := findClass_of_methodNamed B.named
  have hr := B.returns
  have hlk := B.notSynchronized
  subst hsz
  have hD : va_D (va_A (pool cy h M) s.heap.size) (pool cy h M) := hD0.self (sz := s.heap.size)
  have hA : ∀ q : Nat, s.heap.size ≤ q → va_A (pool cy h M) s.heap.size q := fun q hq => Or.inr hq
  have hl := lv_entry [.ref a0] (n := 2) (Nat.le_of_ble_eq_true rfl)
  rw [lg_entry_eq]
  generalize (lg_sl [.ref a0] ++ List.replicate (2 - (lg_sl [.ref a0]).length) Slot.unset).toArray = ls at hl ⊢
  have X : Cx p s m #[Value.ref a0] c cX8_image 2 gtbl RX8 D cy (va_A (pool cy h M) s.heap.size) := ⟨⟨B.exec, B.bytes, hml, hown, hts⟩, hK, hN, hF⟩
  have hw : Wd D cy (va_A (pool cy h M) s.heap.size) s.heap h M s.heap [] := ⟨hP, hD, va_S.rf, hA⟩
  have hl : lv_has ls 2 [(0, .ref a0)] := hl
  have g0 := g_a0
  refine lv_aload_n X.1.1 X.1.2.1 dX8_image_0 rfl (lv_at hl 0 rfl) ?_
  refine r_getn (k := 8) (j := 5) X hw rfl inX8 g_a0 rfl (by decide) (by decide) uf_X8_290 rfl dX8_image_1 eqp ?_
  refine lv_ifnullN (tgt := 11) X.1.1 X.1.2.1 dX8_image_4 (by decide) ?_
  refine lv_iconst (v := (0 : Int32)) X.1.1 X.1.2.1 dX8_image_11 (by decide) ?_
  refine lv_istore_n (lv' := [(1, .int (0 : Int32)), (0, .ref a0)]) X.1.1 X.1.2.1 dX8_image_12 rfl hl (by decide) rfl (fun ls hl => ?_)
  refine lv_aload_n X.1.1 X.1.2.1 dX8_image_13 rfl (lv_at hl 1 rfl) ?_
  refine r_getn (k := 8) (j := 5) X hw rfl inX8 g_a0 rfl (by decide) (by decide) uf_X8_290 rfl dX8_image_14 eqp ?_
  refine lv_ifnonnullN X.1.1 X.1.2.1 dX8_image_17 ?_
  refine lv_aload_n X.1.1 X.1.2.1 dX8_image_20 rfl (lv_at hl 1 rfl) ?_
  refine r_new (k := 0) X hw rfl inX0 tyX0_ok ul_X8_16 up_X0 un_X0 (by decide) (fun j hj => by rcases (show j = 0 ∨ j = 1 by omega) with rfl | rfl <;> rfl) (Nat.le_of_ble_eq_true rfl) (Nat.le_of_ble_eq_true rfl) dX8_image_21 (fun q H hq hw => ?_)
  refine lv_dup X.1.1 X.1.2.1 dX8_image_24 rfl ?_
  refine r_init (As := []) (rest := [.ref q, .ref a0]) X hw (c_X0_init nh_ok) (cwI 0 X.1.2.2.2.2 (guN uo_X0_init) rfl rfl rfl (X.1.2.2.2.2 _ un_X0) (X.1.2.2.2.2 _ um_X8_18) (X.1.2.2.2.2 _ ui_X0_init) rfl (by decide +kernel) ⟨Nat.le_of_ble_eq_true rfl, Nat.le_of_ble_eq_true rfl⟩) rfl hl.1 rfl (Nat.le_of_ble_eq_true rfl) dX8_image_25 ⟨Nat.le_of_ble_eq_true rfl, Nat.le_of_ble_eq_true rfl⟩ (fun u H locs hu hw => ?_)
  obtain ⟨qb, eqb, z, ez⟩ := hpre q u hq hu
  have g_q : ok u.1 q 0 := e_X0_init hu nh_ok nh_ok
  have g_a0 : ok u.1 a0 8 := e_X0_init hu nh_ok (ok_nh hq g0)
  refine r_putq (k := 8) (j := 5) X hw rfl inX8 tyX8_ok nmX8 g_a0 rfl (by decide) (by decide) uf_X8_290 rfl rfl rfl rfl dX8_image_28 (fun H locs hw => ?_)
  have g_q : ok (setR u.1 a0 5 (some q)) q 0 := ok_setR g_q
  have g_a0 : ok (setR u.1 a0 5 (some q)) a0 8 := ok_setR g_a0
  have eqp : zR (setR u.1 a0 5 (some q)) a0 5 = some q := by simp [zR, setR, up2]
  refine lv_aload_n X.1.1 X.1.2.1 dX8_image_31 rfl (lv_at hl 1 rfl) ?_
  refine r_getq (k := 8) (j := 5) X hw rfl inX8 g_a0 rfl (by decide) (by decide) uf_X8_290 rfl dX8_image_32 eqp ?_
  refine lv_aload_n X.1.1 X.1.2.1 dX8_image_35 rfl (lv_at hl 1 rfl) ?_
  refine r_getq (k := 8) (j := 1) X hw rfl inX8 g_a0 rfl (by decide) (by decide) uf_X8_19 rfl dX8_image_36 eqb ?_
  refine r_callVV (As := [.ref qb]) (rest := []) X hw (c_X0_copyFrom ez) (cwV 1 X.1.2.2.2.2 (guV um_X8_293 ui_X0_copyFrom us_X0_copyFrom un_X0 uo_X0_copyFrom) rfl rfl rfl (by decide +kernel) ⟨Nat.le_of_ble_eq_true rfl, Nat.le_of_ble_eq_true rfl⟩) g_q (by decide) rfl rfl hl.1 rfl (Nat.le_of_ble_eq_true rfl) dX8_image_39 ⟨Nat.le_of_ble_eq_true rfl, Nat.le_of_ble_eq_true rfl⟩ (fun H locs hw => ?_)
  refine lv_iload_n X.1.1 X.1.2.1 dX8_image_42 rfl (lv_at hl 0 rfl) ?_
  refine W.widen (k := 147) (n := 5438) (Nat.le_of_ble_eq_true rfl) (Nat.le_of_ble_eq_true rfl) ?_
  exact W.zret (v := (0 : Int32)) X.1.1 X.1.2.1 hr rfl (fun t ht hW => ⟨⟨(0 : Int32), (setR u.1 a0 5 (some q), z), rfl, ⟨rfl, q, hq, u, hu, qb, eqb, z, ez, rfl⟩, by rw [ht]; exact hw.1, va_K.moved hW.alike X.2.1, hw.2.1⟩, hw.2.2.1.F ht⟩) hw.2.2.1.2.2 dX8_image_43 hlk
