/-! READ: a number out of the bytes, on both sides -/
theorem sx8 (X : Int64) : (X <<< (56:Int64)) >>> (56:Int64) = X.toInt32.toInt8.toInt32.toInt64 := by
  apply Int64.toBitVec_inj.mp
  rw [Int64.toBitVec_shiftRight, Int64.toBitVec_shiftLeft, show (56:Int64).toBitVec.smod 64 = 56 by decide]
  simp only [Int32.toBitVec_toInt64, Int8.toBitVec_toInt32, Int32.toBitVec_toInt8, Int64.toBitVec_toInt32]
  apply BitVec.eq_of_getLsbD_eq
  intro i hi
  simp only [BitVec.sshiftRight_eq', BitVec.shiftLeft_eq', BitVec.getLsbD_signExtend, BitVec.getLsbD_sshiftRight, BitVec.getLsbD_shiftLeft, BitVec.msb_eq_getLsbD_last]
  simp only [show BitVec.toNat (56 : BitVec 64) = 56 by decide, hi, decide_true, decide_false, show ¬ 64 ≤ i by omega, Bool.not_false, Bool.true_and]
  by_cases g : i < 8
  · simp [g, show i < 32 by omega, show 56 + i < 64 by omega, show ¬ 64 ≤ i by omega, show ¬ 56 + i < 56 by omega]
  · by_cases g2 : i < 32 <;> simp [g, g2, show ¬ 56 + i < 64 by omega, show ¬ 64 ≤ i by omega]
theorem sx16 (X : Int64) : (X <<< (48:Int64)) >>> (48:Int64) = X.toInt32.toInt16.toInt32.toInt64 := by
  apply Int64.toBitVec_inj.mp
  rw [Int64.toBitVec_shiftRight, Int64.toBitVec_shiftLeft, show (48:Int64).toBitVec.smod 64 = 48 by decide]
  simp only [Int32.toBitVec_toInt64, Int16.toBitVec_toInt32, Int32.toBitVec_toInt16, Int64.toBitVec_toInt32]
  apply BitVec.eq_of_getLsbD_eq
  intro i hi
  simp only [BitVec.sshiftRight_eq', BitVec.shiftLeft_eq', BitVec.getLsbD_signExtend, BitVec.getLsbD_sshiftRight, BitVec.getLsbD_shiftLeft, BitVec.msb_eq_getLsbD_last]
  simp only [show BitVec.toNat (48 : BitVec 64) = 48 by decide, hi, decide_true, decide_false, show ¬ 64 ≤ i by omega, Bool.not_false, Bool.true_and]
  by_cases g : i < 16
  · simp [g, show i < 32 by omega, show 48 + i < 64 by omega, show ¬ 64 ≤ i by omega, show ¬ 48 + i < 48 by omega]
  · by_cases g2 : i < 32 <;> simp [g, g2, show ¬ 48 + i < 64 by omega, show ¬ 64 ≤ i by omega]
theorem sx32 (X : Int64) : (X <<< (32:Int64)) >>> (32:Int64) = X.toInt32.toInt64 := by
  apply Int64.toBitVec_inj.mp
  rw [Int64.toBitVec_shiftRight, Int64.toBitVec_shiftLeft, show (32:Int64).toBitVec.smod 64 = 32 by decide]
  simp only [Int32.toBitVec_toInt64, Int64.toBitVec_toInt32]
  apply BitVec.eq_of_getLsbD_eq
  intro i hi
  simp only [BitVec.sshiftRight_eq', BitVec.shiftLeft_eq', BitVec.getLsbD_signExtend, BitVec.getLsbD_sshiftRight, BitVec.getLsbD_shiftLeft, BitVec.msb_eq_getLsbD_last]
  simp only [show BitVec.toNat (32 : BitVec 64) = 32 by decide, hi, decide_true, decide_false, show ¬ 64 ≤ i by omega, Bool.not_false, Bool.true_and]
  by_cases g : i < 32
  · simp [g, show i < 32 by omega, show 32 + i < 64 by omega, show ¬ 64 ≤ i by omega, show ¬ 32 + i < 32 by omega]
  · simp [g, show ¬ 32 + i < 64 by omega, show ¬ 64 ≤ i by omega]
theorem sx64 (X : Int64) : (X <<< (0:Int64)) >>> (0:Int64) = X := by
  apply Int64.toBitVec_inj.mp
  rw [Int64.toBitVec_shiftRight, Int64.toBitVec_shiftLeft, show (0:Int64).toBitVec.smod 64 = 0 by decide]
  simp
theorem m255 : ∀ i : Fin 32, (255#32).getLsbD i = decide (i.1 < 8) := by decide
theorem m255L : ∀ i : Fin 64, (255#64).getLsbD i = decide (i.1 < 8) := by decide
theorem m2047 : ∀ i : Fin 32, (2047#32).getLsbD i = decide (i.1 < 11) := by decide
theorem m2047L : ∀ i : Fin 64, (2047#64).getLsbD i = decide (i.1 < 11) := by decide
theorem m23 : ∀ i : Fin 64, (8388607#64).getLsbD i = decide (i.1 < 23) := by decide
theorem m1 : ∀ i : Fin 64, (1#64).getLsbD i = decide (i.1 = 0) := by decide
theorem and1 (A : Int64) : A &&& 1 = if A.toBitVec.getLsbD 0 then 1 else 0 := by
  apply Int64.toBitVec_inj.mp
  apply BitVec.eq_of_getLsbD_eq
  intro i hi
  rw [Int64.toBitVec_and, BitVec.getLsbD_and, show (Int64.toBitVec 1) = 1#64 by decide, m1 ⟨i, hi⟩]
  by_cases g : i = 0
  · subst g
    cases A.toBitVec.getLsbD 0 <;> simp <;> decide
  · cases A.toBitVec.getLsbD 0
    · simp [g]
    · simp only [g, decide_false, Bool.and_false, if_true, show (Int64.toBitVec 1) = 1#64 by decide, m1 ⟨i, hi⟩]
theorem ex32 (X : Int64) : (((X.toInt32.toInt64.toUInt64 >>> (23:UInt64)).toInt64).toInt32) &&& (255:Int32) = ((X >>> (23:Int64)) &&& (255 : Int64)).toInt32 := by
  apply Int32.toBitVec_inj.mp
  simp only [Int32.toBitVec_and, Int64.toBitVec_toInt32, Int64.toBitVec_and, UInt64.toBitVec_toInt64, UInt64.toBitVec_shiftRight, Int64.toBitVec_toUInt64, Int64.toBitVec_shiftRight, Int32.toBitVec_toInt64]
  apply BitVec.eq_of_getLsbD_eq
  intro i hi
  simp only [show (UInt64.toBitVec 23 % 64) = 23 by decide, show (Int64.toBitVec 23).smod 64 = 23 by decide, show Int32.toBitVec 255 = 255#32 by decide, show Int64.toBitVec 255 = 255#64 by decide, BitVec.sshiftRight_eq', BitVec.ushiftRight_eq', BitVec.getLsbD_signExtend, BitVec.getLsbD_and, BitVec.getLsbD_sshiftRight, BitVec.getLsbD_ushiftRight, show BitVec.toNat (23 : BitVec 64) = 23 by decide, m255 ⟨i, hi⟩, m255L ⟨i, show i < 64 by omega⟩]
  by_cases g : i < 8
  · simp [g, hi, show i < 64 by omega, show 23 + i < 64 by omega, show 23 + i < 32 by omega, show ¬ 64 ≤ i by omega]
  · simp [g, show ¬ 64 ≤ i by omega]
theorem an32 (X : Int64) : X.toInt32.toInt64 &&& (8388607 : Int64) = X &&& (8388607 : Int64) := by
  apply Int64.toBitVec_inj.mp
  simp only [Int64.toBitVec_and, Int64.toBitVec_toInt32, Int32.toBitVec_toInt64]
  apply BitVec.eq_of_getLsbD_eq
  intro i hi
  simp only [BitVec.getLsbD_and, show Int64.toBitVec 8388607 = 8388607#64 by decide, m23 ⟨i, hi⟩, BitVec.getLsbD_signExtend]
  by_cases g : i < 23
  · simp [g, show i < 64 by omega, show i < 32 by omega]
  · simp [g]
theorem sg32 (X : Int64) : ((X.toInt32.toInt64.toUInt64 >>> (31:UInt64)).toInt64 &&& (1 : Int64) = 0) = ¬ ((X >>> (31 : Int64)) &&& (1 : Int64) = 1) := by
  rw [and1, and1]
  have e : ((X.toInt32.toInt64.toUInt64 >>> (31:UInt64)).toInt64).toBitVec.getLsbD 0 = (X >>> (31 : Int64)).toBitVec.getLsbD 0 := by
    simp only [Int64.toBitVec_toInt32, UInt64.toBitVec_toInt64, UInt64.toBitVec_shiftRight, Int64.toBitVec_toUInt64, Int64.toBitVec_shiftRight, Int32.toBitVec_toInt64, show (UInt64.toBitVec 31 % 64) = 31 by decide, show (Int64.toBitVec 31).smod 64 = 31 by decide, BitVec.sshiftRight_eq', BitVec.ushiftRight_eq', BitVec.getLsbD_signExtend, BitVec.getLsbD_sshiftRight, BitVec.getLsbD_ushiftRight, show BitVec.toNat (31 : BitVec 64) = 31 by decide]
    simp
  rw [e]
  cases (X >>> (31 : Int64)).toBitVec.getLsbD 0 <;> decide
theorem ex64 (X : Int64) : (((X.toUInt64 >>> (52:UInt64)).toInt64).toInt32) &&& (2047:Int32) = ((X >>> (52:Int64)) &&& (2047 : Int64)).toInt32 := by
  apply Int32.toBitVec_inj.mp
  simp only [Int32.toBitVec_and, Int64.toBitVec_toInt32, Int64.toBitVec_and, UInt64.toBitVec_toInt64, UInt64.toBitVec_shiftRight, Int64.toBitVec_toUInt64, Int64.toBitVec_shiftRight, Int32.toBitVec_toInt64]
  apply BitVec.eq_of_getLsbD_eq
  intro i hi
  simp only [show (UInt64.toBitVec 52 % 64) = 52 by decide, show (Int64.toBitVec 52).smod 64 = 52 by decide, show Int32.toBitVec 2047 = 2047#32 by decide, show Int64.toBitVec 2047 = 2047#64 by decide, BitVec.sshiftRight_eq', BitVec.ushiftRight_eq', BitVec.getLsbD_signExtend, BitVec.getLsbD_and, BitVec.getLsbD_sshiftRight, BitVec.getLsbD_ushiftRight, show BitVec.toNat (52 : BitVec 64) = 52 by decide, m2047 ⟨i, hi⟩, m2047L ⟨i, show i < 64 by omega⟩]
  by_cases g : i < 11
  · simp [g, hi, show i < 64 by omega, show 52 + i < 64 by omega, show ¬ 64 ≤ i by omega]
  · simp [g, show ¬ 64 ≤ i by omega]
theorem sg64 (X : Int64) : ((X.toUInt64 >>> (63:UInt64)).toInt64 &&& (1 : Int64) = 0) = (0 ≤ X) := by
  rw [and1]
  have e : ((X.toUInt64 >>> (63:UInt64)).toInt64).toBitVec.getLsbD 0 = X.toBitVec.msb := by
    simp only [UInt64.toBitVec_toInt64, UInt64.toBitVec_shiftRight, Int64.toBitVec_toUInt64, show (UInt64.toBitVec 63 % 64) = 63 by decide, BitVec.ushiftRight_eq', BitVec.getLsbD_ushiftRight, show BitVec.toNat (63 : BitVec 64) = 63 by decide, BitVec.msb_eq_getLsbD_last]
  rw [e, BitVec.msb_eq_toInt]
  have : X.toInt = X.toBitVec.toInt := rfl
  rw [Int64.le_iff_toInt_le, this, show (0 : Int64).toInt = 0 by decide]
  by_cases g : X.toBitVec.toInt < 0
  · simp [g]
  · simp [g]
theorem sz8 (x : Int8) : -1000000 ≤ x.toInt32.toInt64 ∧ x.toInt32.toInt64 ≤ 1000000 := by
  have a := Int8.le_toInt x
  have b := Int8.toInt_lt x
  constructor
  · rw [Int64.le_iff_toInt_le, Int32.toInt_toInt64, Int8.toInt_toInt32, show (-1000000 : Int64).toInt = -1000000 by decide]; omega
  · rw [Int64.le_iff_toInt_le, Int32.toInt_toInt64, Int8.toInt_toInt32, show (1000000 : Int64).toInt = 1000000 by decide]; omega
theorem sz16 (x : Int16) : -1000000 ≤ x.toInt32.toInt64 ∧ x.toInt32.toInt64 ≤ 1000000 := by
  have a := Int16.le_toInt x
  have b := Int16.toInt_lt x
  constructor
  · rw [Int64.le_iff_toInt_le, Int32.toInt_toInt64, Int16.toInt_toInt32, show (-1000000 : Int64).toInt = -1000000 by decide]; omega
  · rw [Int64.le_iff_toInt_le, Int32.toInt_toInt64, Int16.toInt_toInt32, show (1000000 : Int64).toInt = 1000000 by decide]; omega
/-- a whole number as a reading -/
def readS (x : Int64) : Int32 := if 1000000 < x then 2000000 else if -1000000 ≤ x then x.toInt32 else 2000000
theorem readS_in {x : Int64} (h : -1000000 ≤ x ∧ x ≤ 1000000) : readS x = x.toInt32 := by
  unfold readS
  rw [if_neg (Int64.not_lt.mpr h.2), if_pos h.1]
theorem readS_ok {x : Int64} : readS x = 2000000 ∨ (-1000000 ≤ (readS x).toInt ∧ (readS x).toInt ≤ 1000000) := by
  unfold readS
  by_cases h1 : 1000000 < x
  · rw [if_pos h1]; exact Or.inl rfl
  · rw [if_neg h1]
    by_cases h2 : -1000000 ≤ x
    · rw [if_pos h2]
      right
      rw [Int64.not_lt, Int64.le_iff_toInt_le, show (1000000 : Int64).toInt = 1000000 by decide] at h1
      rw [Int64.le_iff_toInt_le, show (-1000000 : Int64).toInt = -1000000 by decide] at h2
      rw [Int64.toInt_toInt32, Int.bmod_eq_of_le (by omega) (by omega)]
      omega
    · rw [if_neg h2]; exact Or.inl rfl
/-- a number that floats -/
def cutS (neg : Bool) (e : Int32) (m : Int64) (w : Int32) : Int32 :=
  if 0 ≤ e then if e ≤ 19 then readS (if neg then -((((1 : Int64) <<< (w.toInt64 &&& 63)) ||| m) >>> ((w - e).toInt64 &&& 63)) else (((1 : Int64) <<< (w.toInt64 &&& 63)) ||| m) >>> ((w - e).toInt64 &&& 63)) else 2000000 else 0
def numS (kind : Nat) (X : Int64) : Int32 := match kind with
  | 0 => X.toInt32.toInt8.toInt32
  | 1 => X.toInt32.toInt16.toInt32
  | 2 => readS X.toInt32.toInt64
  | 3 => readS X
  | 4 => cutS (decide ((X >>> (31 : Int64)) &&& (1 : Int64) = 1)) (((X >>> (23 : Int64)) &&& (255 : Int64)).toInt32 - 127) (X &&& 8388607) 23
  | _ => cutS (decide (¬ 0 ≤ X)) (((X >>> (52 : Int64)) &&& (2047 : Int64)).toInt32 - 1023) (X &&& 4503599627370495) 52
theorem i_lt20 {e : Int32} : (e < 20) = (e ≤ 19) := by
  apply propext
  rw [Int32.lt_iff_toInt_lt, Int32.le_iff_toInt_le, show (20 : Int32).toInt = 20 by decide, show (19 : Int32).toInt = 19 by decide]; omega
def accB (b : Nat → Int32) (o : Nat) : Nat → Int64
  | 0 => 0
  | k + 1 => (accB b o k <<< ((8 : Int32).toInt64 &&& 63)) ||| (b (o + k) &&& 255).toInt64
theorem accB_cg {b b' : Nat → Int32} {o : Nat} : ∀ {k : Nat}, (∀ i, i < k → b (o + i) = b' (o + i)) → accB b o k = accB b' o k
  | 0, _ => rfl
  | k + 1, h => by
    unfold accB
    rw [accB_cg (k := k) fun i hi => h i (by omega), h k (by omega)]
def szN (kind : Nat) : Nat := match kind with
  | 0 => 1 | 1 => 2 | 2 => 4 | 3 => 8 | 4 => 4 | _ => 8
section N
variable {h : Hs} {B A : Nat → Nat} {M : Mm} {pic : Prop} {o u k kind : Nat} {e : Int32} {x m : Int64}
theorem r_reading : f_X9_reading h x M = some (readS x) := by
  unfold f_X9_reading readS
  split
  · rfl
  · split <;> rfl
theorem x_reading : f_X6_readingOrGap h x M = some (readS x) := by
  unfold f_X6_readingOrGap f_X8_isWithin readS
  rw [show (-1000000 : Int32).toInt64 = -1000000 by decide, show (1000000 : Int32).toInt64 = 1000000 by decide]
  by_cases h1 : x < -1000000
  · rw [if_pos h1, b_some, if_pos rfl]
    by_cases h2 : 1000000 < x
    · rw [if_pos h2]
    · rw [if_neg h2, if_neg (Int64.not_le.mpr h1)]
  · rw [if_neg h1]
    by_cases h2 : 1000000 < x
    · rw [if_pos h2, if_pos h2, b_some, if_pos rfl]
    · rw [if_neg h2, if_neg h2, b_some, if_neg (by decide), if_pos (Int64.not_lt.mp h1)]
theorem r_cut {p1 w : Int32} : f_X9_cut h p1 e m w M = some (cutS (decide (¬ p1 = 0)) e m w) := by
  unfold f_X9_cut cutS
  split
  · split
    · by_cases z : p1 = 0
      · simp only [lt_]
        rw [if_pos z, b_some, r_reading, b_some, if_neg (by simp [z])]
      · simp only [lt_]
        rw [if_neg z, b_some, r_reading, b_some, if_pos (by simp [z])]
    · rfl
  · rfl
theorem x_cut4 (X : Int64) : f_X6_cutFloating h X.toInt32.toInt64 8 23 M = some (numS 4 X) := by
  unfold f_X6_cutFloating numS cutS
  simp only [lt_]
  rw [show (((1 : Int32) <<< (((8 : Int32) - (1 : Int32)) &&& 31)) - (1 : Int32)) = 127 by decide, show ((23 : Int32).toInt64.toUInt64 &&& Int64.toUInt64 63) = 23 by decide, show (((1 : Int32) <<< ((8 : Int32) &&& 31)) - (1 : Int32)) = 255 by decide, show (((1 : Int64) <<< ((23 : Int32).toInt64 &&& 63)) - (1 : Int64)) = 8388607 by decide, show ((((23 : Int32) + (8 : Int32))).toInt64.toUInt64 &&& Int64.toUInt64 63) = 31 by decide, ex32, an32, Int64.or_comm (X &&& 8388607)]
  generalize ((X >>> (23 : Int64)) &&& (255 : Int64)).toInt32 - 127 = e
  by_cases g0 : 0 ≤ e
  · rw [if_pos g0, if_pos g0]
    by_cases g1 : e ≤ 19
    · rw [if_pos (show e < 20 by rw [i_lt20]; exact g1), if_pos g1]
      by_cases z : (X >>> (31 : Int64)) &&& (1 : Int64) = 1
      · rw [if_neg (show ¬ ((X.toInt32.toInt64.toUInt64 >>> (31:UInt64)).toInt64 &&& (1 : Int64) = 0) by rw [sg32]; exact not_not_intro z), b_some, if_neg (show ¬ (1 : Int32) = 0 by decide), b_some, x_reading, b_some, if_pos (by simp [z])]
      · rw [if_pos (show ((X.toInt32.toInt64.toUInt64 >>> (31:UInt64)).toInt64 &&& (1 : Int64) = 0) by rw [sg32]; exact z), b_some, if_pos rfl, b_some, x_reading, b_some, if_neg (by simp [z])]
    · rw [if_neg (show ¬ e < 20 by rw [i_lt20]; exact g1), if_neg g1]
  · rw [if_neg g0, if_neg g0]
theorem x_cut5 (X : Int64) : f_X6_cutFloating h X 11 52 M = some (numS 5 X) := by
  unfold f_X6_cutFloating numS cutS
  simp only [lt_]
  rw [show (((1 : Int32) <<< (((11 : Int32) - (1 : Int32)) &&& 31)) - (1 : Int32)) = 1023 by decide, show ((52 : Int32).toInt64.toUInt64 &&& Int64.toUInt64 63) = 52 by decide, show (((1 : Int32) <<< ((11 : Int32) &&& 31)) - (1 : Int32)) = 2047 by decide, show (((1 : Int64) <<< ((52 : Int32).toInt64 &&& 63)) - (1 : Int64)) = 4503599627370495 by decide, show ((((52 : Int32) + (11 : Int32))).toInt64.toUInt64 &&& Int64.toUInt64 63) = 63 by decide, ex64, Int64.or_comm (X &&& 4503599627370495)]
  generalize ((X >>> (52 : Int64)) &&& (2047 : Int64)).toInt32 - 1023 = e
  by_cases g0 : 0 ≤ e
  · rw [if_pos g0, if_pos g0]
    by_cases g1 : e ≤ 19
    · rw [if_pos (show e < 20 by rw [i_lt20]; exact g1), if_pos g1]
      by_cases z : 0 ≤ X
      · rw [if_pos (show ((X.toUInt64 >>> (63:UInt64)).toInt64 &&& (1 : Int64) = 0) by rw [sg64]; exact z), b_some, if_pos rfl, b_some, x_reading, b_some, if_neg (by simp [z])]
      · rw [if_neg (show ¬ ((X.toUInt64 >>> (63:UInt64)).toInt64 &&& (1 : Int64) = 0) by rw [sg64]; exact z), b_some, if_neg (show ¬ (1 : Int32) = 0 by decide), b_some, x_reading, b_some, if_pos (by simp [z])]
    · rw [if_neg (show ¬ e < 20 by rw [i_lt20]; exact g1), if_neg g1]
  · rw [if_neg g0, if_neg g0]
theorem r_sizeOf (hk : kind < 6) : f_X9_sizeOf h (Int32.ofNat kind) M = some (Int32.ofNat (szN kind)) := by
  rcases (show kind = 0 ∨ kind = 1 ∨ kind = 2 ∨ kind = 3 ∨ kind = 4 ∨ kind = 5 by omega) with rfl | rfl | rfl | rfl | rfl | rfl <;> rfl
theorem bow_sz (hk : kind < 6) : bowN kind = Int32.ofNat (szN kind) := by
  rcases (show kind = 0 ∨ kind = 1 ∨ kind = 2 ∨ kind = 3 ∨ kind = 4 ∨ kind = 5 by omega) with rfl | rfl | rfl | rfl | rfl | rfl <;> rfl
theorem szN_le : 1 ≤ szN kind ∧ szN kind ≤ 8 := by unfold szN; split <;> omega
theorem x_byteR (S1 : Sh1 h B pic) (hu : u ≤ 400) (eu : zI M (B 1) 1 = Int32.ofNat u) (ht : o < u) : f_X6_byteAt h (B 1) (Int32.ofNat o) M = some (zI M (B 2) o &&& 255) := by
  obtain ⟨o1, r1, o2, n2⟩ := S1.2.1.2.2.2.2.2.2.2.2.1
  have f1 : ¬ u ≤ o := by omega
  have f2 : ¬ 400 ≤ o := by omega
  have f3 : o < 400 := by omega
  unfold f_X6_byteAt
  simp (disch := omega) only [gd, ok, dq, o1, r1, o2, n2, and_self, if_true, eu, i_neg, if_false, i_le, f1, f2, i_inb, f3, i_nat]
theorem x_bits (S1 : Sh1 h B pic) (hu : u ≤ 400) (eu : zI M (B 1) 1 = Int32.ofNat u) {z : Nat} (hz : o + z ≤ u) : f_X6_bitsAt h (B 1) (Int32.ofNat o) (Int32.ofNat z) M = some ((accB (zI M (B 2)) o z <<< (((64 : Int32) - (8 : Int32) * Int32.ofNat z).toInt64 &&& 63)) >>> (((64 : Int32) - (8 : Int32) * Int32.ofNat z).toInt64 &&& 63)) := by
  have o1 := S1.2.1.2.2.2.2.2.2.2.2.1.1
  have K : wp (lp_X6_bitsAt_5 h (Int32.ofNat o) (Int32.ofNat z) (B 1) M fuel (0 : Int64) (0 : Int32)) (fun y => y.1 = accB (zI M (B 2)) o z) := by
    refine loopW (fun n k (s : Int64) => lp_X6_bitsAt_5 h (Int32.ofNat o) (Int32.ofNat z) (B 1) M n s (Int32.ofNat k)) z (fun k s => s = accB (zI M (B 2)) o k) _ ?_ ?_ fuel 0 0 (by omega) (by unfold fuel; omega) rfl
    · rintro n k _ hk rfl ih
      simp only [lp_X6_bitsAt_5]
      rw [if_neg (by rw [i_le (by omega) (by omega)]; omega), wp_gd]
      refine ⟨o1, ?_⟩
      rw [i_add, x_byteR S1 hu eu (by omega), b_some, wp_lt, wp_lt, i_addL]
      exact ih _ rfl
    · rintro n _ rfl
      simp only [lp_X6_bitsAt_5]
      rw [if_pos (Int32.le_refl _), wp_some]
  obtain ⟨y, hy, e⟩ := K
  unfold f_X6_bitsAt
  rw [hy, b_some, e]
  rfl
theorem r_bits (S : Sh2 h A) {z : Nat} (hz : o + z ≤ 400) : f_X9_bits h (A 0) (Int32.ofNat o) (Int32.ofNat z) M = some (accB (zI M (A 4)) o z) := by
  have s := S.s
  have K : wp (lp_X9_bits_5 h (Int32.ofNat o) (Int32.ofNat z) (A 0) M fuel (0 : Int64) (0 : Int32)) (fun y => y.1 = accB (zI M (A 4)) o z) := by
    refine loopW (fun n k (s : Int64) => lp_X9_bits_5 h (Int32.ofNat o) (Int32.ofNat z) (A 0) M n s (Int32.ofNat k)) z (fun k s => s = accB (zI M (A 4)) o k) _ ?_ ?_ fuel 0 0 (by omega) (by unfold fuel; omega) rfl
    · rintro n k _ hk rfl ih
      have f1 : o + k < 400 := by omega
      simp only [lp_X9_bits_5]
      rw [if_neg (by rw [i_le (by omega) (by omega)]; omega)]
      simp (disch := omega) only [gd, ok, dq, s, and_self, if_true, i_add, i_inb, f1, i_nat, lt_, i_addL]
      exact ih _ rfl
    · rintro n _ rfl
      simp only [lp_X9_bits_5]
      rw [if_pos (Int32.le_refl _), wp_some]
  obtain ⟨y, hy, e⟩ := K
  unfold f_X9_bits
  rw [hy, b_some, e]
theorem r_number (S : Sh2 h A) (hk : kind < 6) (ho : o + szN kind ≤ 400) : f_X9_number h (A 0) (Int32.ofNat o) (Int32.ofNat kind) M = some (numS kind (accB (zI M (A 4)) o (szN kind))) := by
  have s := S.s
  unfold f_X9_number
  rw [r_sizeOf hk, b_some, gd, if_pos s.1, r_bits S ho, b_some]
  generalize accB (zI M (A 4)) o (szN kind) = X
  rcases (show kind = 0 ∨ kind = 1 ∨ kind = 2 ∨ kind = 3 ∨ kind = 4 ∨ kind = 5 by omega) with rfl | rfl | rfl | rfl | rfl | rfl
  · rfl
  · rfl
  · rw [if_neg (by decide), if_neg (by decide), if_pos (by decide), r_reading]; rfl
  · rw [if_neg (by decide), if_neg (by decide), if_neg (by decide), if_pos (by decide), r_reading]; rfl
  · rw [if_neg (by decide), if_neg (by decide), if_neg (by decide), if_neg (by decide), if_pos (by decide), show (31 : Int32).toInt64 &&& 63 = 31 by decide, show (23 : Int32).toInt64 &&& 63 = 23 by decide]
    unfold numS
    by_cases z : (X >>> (31 : Int64)) &&& (1 : Int64) = 1
    · rw [if_neg (not_not_intro z), b_some, r_cut, b_some, show decide (¬ (1 : Int32) = 0) = decide ((X >>> (31 : Int64)) &&& (1 : Int64) = 1) by simp [z]]
      rfl
    · rw [if_pos z, b_some, r_cut, b_some, show decide (¬ (0 : Int32) = 0) = decide ((X >>> (31 : Int64)) &&& (1 : Int64) = 1) by simp [z]]
      rfl
  · rw [if_neg (by decide), if_neg (by decide), if_neg (by decide), if_neg (by decide), if_neg (by decide), show (52 : Int32).toInt64 &&& 63 = 52 by decide]
    unfold numS
    by_cases z : 0 ≤ X
    · rw [if_pos z, b_some, r_cut, b_some, show decide (¬ (0 : Int32) = 0) = decide (¬ 0 ≤ X) by simp [z]]
      rfl
    · rw [if_neg z, b_some, r_cut, b_some, show decide (¬ (1 : Int32) = 0) = decide (¬ 0 ≤ X) by simp [z]]
      rfl
theorem x_readingAt (S1 : Sh1 h B pic) (hu : u ≤ 400) (eu : zI M (B 1) 1 = Int32.ofNat u) (hk : kind < 6) (ho : o < 4000) : f_X6_readingAt h (B 1) (Int32.ofNat o) (Int32.ofNat (szN kind)) (Int32.ofNat kind) M = some (if o + szN kind ≤ u then numS kind (accB (zI M (B 2)) o (szN kind)) else 2000000) := by
  have o1 := S1.2.1.2.2.2.2.2.2.2.2.1.1
  have z8 := szN_le (kind := kind)
  unfold f_X6_readingAt
  rw [gd, if_pos o1, eu, i_add]
  by_cases g : o + szN kind ≤ u
  · rw [if_pos (by rw [i_le (by omega) (by omega)]; exact g), if_pos g, x_bits S1 hu eu g, b_some]
    generalize accB (zI M (B 2)) o (szN kind) = X
    rcases (show kind = 0 ∨ kind = 1 ∨ kind = 2 ∨ kind = 3 ∨ kind = 4 ∨ kind = 5 by omega) with rfl | rfl | rfl | rfl | rfl | rfl
    · rw [if_neg (by decide), if_neg (by decide), show ((64 : Int32) - (8 : Int32) * Int32.ofNat (szN 0)).toInt64 &&& 63 = 56 by decide, sx8, x_reading, b_some, readS_in (sz8 _), Int32.toInt32_toInt64]
      rfl
    · rw [if_neg (by decide), if_neg (by decide), show ((64 : Int32) - (8 : Int32) * Int32.ofNat (szN 1)).toInt64 &&& 63 = 48 by decide, sx16, x_reading, b_some, readS_in (sz16 _), Int32.toInt32_toInt64]
      rfl
    · rw [if_neg (by decide), if_neg (by decide), show ((64 : Int32) - (8 : Int32) * Int32.ofNat (szN 2)).toInt64 &&& 63 = 32 by decide, sx32, x_reading, b_some]
      rfl
    · rw [if_neg (by decide), if_neg (by decide), show ((64 : Int32) - (8 : Int32) * Int32.ofNat (szN 3)).toInt64 &&& 63 = 0 by decide, sx64, x_reading, b_some]
      rfl
    · rw [if_pos (by decide), show ((64 : Int32) - (8 : Int32) * Int32.ofNat (szN 4)).toInt64 &&& 63 = 32 by decide, sx32, x_cut4, b_some]
    · rw [if_neg (by decide), if_pos (by decide), show ((64 : Int32) - (8 : Int32) * Int32.ofNat (szN 5)).toInt64 &&& 63 = 0 by decide, sx64, x_cut5, b_some]
  · rw [if_neg (by rw [i_le (by omega) (by omega)]; exact g), if_neg g]
end N
