/-! how many bits of a long; its least bit -/
theorem and_split {P Q R m : Nat} (hR : R < 256) (hm : m < 256) : (256 * P + R) &&& (256 * Q + m) = 256 * (P &&& Q) + (R &&& m) := by
  have hRm : R &&& m < 256 := Nat.lt_of_le_of_lt Nat.and_le_left hR
  apply Nat.eq_of_testBit_eq
  intro i
  have e : ∀ a b, b < 256 → (256 * a + b).testBit i = if i < 8 then b.testBit i else a.testBit (i - 8) := fun a b hb => Nat.testBit_two_pow_mul_add (i := 8) a hb i
  rw [Nat.testBit_and, e _ _ hR, e _ _ hm, e _ _ hRm]
  split
  · rw [Nat.testBit_and]
  · rw [Nat.testBit_and]
def mk8 (m : Nat) : Nat → Nat
  | 0 => 0
  | j + 1 => 256 * mk8 m j + m
def q1 (j X : Nat) : Nat := X - ((X / 2) &&& mk8 85 j)
def q2 (j X : Nat) : Nat := (X &&& mk8 51 j) + ((X / 4) &&& mk8 51 j)
def q3 (j X : Nat) : Nat := (X + X / 16) &&& mk8 15 j
def pc8 (L : Nat) : Nat := cnt (fun i => L.testBit i) 8
def pcB : Nat → Nat → Nat
  | 0, _ => 0
  | j + 1, X => pc8 (X % 256) + 256 * pcB j (X / 256)
theorem by1 : ∀ b, b < 2 → ∀ L, L < 256 → (128 * b + L / 2) &&& 85 = (L / 2) &&& 85 ∧ (L / 2) &&& 85 ≤ L := by decide +kernel
theorem by2 : ∀ b, b < 4 → ∀ L, L < 256 → (64 * b + L / 4) &&& 51 = (L / 4) &&& 51 := by decide +kernel
theorem by3 : ∀ L, L < 256 → ((L - ((L / 2) &&& 85)) &&& 51) + (((L - ((L / 2) &&& 85)) / 4) &&& 51) < 256 ∧ (((L - ((L / 2) &&& 85)) &&& 51) + (((L - ((L / 2) &&& 85)) / 4) &&& 51)) % 16 ≤ 4 ∧ (((L - ((L / 2) &&& 85)) &&& 51) + (((L - ((L / 2) &&& 85)) / 4) &&& 51)) / 16 ≤ 4 ∧ (((L - ((L / 2) &&& 85)) &&& 51) + (((L - ((L / 2) &&& 85)) / 4) &&& 51)) % 16 + (((L - ((L / 2) &&& 85)) &&& 51) + (((L - ((L / 2) &&& 85)) / 4) &&& 51)) / 16 = pc8 L := by decide +kernel
theorem by4 : ∀ R, R < 256 → R &&& 15 = R % 16 := by decide +kernel
theorem q1_s {j H L : Nat} (hL : L < 256) : q1 (j + 1) (256 * H + L) = 256 * q1 j H + (L - ((L / 2) &&& 85)) := by
  obtain ⟨h1, h2⟩ := by1 (H % 2) (by omega) L hL
  unfold q1
  have e : (256 * H + L) / 2 = 256 * (H / 2) + (128 * (H % 2) + L / 2) := by omega
  rw [e]
  show _ - (_ &&& (256 * mk8 85 j + 85)) = _
  rw [and_split (by omega) (by omega), h1]
  have : (H / 2) &&& mk8 85 j ≤ H / 2 := Nat.and_le_left
  omega
theorem q2_s {j H L : Nat} (hL : L < 256) : q2 (j + 1) (256 * H + L) = 256 * q2 j H + ((L &&& 51) + ((L / 4) &&& 51)) := by
  have h1 := by2 (H % 4) (by omega) L hL
  unfold q2
  have e : (256 * H + L) / 4 = 256 * (H / 4) + (64 * (H % 4) + L / 4) := by omega
  rw [e]
  show (_ &&& (256 * mk8 51 j + 51)) + (_ &&& (256 * mk8 51 j + 51)) = _
  rw [and_split hL (by omega), and_split (by omega) (by omega), h1]
  omega
theorem q3_s {j H L : Nat} (hL : L < 256) (h1 : L % 16 ≤ 4) (h2 : L / 16 ≤ 4) (h3 : H % 16 ≤ 4) : q3 (j + 1) (256 * H + L) = 256 * q3 j H + (L % 16 + L / 16) := by
  unfold q3
  have e : 256 * H + L + (256 * H + L) / 16 = 256 * (H + H / 16) + (L + 16 * (H % 16) + L / 16) := by omega
  rw [e]
  show _ &&& (256 * mk8 15 j + 15) = _
  rw [and_split (by omega) (by omega), by4 _ (by omega)]
  omega
theorem q_all : ∀ (j X : Nat), X < 256 ^ j → q3 j (q2 j (q1 j X)) = pcB j X ∧ q2 j (q1 j X) % 16 ≤ 4 := by
  intro j
  induction j with
  | zero =>
    intro X hX
    have : X = 0 := by
      have : X < 1 := hX
      omega
    subst this
    decide
  | succ j ih =>
    intro X hX
    have hX2 : X / 256 < 256 ^ j := by
      apply Nat.div_lt_of_lt_mul
      rw [Nat.mul_comm]; exact hX
    obtain ⟨i1, i2⟩ := ih _ hX2
    have hL : X % 256 < 256 := Nat.mod_lt _ (by omega)
    obtain ⟨b1, b2, b3, b4⟩ := by3 _ hL
    have eX : X = 256 * (X / 256) + X % 256 := by omega
    have e1 := q1_s (j := j) (H := X / 256) hL
    rw [← eX] at e1
    rw [e1, q2_s (by omega)]
    refine ⟨?_, by omega⟩
    rw [q3_s b1 b2 b3 i2, i1, b4]
    show _ = pc8 (X % 256) + 256 * pcB j (X / 256)
    omega
theorem cnt_add (P : Nat → Bool) (a b : Nat) : cnt P (a + b) = cnt P a + cnt (fun i => P (a + i)) b := by
  induction b with
  | zero => rfl
  | succ b ih =>
    have h1 : cnt P (a + (b + 1)) = cnt P (a + b) + if P (a + b) = true then 1 else 0 := rfl
    have h2 : cnt (fun i => P (a + i)) (b + 1) = cnt (fun i => P (a + i)) b + if P (a + b) = true then 1 else 0 := rfl
    rw [h1, h2, ih]; omega
def sm8 : Nat → Nat → Nat
  | 0, _ => 0
  | j + 1, X => pc8 (X % 256) + sm8 j (X / 256)
theorem sm8_cnt : ∀ (j X : Nat), sm8 j X = cnt (fun i => X.testBit i) (8 * j) := by
  intro j
  induction j with
  | zero => intro X; rfl
  | succ j ih =>
    intro X
    show pc8 (X % 256) + sm8 j (X / 256) = _
    rw [ih, show 8 * (j + 1) = 8 + 8 * j by omega, cnt_add]
    congr 1
    · exact cnt_congr fun i hi => by
        rw [show (256 : Nat) = 2 ^ 8 from rfl, Nat.testBit_mod_two_pow]
        simp [hi]
    · exact cnt_congr fun i hi => by
        rw [show (256 : Nat) = 2 ^ 8 from rfl, Nat.testBit_div_two_pow, Nat.add_comm]
theorem pc8_le (L : Nat) : pc8 L ≤ 8 := cnt_le _ _
theorem pcB_s (j X : Nat) : pcB (j + 1) X = pc8 (X % 256) + 256 * pcB j (X / 256) := rfl
theorem sm8_s (j X : Nat) : sm8 (j + 1) X = pc8 (X % 256) + sm8 j (X / 256) := rfl
theorem pc_dv {a b p A : Nat} (hp : p < a) (h : b = p + a * A) : b / a = A := by
  rw [h, Nat.add_mul_div_left _ _ (by omega), Nat.div_eq_of_lt hp, Nat.zero_add]
theorem pc_st {p A q B k K : Nat} (h : A = p + 256 * q) (hp : p ≤ 8) (hq : q < k) (hK : K = 256 * k) (hB : B = A) : B < K := by omega
theorem pc_ar {p0 p1 p2 p3 p4 p5 p6 p7 W W1 W2 W3 A1 A2 A3 A4 A5 A6 : Nat} (h0 : p0 ≤ 8) (h1 : p1 ≤ 8) (h2 : p2 ≤ 8) (h3 : p3 ≤ 8) (h4 : p4 ≤ 8) (h5 : p5 ≤ 8) (h6 : p6 ≤ 8) (h7 : p7 ≤ 8)
    (eW : W = p0 + 256 * A1) (a1 : A1 = p1 + 256 * A2) (a2 : A2 = p2 + 256 * A3) (a3 : A3 = p3 + 256 * A4) (a4 : A4 = p4 + 256 * A5) (a5 : A5 = p5 + 256 * A6) (a6 : A6 = p6 + 256 * p7) (e1 : W1 = W + W / 256) (e2 : W2 = W1 + W1 / 65536) (e3 : W3 = W2 + W2 / 4294967296) : W3 < 18446744073709551616 ∧ W3 % 128 = p0 + (p1 + (p2 + (p3 + (p4 + (p5 + (p6 + (p7 + 0))))))) := by
  have b6 := pc_st a6 h6 (show p7 < 16 by omega) rfl rfl
  have b5 := pc_st a5 h5 b6 rfl rfl
  have b4 := pc_st a4 h4 b5 rfl rfl
  have b3 := pc_st a3 h3 b4 rfl rfl
  have b2 := pc_st a2 h2 b3 rfl rfl
  have b1 := pc_st a1 h1 b2 rfl rfl
  have b0 := pc_st eW h0 b1 rfl rfl
  have hW1 : W1 ≤ 2 * W := by
    have := Nat.div_le_self W 256
    omega
  have hW2 : W2 ≤ 2 * W1 := by
    have := Nat.div_le_self W1 65536
    omega
  have hW3 : W3 ≤ 2 * W2 := by
    have := Nat.div_le_self W2 4294967296
    omega
  refine ⟨by clear e1 e2 e3 eW a1 a2 a3 a4 a5 a6; omega, ?_⟩
  clear b0 b1 b2 b3 b4 b5 b6 hW1 hW2 hW3
  have d1 : W / 256 = A1 := pc_dv (by omega) eW
  rw [d1] at e1
  have s1 : W1 = (p0 + p1) + 256 * (A1 + A2) := by rw [e1, eW, Nat.mul_add]; clear d1 e1 e2 e3 a2 a3 a4 a5 a6; omega
  have s2 : A1 + A2 = (p1 + p2) + 256 * (A2 + A3) := by clear d1 e1 e2 e3 a3 a4 a5 a6 s1 eW; omega
  have s3 : A2 + A3 = (p2 + p3) + 256 * (A3 + A4) := by clear d1 e1 e2 e3 a1 a4 a5 a6 s1 s2 eW; omega
  have s4 : A3 + A4 = (p3 + p4) + 256 * (A4 + A5) := by clear d1 e1 e2 e3 a1 a2 a5 a6 s1 s2 s3 eW; omega
  have s5 : A4 + A5 = (p4 + p5) + 256 * (A5 + A6) := by clear d1 e1 e2 e3 a1 a2 a3 a6 s1 s2 s3 s4 eW; omega
  have s6 : A5 + A6 = (p5 + p6) + 256 * (A6 + p7) := by clear d1 e1 e2 e3 a1 a2 a3 a4 s1 s2 s3 s4 s5 eW; omega
  have s7 : A6 + p7 = (p6 + p7) + 256 * p7 := by clear d1 e1 e2 e3 a1 a2 a3 a4 a5 s1 s2 s3 s4 s5 s6 eW; omega
  clear d1 e1 eW a1 a2 a3 a4 a5 a6
  generalize A1 + A2 = S1 at *
  generalize A2 + A3 = S2 at *
  generalize A3 + A4 = S3 at *
  generalize A4 + A5 = S4 at *
  generalize A5 + A6 = S5 at *
  generalize A6 + p7 = S6 at *
  have d2 : W1 / 65536 = S2 := by
    refine pc_dv (p := (p0 + p1) + 256 * (p1 + p2)) (by omega) ?_
    rw [s1, s2]; omega
  rw [d2] at e2
  have t0 : W2 = (p0 + p1 + p2 + p3) + 256 * (S1 + S3) := by rw [e2, s1]; clear s2 s4 s5 s6 s7 d2 e2 e3 s1; omega
  have t1 : S1 + S3 = (p1 + p2 + p3 + p4) + 256 * (S2 + S4) := by clear s1 s3 s5 s6 s7 d2 e2 e3 t0; omega
  have t2 : S2 + S4 = (p2 + p3 + p4 + p5) + 256 * (S3 + S5) := by clear s1 s2 s4 s6 s7 d2 e2 e3 t0 t1; omega
  have t3 : S3 + S5 = (p3 + p4 + p5 + p6) + 256 * (S4 + S6) := by clear s1 s2 s3 s5 s7 d2 e2 e3 t0 t1 t2; omega
  have t4 : S4 + S6 = (p4 + p5 + p6 + p7) + 256 * (S5 + p7) := by clear s1 s2 s3 s4 s6 d2 e2 e3 t0 t1 t2 t3; omega
  clear s1 s2 s3 s4 s5 s6 s7 d2 e2
  generalize S1 + S3 = T1 at *
  generalize S2 + S4 = T2 at *
  generalize S3 + S5 = T3 at *
  generalize S4 + S6 = T4 at *
  have d3 : W2 / 4294967296 = T4 := by
    refine pc_dv (p := (p0 + p1 + p2 + p3) + 256 * ((p1 + p2 + p3 + p4) + 256 * ((p2 + p3 + p4 + p5) + 256 * (p3 + p4 + p5 + p6)))) (by omega) ?_
    rw [t0, t1, t2, t3]; omega
  rw [d3] at e3
  rw [e3, t0]
  generalize S5 + p7 = U at *
  clear t0 t1 t2 t3 d3 e3
  omega
theorem pc_sum (X : Nat) : pcB 8 X + pcB 8 X / 256 + (pcB 8 X + pcB 8 X / 256) / 65536 + (pcB 8 X + pcB 8 X / 256 + (pcB 8 X + pcB 8 X / 256) / 65536) / 4294967296 < 2 ^ 64 ∧ (pcB 8 X + pcB 8 X / 256 + (pcB 8 X + pcB 8 X / 256) / 65536 + (pcB 8 X + pcB 8 X / 256 + (pcB 8 X + pcB 8 X / 256) / 65536) / 4294967296) % 128 = sm8 8 X := by
  have eW : pcB 8 X = _ := pcB_s 7 X
  rw [pcB_s 6, pcB_s 5, pcB_s 4, pcB_s 3, pcB_s 2, pcB_s 1, pcB_s 0] at eW
  have eS : sm8 8 X = _ := sm8_s 7 X
  rw [sm8_s 6, sm8_s 5, sm8_s 4, sm8_s 3, sm8_s 2, sm8_s 1, sm8_s 0] at eS
  have e0 : ∀ Y, pcB 0 Y = 0 := fun _ => rfl
  have e0' : ∀ Y, sm8 0 Y = 0 := fun _ => rfl
  rw [e0, Nat.mul_zero, Nat.add_zero] at eW
  rw [e0'] at eS
  rw [eS]
  generalize pcB 8 X = W at eW ⊢
  exact pc_ar (pc8_le _) (pc8_le _) (pc8_le _) (pc8_le _) (pc8_le _) (pc8_le _) (pc8_le _) (pc8_le _) eW rfl rfl rfl rfl rfl rfl rfl rfl rfl
/-- a long as a number -/
def nL (x : Int64) : Nat := x.toBitVec.toNat
theorem nL_lt (x : Int64) : nL x < 2 ^ 64 := x.toBitVec.isLt
theorem nL_bit (x : Int64) (s : Nat) : (nL x).testBit s = bl x s := rfl
theorem nL_and (x y : Int64) : nL (x &&& y) = nL x &&& nL y := by unfold nL; rw [Int64.toBitVec_and, BitVec.toNat_and]
theorem nL_add (x y : Int64) : nL (x + y) = (nL x + nL y) % 2 ^ 64 := by unfold nL; rw [Int64.toBitVec_add, BitVec.toNat_add]
theorem nL_sub (x y : Int64) : nL (x - y) = (2 ^ 64 - nL y + nL x) % 2 ^ 64 := by unfold nL; rw [Int64.toBitVec_sub, BitVec.toNat_sub]
def uL (x : Int64) (n : Int32) : Int64 := ((Int64.toUInt64 x) >>> (Int64.toUInt64 (Int32.toInt64 n) &&& Int64.toUInt64 63)).toInt64
theorem nL_u (x : Int64) {n : Nat} (hn : n < 64) : nL (uL x (nI n)) = nL x / 2 ^ n := by
  unfold nL uL
  have h1 : ((x.toUInt64 >>> ((nI n).toInt64.toUInt64 &&& Int64.toUInt64 63)).toInt64).toBitVec = (x.toUInt64 >>> ((nI n).toInt64.toUInt64 &&& Int64.toUInt64 63)).toBitVec := rfl
  rw [h1, UInt64.toBitVec_shiftRight, BitVec.ushiftRight_eq', bk_u n hn, BitVec.toNat_ushiftRight, Nat.shiftRight_eq_div_pow]
  rfl
def e1L (x : Int64) : Int64 := x - (uL x 1 &&& 6148914691236517205)
def e2L (x : Int64) : Int64 := (x &&& 3689348814741910323) + (uL x 2 &&& 3689348814741910323)
def e3L (x : Int64) : Int64 := (x + uL x 4) &&& 1085102592571150095
def e4L (x : Int64) : Int64 := x + uL x 8
def e5L (x : Int64) : Int64 := x + uL x 16
def e6L (x : Int64) : Int64 := x + uL x 32
def bcL (x : Int64) : Int32 := Int64.toInt32 (e6L (e5L (e4L (e3L (e2L (e1L x)))))) &&& 127
/-- how many are in -/
def pop (x : Int64) : Nat := cnt (bl x) 64
theorem bcL_pop (x : Int64) : bcL x = nI (pop x) := by
  have hx := nL_lt x
  have m1 : nL 6148914691236517205 = mk8 85 8 := by decide +kernel
  have m2 : nL 3689348814741910323 = mk8 51 8 := by decide +kernel
  have m3 : nL 1085102592571150095 = mk8 15 8 := by decide +kernel
  have a1 : nL (e1L x) = q1 8 (nL x) := by
    unfold e1L q1
    rw [nL_sub, nL_and, show uL x 1 = uL x (nI 1) from rfl, nL_u x (by omega), m1, Nat.pow_one]
    have : nL x / 2 &&& mk8 85 8 ≤ nL x / 2 := Nat.and_le_left
    omega
  have b51 : ∀ y, y &&& mk8 51 8 ≤ mk8 51 8 := fun y => Nat.and_le_right
  have v51 : mk8 51 8 = 3689348814741910323 := by decide +kernel
  have v15 : mk8 15 8 = 1085102592571150095 := by decide +kernel
  have a2 : nL (e2L (e1L x)) = q2 8 (q1 8 (nL x)) := by
    unfold e2L q2
    rw [nL_add, nL_and, nL_and, show uL (e1L x) 2 = uL (e1L x) (nI 2) from rfl, nL_u _ (by omega), m2, a1]
    have h1 := b51 (q1 8 (nL x))
    have h2 := b51 (q1 8 (nL x) / 4)
    rw [show (2 : Nat) ^ 2 = 4 from rfl, v51] at *
    omega
  have hq : q2 8 (q1 8 (nL x)) ≤ 2 * mk8 51 8 := by
    unfold q2
    have h1 := b51 (q1 8 (nL x))
    have h2 := b51 (q1 8 (nL x) / 4)
    omega
  rw [v51] at hq
  have a3 : nL (e3L (e2L (e1L x))) = pcB 8 (nL x) := by
    rw [← (q_all 8 (nL x) hx).1]
    unfold e3L
    rw [nL_and, nL_add, show uL (e2L (e1L x)) 4 = uL (e2L (e1L x)) (nI 4) from rfl, nL_u _ (by omega), m3, a2]
    unfold q3
    rw [Nat.mod_eq_of_lt (by omega)]
  obtain ⟨p1, p2⟩ := pc_sum (nL x)
  generalize pcB 8 (nL x) = W at *
  have a4 : nL (e4L (e3L (e2L (e1L x)))) = W + W / 256 := by
    unfold e4L
    rw [nL_add, show uL (e3L (e2L (e1L x))) 8 = uL (e3L (e2L (e1L x))) (nI 8) from rfl, nL_u _ (by omega), a3]
    exact Nat.mod_eq_of_lt (by omega)
  generalize W + W / 256 = W1 at *
  have a5 : nL (e5L (e4L (e3L (e2L (e1L x))))) = W1 + W1 / 65536 := by
    unfold e5L
    rw [nL_add, show uL (e4L (e3L (e2L (e1L x)))) 16 = uL (e4L (e3L (e2L (e1L x)))) (nI 16) from rfl, nL_u _ (by omega), a4]
    exact Nat.mod_eq_of_lt (by omega)
  generalize W1 + W1 / 65536 = W2 at *
  have a6 : nL (e6L (e5L (e4L (e3L (e2L (e1L x)))))) = W2 + W2 / 4294967296 := by
    unfold e6L
    rw [nL_add, show uL (e5L (e4L (e3L (e2L (e1L x))))) 32 = uL (e5L (e4L (e3L (e2L (e1L x))))) (nI 32) from rfl, nL_u _ (by omega), a5]
    exact Nat.mod_eq_of_lt p1
  unfold bcL
  generalize e6L (e5L (e4L (e3L (e2L (e1L x))))) = y at *
  have hpop : sm8 8 (nL x) = pop x := sm8_cnt 8 (nL x)
  rw [← hpop, ← p2, ← a6]
  apply Int32.toBitVec_inj.mp
  apply BitVec.eq_of_toNat_eq
  rw [Int32.toBitVec_and, BitVec.toNat_and, Int64.toBitVec_toInt32, BitVec.signExtend_eq_setWidth_of_le _ (by omega), BitVec.toNat_setWidth]
  have e1 : (127 : Int32).toBitVec.toNat = 2 ^ 7 - 1 := rfl
  rw [e1, Nat.and_two_pow_sub_one_eq_mod]
  have e2 : (nI (nL y % 128)).toBitVec.toNat = nL y % 128 % 2 ^ 32 := rfl
  rw [e2]
  show nL y % 2 ^ 32 % 2 ^ 7 = _
  omega
theorem pop_le (x : Int64) : pop x ≤ 64 := cnt_le _ _
theorem cnt_below (j : Nat) : ∀ n, cnt (fun s => decide (s < j)) n = min n j := by
  intro n
  induction n with
  | zero => exact (Nat.zero_min j).symm
  | succ n ih =>
    unfold cnt
    rw [ih]
    by_cases h : n < j
    · rw [if_pos (decide_eq_true h), Nat.min_eq_left (by omega), Nat.min_eq_left (by omega)]
    · rw [if_neg (by rw [decide_eq_false h]; decide), Nat.min_eq_right (by omega), Nat.min_eq_right (by omega), Nat.add_zero]
theorem lw_all (j : Nat) (hj : j < 64) : (∀ s, s < 64 → bl (((1 : Int64) <<< ((nI j).toInt64 &&& 63)) - 1) s = decide (s < j)) ∧ cnt (fun s => decide (s < j)) 64 = j := by
  refine ⟨fun s hs => ?_, by rw [cnt_below]; omega⟩
  have h1 : nL ((1 : Int64) <<< ((nI j).toInt64 &&& 63)) = 2 ^ j := by
    apply Nat.eq_of_testBit_eq
    intro i
    rw [nL_bit]
    by_cases hi : i < 64
    · rw [bl_only hj hi, Nat.testBit_two_pow]
      by_cases q : i = j
      · subst q; simp
      · rw [decide_eq_false q, decide_eq_false (fun e => q e.symm)]
    · rw [bl_big (by omega), Nat.testBit_two_pow, decide_eq_false (by omega)]
  have h2 : nL (((1 : Int64) <<< ((nI j).toInt64 &&& 63)) - 1) = 2 ^ j - 1 := by
    rw [nL_sub, h1]
    have e1 : nL 1 = 1 := rfl
    have e2 : 2 ^ j < 2 ^ 64 := Nat.pow_lt_pow_right (by omega) hj
    have e3 : 1 ≤ 2 ^ j := Nat.one_le_two_pow
    rw [e1]
    omega
  rw [← nL_bit, h2, Nat.testBit_two_pow_sub_one]
theorem bl_least {x : Int64} {j : Nat} (hj : j < 64) (h1 : bl x j = true) (h2 : ∀ i, i < j → bl x i = false) : (x &&& -x) - 1 = ((1 : Int64) <<< ((nI j).toInt64 &&& 63)) - 1 := by
  congr 1
  refine bl_ext fun s hs => ?_
  rw [bl_only hj hs, bl_and]
  have e : bl (-x) s = (bl x s ^^ decide (∃ i, i < s ∧ bl x i = true)) := by
    unfold bl
    rw [Int64.toBitVec_neg, BitVec.getLsbD_neg]
    simp only [hs, decide_true, Bool.true_and]
  rw [e]
  rcases Nat.lt_trichotomy s j with q | q | q
  · have q2 : ¬ s = j := by omega
    simp [h2 s q, q2]
  · subst q
    have q2 : ¬ ∃ i, i < s ∧ bl x i = true := by
      rintro ⟨i, g1, g2⟩
      rw [h2 i g1] at g2; cases g2
    simp [h1, q2]
  · have q2 : ∃ i, i < s ∧ bl x i = true := ⟨j, q, h1⟩
    have q3 : ¬ s = j := by omega
    cases bl x s <;> simp [q2, q3]
/-- the least of a set that is not empty -/
theorem bl_min {x : Int64} (h : ¬ x = 0) : ∃ j, j < 64 ∧ bl x j = true ∧ ∀ i, i < j → bl x i = false := by
  obtain ⟨s, hs, h1⟩ := bl_ne.mp h
  have key : ∀ n, n ≤ 64 → (∀ i, i < n → bl x i = false) ∨ ∃ j, j < n ∧ bl x j = true ∧ ∀ i, i < j → bl x i = false := by
    intro n
    induction n with
    | zero => intro _; exact Or.inl fun i hi => by omega
    | succ n ih =>
      intro hn
      rcases ih (by omega) with g | ⟨j, g1, g2, g3⟩
      · cases e : bl x n with
        | true => exact Or.inr ⟨n, by omega, e, g⟩
        | false =>
          refine Or.inl fun i hi => ?_
          by_cases q : i = n
          · subst q; exact e
          · exact g i (by omega)
      · exact Or.inr ⟨j, by omega, g2, g3⟩
  rcases key 64 (Nat.le_refl _) with g | ⟨j, g1, g2, g3⟩
  · rw [g s hs] at h1; cases h1
  · exact ⟨j, g1, g2, g3⟩
section POP
variable {l : Launch} {d : Nat} {kd : pm_K} {mr : pm_R} {mi : pm_I} {ml : pm_L}
theorem s_popX {x : Int64} {K : Int32 → pm_I → pm_L → Prop} (k9 : K (nI (pop x)) mi ml) : wI l M_J13_bitCount_95d88 d [.long x] kd mr mi ml K := by
  refine w_J13_bitCount_95d88 ?_
  have e := bcL_pop x
  rw [← e] at k9
  exact k9
theorem s_leastOf {x : Int64} {K : Int32 → pm_I → pm_L → Prop} (k0 : x = 0 → K (-1) mi ml) (k1 : ∀ j, j < 64 → bl x j = true → (∀ i, i < j → bl x i = false) → K (nI j) mi ml) : wI l M_X11_leastOf (d + 1) [.long x] kd mr mi ml K := by
  refine w_X11_leastOf ⟨fun h => ?_, fun h => ?_⟩
  · rw [lg_0] at h
    obtain ⟨j, g1, g2, g3⟩ := bl_min h
    rw [bl_least g1 g2 g3]
    refine s_popX ?_
    have e : pop (((1 : Int64) <<< ((nI j).toInt64 &&& 63)) - 1) = j := by
      unfold pop
      rw [cnt_congr (lw_all j g1).1]
      exact (lw_all j g1).2
    rw [e]; exact k1 j g1 g2 g3
  · rw [lg_0] at h
    exact k0 h
end POP
