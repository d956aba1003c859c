/-! numbers: every int that is no sign of absence is nI of a natural number -/
theorem z_lit (n : Nat) : (no_index (OfNat.ofNat n : Int32)) = nI (OfNat.ofNat n) := rfl
theorem z_sub {a b : Nat} (h : b ≤ a) : nI a - nI b = nI (a - b) := (Int32.ofNat_sub a b h).symm
theorem z_mul (a b : Nat) : nI a * nI b = nI (a * b) := (Int32.ofNat_mul a b).symm
theorem z_div {a b : Nat} (ha : a < 2147483648) (hb : b < 2147483648) : nI a / nI b = nI (a / b) := (Int32.ofNat_div ha hb).symm
theorem z_rem {a b : Nat} (ha : a < 2147483648) (hb : b < 2147483648) : nI a - nI a / nI b * nI b = nI (a % b) := by
  rw [z_div ha hb, z_mul, z_sub (Nat.div_mul_le_self a b)]
  congr 1
  have := Nat.div_add_mod a b
  rw [Nat.mul_comm] at this
  omega
theorem z_lt {a b : Nat} (ha : a < 2147483648) (hb : b < 2147483648) : (nI a < nI b) = (a < b) := propext (nI_ltI ha hb)
theorem z_le {a b : Nat} (ha : a < 2147483648) (hb : b < 2147483648) : (nI a ≤ nI b) = (a ≤ b) := propext (nI_leI ha hb)
theorem z_eq {a b : Nat} (ha : a < 2147483648) (hb : b < 2147483648) : (nI a = nI b) = (a = b) := propext (nI_eq ha hb)
theorem z_cl {a : Nat} (ha : a < 2147483648) : (nI a).toNatClampNeg = a := nI_clamp ha
theorem z_toInt {a : Nat} (ha : a < 2147483648) : (nI a).toInt = (a : Int) := nI_toInt ha
theorem z_in {a n : Nat} (h : a < n) (hn : n < 2147483648) : vp_in (nI a) n := nI_in h hn
theorem z_m1 {a : Nat} (ha : a < 2147483648) : (nI a = -nI 1) = False := by
  apply propext
  refine ⟨fun z => ?_, fun z => z.elim⟩
  have := congrArg Int32.toInt z
  rw [z_toInt ha] at this
  have e : (-nI 1).toInt = -1 := by decide
  omega
theorem z_m2 {a : Nat} (ha : a < 2147483648) : (nI a = -nI 2) = False := by
  apply propext
  refine ⟨fun z => ?_, fun z => z.elim⟩
  have := congrArg Int32.toInt z
  rw [z_toInt ha] at this
  have e : (-nI 2).toInt = -2 := by decide
  omega
theorem z_cases (x : Int32) : x < 0 ∨ ∃ n : Nat, n < 2147483648 ∧ x = nI n := by
  by_cases h : x < 0
  · exact Or.inl h
  · obtain ⟨j, h1, h2⟩ := nI_of h
    exact Or.inr ⟨j, h1, h2⟩
theorem z_nn {a : Nat} (ha : a < 2147483648) : (nI a < 0) = False := by
  apply propext
  exact ⟨fun z => nI_pos ha z, fun z => z.elim⟩
theorem z_ltm {x : Int32} (h : x < 0) {a : Nat} (ha : a < 2147483648) : x < nI a := by
  rw [Int32.lt_iff_toInt_lt] at h ⊢
  rw [z_toInt ha]
  have e : (0 : Int32).toInt = 0 := by decide
  omega
theorem z_has : ∀ m, m < 256 → ∀ i, i < 8 → ((((nI m >>> (nI i &&& nI 31)) &&& nI 1) = nI 1) ↔ m.testBit i = true) := by decide +kernel
theorem z_shl : ∀ i, i < 9 → (nI 1 <<< (nI i &&& nI 31)) = nI (2 ^ i) := by decide +kernel
theorem z_or (a b : Nat) : nI a ||| nI b = nI (a ||| b) := Int32.toBitVec.inj (by simp [nI])
theorem z_and (a b : Nat) : nI a &&& nI b = nI (a &&& b) := Int32.toBitVec.inj (by simp [nI])
theorem z_xor (a b : Nat) : nI a ^^^ nI b = nI (a ^^^ b) := Int32.toBitVec.inj (by simp [nI])
