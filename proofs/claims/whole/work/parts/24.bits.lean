/-! sets of spots: the bits of a long -/
def bl (x : Int64) (s : Nat) : Bool := x.toBitVec.getLsbD s
theorem bl_ext {x y : Int64} (h : ∀ s, s < 64 → bl x s = bl y s) : x = y := Int64.toBitVec_inj.mp (BitVec.eq_of_getLsbD_eq fun i hi => h i hi)
theorem bl_or (x y : Int64) (s : Nat) : bl (x ||| y) s = (bl x s || bl y s) := by unfold bl; rw [Int64.toBitVec_or, BitVec.getLsbD_or]
theorem bl_and (x y : Int64) (s : Nat) : bl (x &&& y) s = (bl x s && bl y s) := by unfold bl; rw [Int64.toBitVec_and, BitVec.getLsbD_and]
theorem bl_xor (x y : Int64) (s : Nat) : bl (x ^^^ y) s = (bl x s ^^ bl y s) := by unfold bl; rw [Int64.toBitVec_xor, BitVec.getLsbD_xor]
theorem bl_big {x : Int64} {s : Nat} (h : 64 ≤ s) : bl x s = false := BitVec.getLsbD_of_ge _ _ h
theorem bl_0 (s : Nat) : bl 0 s = false := BitVec.getLsbD_zero
theorem bl_m1 : ∀ s, s < 64 → bl (-1) s = true := by decide +kernel
theorem bl_not (x y : Int64) (s : Nat) : bl (x &&& (y ^^^ (-1))) s = (bl x s && !bl y s) := by
  rw [bl_and, bl_xor]
  by_cases h : s < 64
  · rw [bl_m1 s h]; cases bl y s <;> simp
  · rw [bl_big (x := x) (by omega)]; simp
theorem bk_l : ∀ n, n < 64 → (((nI n).toInt64 &&& 63).toBitVec.smod 64).toNat = n := by decide +kernel
theorem bk_u : ∀ n, n < 64 → (((nI n).toInt64.toUInt64 &&& Int64.toUInt64 63).toBitVec % 64).toNat = n := by decide +kernel
theorem bl_shl {n : Nat} (hn : n < 64) (x : Int64) {s : Nat} (hs : s < 64) : bl (x <<< ((nI n).toInt64 &&& 63)) s = (decide (n ≤ s) && bl x (s - n)) := by
  unfold bl
  rw [Int64.toBitVec_shiftLeft, BitVec.shiftLeft_eq', bk_l n hn, BitVec.getLsbD_shiftLeft]
  by_cases h : n ≤ s
  · simp [h, hs, Nat.not_lt.mpr h]
  · simp [h, Nat.lt_of_not_le h]
theorem bl_ushr {n : Nat} (hn : n < 64) (x : Int64) (s : Nat) : bl ((x.toUInt64 >>> ((nI n).toInt64.toUInt64 &&& Int64.toUInt64 63)).toInt64) s = bl x (n + s) := by
  unfold bl
  have e : ((x.toUInt64 >>> ((nI n).toInt64.toUInt64 &&& Int64.toUInt64 63)).toInt64).toBitVec = x.toBitVec >>> n := by
    have h1 : ((x.toUInt64 >>> ((nI n).toInt64.toUInt64 &&& Int64.toUInt64 63)).toInt64).toBitVec = (x.toUInt64 >>> ((nI n).toInt64.toUInt64 &&& Int64.toUInt64 63)).toBitVec := rfl
    rw [h1, UInt64.toBitVec_shiftRight, BitVec.ushiftRight_eq', bk_u n hn]
    rfl
  rw [e, BitVec.getLsbD_ushiftRight]
theorem bl_only {n : Nat} (hn : n < 64) {s : Nat} (hs : s < 64) : bl ((1 : Int64) <<< ((nI n).toInt64 &&& 63)) s = decide (s = n) := by
  rw [bl_shl hn 1 hs]
  have h1 : ∀ j, j < 64 → bl 1 j = decide (j = 0) := by decide +kernel
  by_cases h : n ≤ s
  · rw [h1 _ (by omega)]; simp [h]; omega
  · simp [h]; omega
theorem lg_0 (x : Int64) : (lg_cmp x 0 = 0) = (x = 0) := by
  apply propext
  unfold lg_cmp
  constructor
  · intro h
    split at h
    · cases h
    · split at h
      · assumption
      · cases h
  · intro h; subst h; decide
theorem bl_ne {x : Int64} : ¬ x = 0 ↔ ∃ s, s < 64 ∧ bl x s = true := by
  constructor
  · intro h
    refine Classical.byContradiction fun z => h (bl_ext fun s hs => ?_)
    rw [bl_0]
    cases e : bl x s with
    | false => rfl
    | true => exact absurd ⟨s, hs, e⟩ z
  · rintro ⟨s, _, h⟩ rfl
    rw [bl_0] at h; cases h
section BITS
variable {l : Launch} {d h : Nat} {kd : pm_K} {mr : pm_R} {mi : pm_I} {ml : pm_L}
theorem s_only {n : Nat} {x : Int32} {K : Int64 → pm_I → pm_L → Prop} (hx : x = nI n) (hn : n < 64) (k9 : ∀ y, (∀ s, s < 64 → bl y s = decide (s = n)) → K y mi ml) : wL l M_X11_only d [.int x] kd mr mi ml K := by
  subst hx
  exact w_X11_only (k9 _ fun s hs => bl_only hn hs)
/-- is it in -/
theorem s_hasX {x : Int64} {n : Nat} {y : Int32} {K : Bool → pm_I → pm_L → Prop} (hy : y = nI n) (hn : n < 64) (k9 : K (bl x n) mi ml) : wB l M_X11_has (d + 1) [.long x, .int y] kd mr mi ml K := by
  subst hy
  refine w_X11_has ⟨fun z => absurd z (nI_pos (by omega)), fun _ => ⟨fun z => absurd z (nI_ge (b := 64) (by omega) (by omega)), fun _ => s_only rfl hn (fun y hy => ?_)⟩⟩
  have e : (!decide (lg_cmp (x &&& y) 0 = 0)) = bl x n := by
    simp only [lg_0]
    cases e2 : bl x n with
    | true =>
      have : ¬ (x &&& y) = 0 := bl_ne.mpr ⟨n, hn, by rw [bl_and, e2, hy n hn]; simp⟩
      simp [this]
    | false =>
      have : (x &&& y) = 0 := bl_ext fun s hs => by
        rw [bl_and, hy s hs, bl_0]
        by_cases q : s = n
        · subst q; rw [e2]; rfl
        · simp [q]
      simp [this]
  rw [e]; exact k9
theorem s_hasN {x : Int64} {y : Int32} {K : Bool → pm_I → pm_L → Prop} (hy : y = -1) (k9 : K false mi ml) : wB l M_X11_has (d + 1) [.long x, .int y] kd mr mi ml K := by
  subst hy
  exact w_X11_has ⟨fun _ => k9, fun z => absurd (by decide) z⟩
/-- all spots one step on -/
def mvS (S : Nat → Bool) (w s : Nat) : Bool :=
  if w = 0 then decide (s + 8 < 64) && S (s + 8)
  else if w = 1 then decide (0 < s % 8) && S (s - 1)
  else if w = 2 then decide (8 ≤ s) && S (s - 8)
  else decide (s % 8 < 7) && S (s + 1)
theorem bl_lc : ∀ s, s < 64 → bl 9187201950435737471 s = decide (s % 8 < 7) := by decide +kernel
theorem bl_fc : ∀ s, s < 64 → bl (-72340172838076674) s = decide (0 < s % 8) := by decide +kernel
theorem s_moved {x : Int64} {w : Nat} {y : Int32} {K : Int64 → pm_I → pm_L → Prop} (hy : y = nI w) (hw : w < 4) (k9 : ∀ z, (∀ s, s < 64 → bl z s = mvS (bl x) w s) → K z mi ml) : wL l M_X11_moved d [.long x, .int y] kd mr mi ml K := by
  subst hy
  refine w_X11_moved ?_
  rw [z_toInt (by omega)]
  refine ⟨fun z => by omega, fun z => k9 _ fun s hs => ?_, fun z => k9 _ fun s hs => ?_, fun z => k9 _ fun s hs => ?_, fun z => k9 _ fun s hs => ?_⟩
  · have : w = 0 := by omega
    subst this
    rw [show (8 : Int32) = nI 8 from rfl, bl_ushr (by omega)]
    unfold mvS
    rw [if_pos rfl, Nat.add_comm]
    by_cases q : s + 8 < 64
    · simp [q]
    · rw [bl_big (by omega)]; simp [q]
  · have : w = 1 := by omega
    subst this
    rw [show (1 : Int32) = nI 1 from rfl, bl_shl (by omega) _ hs, bl_and]
    unfold mvS
    rw [if_neg (by decide), if_pos rfl]
    by_cases q : 1 ≤ s
    · rw [bl_lc _ (by omega)]
      by_cases q2 : 0 < s % 8
      · have : (s - 1) % 8 < 7 := by omega
        simp [q, q2, this]
      · have : ¬ (s - 1) % 8 < 7 := by omega
        simp [q2, this]
    · have : s = 0 := by omega
      subst this; simp
  · have : w = 2 := by omega
    subst this
    rw [show (8 : Int32) = nI 8 from rfl, bl_shl (by omega) _ hs]
    unfold mvS
    rw [if_neg (by decide), if_neg (by decide), if_pos rfl]
  · have : w = 3 := by omega
    subst this
    rw [show (1 : Int32) = nI 1 from rfl, bl_ushr (by omega), bl_and]
    unfold mvS
    rw [if_neg (by decide), if_neg (by decide), if_neg (by decide), Nat.add_comm 1 s]
    by_cases q : s + 1 < 64
    · rw [bl_fc _ q]
      by_cases q2 : s % 8 < 7
      · have : 0 < (s + 1) % 8 := by omega
        simp [q2, this]
      · have : ¬ 0 < (s + 1) % 8 := by omega
        simp [q2, this]
    · rw [bl_big (by omega)]; 
      have : ¬ s % 8 < 7 := by omega
      simp [this]
end BITS
