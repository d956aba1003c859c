/-! the reference: its helpers over a city's row -/
def gN (r : Nat → Int32) (j : Nat) : Nat := (r j).toNatClampNeg
/-- is there the k-th of m -/
def isK (x : Int32) (m : Nat) : Bool := !decide (x < 0) && decide (x.toNatClampNeg < m)
theorem isK_nI {n m : Nat} (hn : n < 2147483648) : isK (nI n) m = decide (n < m) := by
  unfold isK
  rw [z_cl hn]
  have := z_nn hn
  simp [this]
theorem isK_neg {x : Int32} (h : x < 0) (m : Nat) : isK x m = false := by simp [isK, h]
theorem z_cut (x : Int32) {m : Nat} (hm : m < 2147483647) : (!decide (x < nI 0) && !decide (nI m - nI 1 < x)) = isK x m := by
  rcases z_cases x with h | ⟨n, hn, rfl⟩
  · have : x < nI 0 := h
    simp [this, isK_neg h]
  · rw [isK_nI hn]
    have e1 : ¬ nI n < nI 0 := nI_pos hn
    simp only [e1, decide_false, Bool.not_false, Bool.true_and]
    cases m with
    | zero =>
      have : nI 0 - nI 1 < nI n := by
        rw [Int32.lt_iff_toInt_lt, z_toInt hn]
        have e : (nI 0 - nI 1).toInt = -1 := by decide
        omega
      simp [this]
    | succ m =>
      have e2 : (nI (m + 1) - nI 1 < nI n) = (m < n) := by rw [z_sub (by omega), z_lt (by omega) hn]; rfl
      simp only [e2]
      by_cases hnm : n < m + 1
      · simp [hnm]; omega
      · simp [hnm]; omega
section REF
variable {l : Launch} {d h : Nat} {kd : pm_K} {mr : pm_R} {mi : pm_I} {ml : pm_L}
theorem s_in {x : Int32} {m : Nat} {K : Bool → pm_I → pm_L → Prop} (hm : m < 2147483647) (k : K (isK x m) mi ml) : wB l M_X12_in d [.int x, .int 0, .int (nI m - 1)] kd mr mi ml K := by
  refine w_X12_in ?_
  have := z_cut x hm
  have e : (!decide (x < 0) && !decide (nI m - 1 < x)) = isK x m := this
  rw [e]; exact k
theorem s_in2 {x : Int32} {m : Nat} {c : Int32} {K : Bool → pm_I → pm_L → Prop} (hc : c = nI m) (hm : m < 2147483646) (k : K (isK x (m + 1)) mi ml) : wB l M_X12_in d [.int x, .int 0, .int c] kd mr mi ml K := by
  subst hc
  have e : nI m = nI (m + 1) - 1 := (nI_pred m).symm
  rw [e]
  exact s_in (by omega) k
theorem s_is {x : Int32} {s m : Nat} {c : Int32} {K : Bool → pm_I → pm_L → Prop} (th : TX12s kd mr h) (hc : c = nI s) (hs : s < 16) (hm : mi (h + 5) s = nI m) (hm2 : m < 2147483647) (k : K (isK x m) mi ml) : wB l M_X12_is (d + 1) [.ref h, .int c, .int x] kd mr mi ml K := by
  subst hc
  refine w_X12_is th ⟨z_in hs (by omega), ?_⟩
  rw [z_cl (by omega), hm]
  exact s_in hm2 k
/-- a city's row is in order -/
def okC (r : Nat → Int32) : Prop := (∀ j, j < 53 → r j = nI (gN r j) ∧ gN r j < 256) ∧ (2 ≤ gN r 0 ∧ gN r 0 ≤ 8) ∧ (2 ≤ gN r 1 ∧ gN r 1 ≤ 8) ∧ gN r 2 ≤ 4 ∧ gN r 3 ≤ 6 ∧ gN r 4 ≤ 6 ∧ (∀ c, c < 4 → gN r (5 + c) ≤ 9) ∧
  (∀ p, p < gN r 3 → gN r (9 + p) < 4 ∧ gN r (15 + p) < gN r 0 ∧ gN r (21 + p) < gN r 1 ∧ (gN r (45 + gN r (21 + p))).testBit (gN r (15 + p)) = false) ∧
  (∀ p, p < gN r 4 → gN r (27 + p) < 4 ∧ gN r (33 + p) < gN r 0 ∧ gN r (39 + p) < gN r 1 ∧ (gN r (45 + gN r (39 + p))).testBit (gN r (33 + p)) = false) ∧
  (∀ y x, y < 8 → (gN r (45 + y)).testBit x = true → x < gN r 0 ∧ y < gN r 1)
/-- the city in hand is the k-th, of row r -/
def Hd (mi : pm_I) (h k : Nat) (r : Nat → Int32) : Prop := k < 2 ∧ mi h 25 = nI k ∧ mi h 26 = nI (gN r 0) ∧ mi h 27 = nI (gN r 0 * gN r 1) ∧ mi h 28 = nI (gN r 3) ∧ mi h 29 = nI (gN r 4) ∧ ∀ j, j < 53 → mi (h + 6) (53 * k + j) = r j
theorem Hd.ur {k : Nat} {r : Nat → Int32} {a : Nat} {f : Nat → Int32} (H : Hd mi h k r) (h1 : a ≠ h) (h2 : a ≠ h + 6) : Hd (pm_ur mi a f) h k r := by
  unfold Hd at H ⊢
  rw [pm_ur_k mi f (Ne.symm h1), pm_ur_k mi f (Ne.symm h2)]
  exact H
theorem Hd.up {k : Nat} {r : Nat → Int32} {a b : Nat} {v : Int32} (H : Hd mi h k r) (h1 : a ≠ h ∨ b < 25 ∨ 29 < b) (h2 : a ≠ h + 6) : Hd (pm_up mi a b v) h k r := by
  unfold Hd at H ⊢
  have e : ∀ j, 25 ≤ j → j ≤ 29 → pm_up mi a b v h j = mi h j := fun j hj1 hj2 => pm_up_ne mi v (fun z => by omega)
  rw [e 25 (by omega) (by omega), e 26 (by omega) (by omega), e 27 (by omega) (by omega), e 28 (by omega) (by omega), e 29 (by omega) (by omega), pm_up_row mi v (Ne.symm h2)]
  exact H
variable {k : Nat} {r : Nat → Int32}
theorem s_of {a : Nat} {c : Int32} {K : Int32 → pm_I → pm_L → Prop} (th : TX12s kd mr h) (H : Hd mi h k r) (hc : c = nI a) (ha : a < 53) (k9 : K (r a) mi ml) : wI l M_X12_of d [.ref h, .int c] kd mr mi ml K := by
  subst hc
  obtain ⟨hk, e1, -, -, -, -, e6⟩ := H
  have e : 53 * mi h 25 + nI a = nI (53 * k + a) := by rw [e1, ← nI_add, ← z_mul]; rfl
  refine w_X12_of th ?_
  rw [e, z_cl (by omega), e6 a ha]
  exact ⟨z_in (by omega) (by omega), k9⟩
theorem s_hand {x : Int32} {m : Nat} {K : Bool → pm_I → pm_L → Prop} (th : TX12s kd mr h) (hm : mi (h + 5) 0 = nI m) (hm2 : m ≤ 2) (hr : ∀ k, k < m → okC (fun j => mi (h + 6) (53 * k + j)))
    (k0 : isK x m = false → K false mi ml) (k1 : ∀ k, k < m → x = nI k → ∀ mi', (∀ a, a ≠ h → mi' a = mi a) → (∀ b, b < 25 ∨ 29 < b → mi' h b = mi h b) → Hd mi' h k (fun j => mi (h + 6) (53 * k + j)) → K true mi' ml) : wB l M_X12_hand (d + 3) [.ref h, .int x] kd mr mi ml K := by
  refine w_X12_hand th (s_is (s := 0) th rfl (by omega) hm (by omega) ⟨fun hx => ?_, k0⟩)
  obtain ⟨k, hk, rfl⟩ : ∃ k, k < m ∧ x = nI k := by
    rcases z_cases x with z | ⟨n, hn, rfl⟩
    · rw [isK_neg z] at hx; cases hx
    · rw [isK_nI hn] at hx; exact ⟨n, by simpa using hx, rfl⟩
  have O := hr k hk
  generalize hrr : (fun j => mi (h + 6) (53 * k + j)) = r at O
  have er : ∀ j, mi (h + 6) (53 * k + j) = r j := fun j => by rw [← hrr]
  obtain ⟨O1, -⟩ := O
  have w6 : ∀ (mi' : pm_I), mi' (h + 6) = mi (h + 6) → mi' h 25 = nI k → ∀ (a : Nat) (c : Int32) (K : Int32 → pm_I → pm_L → Prop), c = nI a → a < 53 → K (r a) mi' ml → wI l M_X12_of (d + 2) [.ref h, .int c] kd mr mi' ml K := by
    intro mi' g1 g2 a c K hc ha kk
    subst hc
    have e : 53 * mi' h 25 + nI a = nI (53 * k + a) := by rw [g2, ← nI_add, ← z_mul]; rfl
    refine w_X12_of th ?_
    rw [e, z_cl (by omega), g1, er a]
    exact ⟨z_in (by omega) (by omega), kk⟩
  have ne : h + 6 ≠ h := by omega
  refine w6 _ (pm_up_row mi _ ne) (pm_up_s _ _ _ _) 0 0 _ rfl (by omega) ?_
  refine w6 _ ((pm_up_row _ _ ne).trans (pm_up_row mi _ ne)) ((pm_up_j _ _ (by decide)).trans (pm_up_s _ _ _ _)) 1 1 _ rfl (by omega) ?_
  refine w6 _ ((pm_up_row _ _ ne).trans ((pm_up_row _ _ ne).trans (pm_up_row mi _ ne))) ((pm_up_j _ _ (by decide)).trans ((pm_up_j _ _ (by decide)).trans (pm_up_s _ _ _ _))) 3 3 _ rfl (by omega) ?_
  refine w6 _ ((pm_up_row _ _ ne).trans ((pm_up_row _ _ ne).trans ((pm_up_row _ _ ne).trans (pm_up_row mi _ ne)))) ((pm_up_j _ _ (by decide)).trans ((pm_up_j _ _ (by decide)).trans ((pm_up_j _ _ (by decide)).trans (pm_up_s _ _ _ _)))) 4 4 _ rfl (by omega) ?_
  refine hrr ▸ k1 k hk rfl _ ?_ ?_ ?_
  · intro a ha
    rw [pm_up_row _ _ ha, pm_up_row _ _ ha, pm_up_row _ _ ha, pm_up_row _ _ ha, pm_up_row _ _ ha]
  · intro b hb
    rw [pm_up_j _ _ (by omega), pm_up_j _ _ (by omega), pm_up_j _ _ (by omega), pm_up_j _ _ (by omega), pm_up_j _ _ (by omega)]
  · rw [hrr]
    have e5 : ∀ j, j < 53 → pm_up (pm_up (pm_up (pm_up (pm_up mi h 25 (nI k)) h 26 (r 0)) h 27 (r 0 * r 1)) h 28 (r 3)) h 29 (r 4) (h + 6) (53 * k + j) = r j := by
      intro j _
      rw [pm_up_row _ _ ne, pm_up_row _ _ ne, pm_up_row _ _ ne, pm_up_row _ _ ne, pm_up_row _ _ ne, er j]
    refine ⟨by omega, ?_, ?_, ?_, ?_, ?_, e5⟩
    · rw [pm_up_j _ _ (by decide), pm_up_j _ _ (by decide), pm_up_j _ _ (by decide), pm_up_j _ _ (by decide), pm_up_s]
    · rw [pm_up_j _ _ (by decide), pm_up_j _ _ (by decide), pm_up_j _ _ (by decide), pm_up_s]; exact (O1 0 (by omega)).1
    · rw [pm_up_j _ _ (by decide), pm_up_j _ _ (by decide), pm_up_s, (O1 0 (by omega)).1, (O1 1 (by omega)).1, z_mul]
    · rw [pm_up_j _ _ (by decide), pm_up_s]; exact (O1 3 (by omega)).1
    · rw [pm_up_s]; exact (O1 4 (by omega)).1
/-- is there a wall at cell c -/
def wlC (r : Nat → Int32) (c : Nat) : Bool := (gN r (45 + c / gN r 0)).testBit (c % gN r 0)
def cells (r : Nat → Int32) : Nat := gN r 0 * gN r 1
theorem okC.lit (O : okC r) {j : Nat} (hj : j < 53) : r j = nI (gN r j) := (O.1 j hj).1
theorem okC.w (O : okC r) : 2 ≤ gN r 0 ∧ gN r 0 ≤ 8 ∧ 2 ≤ gN r 1 ∧ gN r 1 ≤ 8 ∧ 4 ≤ cells r ∧ cells r ≤ 64 := by
  obtain ⟨-, ⟨h1, h2⟩, ⟨h3, h4⟩, -⟩ := O
  refine ⟨h1, h2, h3, h4, ?_, ?_⟩
  · exact Nat.mul_le_mul h1 h3
  · exact Nat.mul_le_mul h2 h4
theorem cell_xy (O : okC r) {c : Nat} (hc : c < cells r) : c % gN r 0 < gN r 0 ∧ c / gN r 0 < gN r 1 := by
  have := O.w
  refine ⟨Nat.mod_lt _ (by omega), Nat.div_lt_of_lt_mul hc⟩
theorem s_has {m i : Nat} {a b : Int32} {K : Bool → pm_I → pm_L → Prop} (ha : a = nI m) (hb : b = nI i) (hm : m < 256) (hi : i < 8) (k9 : K (m.testBit i) mi ml) : wB l M_X12_has d [.int a, .int b] kd mr mi ml K := by
  subst ha; subst hb
  refine w_X12_has ?_
  have e : decide (((nI m >>> (nI i &&& 31)) &&& 1) = 1) = m.testBit i := by
    have := z_has m hm i hi
    by_cases z : m.testBit i = true
    · rw [z]; exact decide_eq_true (this.mpr z)
    · simp only [Bool.not_eq_true] at z
      rw [z]
      exact decide_eq_false fun q => by rw [this.mp q] at z; cases z
  rw [e]; exact k9
theorem s_isWall {c : Nat} {x : Int32} {K : Bool → pm_I → pm_L → Prop} (th : TX12s kd mr h) (H : Hd mi h k r) (O : okC r) (hx : x = nI c) (hc : c < cells r) (k9 : K (wlC r c) mi ml) : wB l M_X12_isWall (d + 1) [.ref h, .int x] kd mr mi ml K := by
  subst hx
  obtain ⟨w1, w2, w3, w4, w5, w6⟩ := O.w
  obtain ⟨c1, c2⟩ := cell_xy O hc
  have e26 : mi h 26 = nI (gN r 0) := H.2.2.1
  refine w_X12_isWall th ?_
  rw [e26, z_div (by omega) (by omega)]
  refine ⟨nI_ne0 (by omega) (by omega), s_of (a := 45 + c / gN r 0) th H (by rw [← nI_add]; rfl) (by omega) ⟨by rw [e26]; exact nI_ne0 (by omega) (by omega), ?_⟩⟩
  rw [e26, z_rem (by omega) (by omega)]
  exact s_has (O.lit (by omega)) rfl (O.1 _ (by omega)).2 (by omega) k9
theorem s_isCell {x : Int32} {K : Bool → pm_I → pm_L → Prop} (th : TX12s kd mr h) (H : Hd mi h k r) (O : okC r) (k9 : K (isK x (cells r)) mi ml) : wB l M_X12_isCell (d + 1) [.ref h, .int x] kd mr mi ml K := by
  have e := H.2.2.2.1
  have := O.w
  refine w_X12_isCell th ?_
  rw [e]
  exact s_in (by show cells r < _; omega) k9
theorem s_isPlayer {x : Int32} {K : Bool → pm_I → pm_L → Prop} (th : TX12s kd mr h) (H : Hd mi h k r) (O : okC r) (k9 : K (isK x (gN r 3)) mi ml) : wB l M_X12_isPlayer (d + 1) [.ref h, .int x] kd mr mi ml K := by
  have e := H.2.2.2.2.1
  have := O.2.2.2.2.1
  refine w_X12_isPlayer th ?_
  rw [e]
  exact s_in (by omega) k9
theorem s_isPerson {x : Int32} {K : Bool → pm_I → pm_L → Prop} (th : TX12s kd mr h) (H : Hd mi h k r) (O : okC r) (k9 : K (isK x (gN r 4)) mi ml) : wB l M_X12_isPerson (d + 1) [.ref h, .int x] kd mr mi ml K := by
  have e := H.2.2.2.2.2.1
  have := O.2.2.2.2.2.1
  refine w_X12_isPerson th ?_
  rw [e]
  exact s_in (by omega) k9
/-- the cell of the p-th thing whose kinds begin at a -/
def cellC (r : Nat → Int32) (a p : Nat) : Nat := gN r 0 * gN r (a + 12 + p) + gN r (a + 6 + p)
theorem s_cellOf {a p : Nat} {x y : Int32} {K : Int32 → pm_I → pm_L → Prop} (th : TX12s kd mr h) (H : Hd mi h k r) (O : okC r) (hx : x = nI a) (hy : y = nI p) (ha : a ≤ 27) (hp : p < 6) (k9 : K (nI (cellC r a p)) mi ml) : wI l M_X12_cellOf (d + 1) [.ref h, .int x, .int y] kd mr mi ml K := by
  subst hx; subst hy
  refine w_X12_cellOf th (s_of (a := a + 12 + p) th H (by rw [← nI_add, ← nI_add]; rfl) (by omega) (s_of (a := a + 6 + p) th H (by rw [← nI_add, ← nI_add]; rfl) (by omega) ?_))
  have e : mi h 26 * r (a + 12 + p) + r (a + 6 + p) = nI (cellC r a p) := by
    rw [H.2.2.1, O.lit (by omega), O.lit (j := a + 6 + p) (by omega), z_mul, nI_add]; rfl
  rw [e]; exact k9
/-- the next cell in a direction -/
def nxt (r : Nat → Int32) (c w : Nat) : Option Nat :=
  if w = 0 then (if gN r 0 ≤ c then some (c - gN r 0) else none)
  else if w = 1 then (if c % gN r 0 + 1 = gN r 0 then none else some (c + 1))
  else if w = 2 then (if c + gN r 0 < cells r then some (c + gN r 0) else none)
  else if w = 3 then (if c % gN r 0 = 0 then none else some (c - 1))
  else some c
def oI : Option Nat → Int32
  | none => -1
  | some n => nI n
theorem oI_m1 {o : Option Nat} (h : ∀ n, o = some n → n < 2147483648) : oI o = -1 ↔ o = none := by
  cases o with
  | none => exact ⟨fun _ => rfl, fun _ => rfl⟩
  | some n =>
    have := z_m1 (h n rfl)
    exact ⟨fun z => (this ▸ (z : nI n = -nI 1)).elim, fun z => by cases z⟩
theorem nxt_lt (O : okC r) {c w t : Nat} (hc : c < cells r) (h : nxt r c w = some t) : t < cells r := by
  obtain ⟨w1, w2, w3, w4, w5, w6⟩ := O.w
  obtain ⟨c1, c2⟩ := cell_xy O hc
  unfold nxt at h
  split at h
  · split at h
    · cases h; omega
    · cases h
  · split at h
    · split at h
      · cases h
      · rename_i z
        cases h
        have e := Nat.div_add_mod c (gN r 0)
        have e2 : gN r 0 * (c / gN r 0) + gN r 0 ≤ cells r := by
          have : c / gN r 0 + 1 ≤ gN r 1 := c2
          calc gN r 0 * (c / gN r 0) + gN r 0 = gN r 0 * (c / gN r 0 + 1) := by rw [Nat.mul_add, Nat.mul_one]
            _ ≤ gN r 0 * gN r 1 := Nat.mul_le_mul_left _ this
        omega
    · split at h
      · split at h
        · cases h; assumption
        · cases h
      · split at h
        · split at h
          · cases h
          · cases h; omega
        · cases h; exact hc
theorem s_next {c w : Nat} {x y : Int32} {K : Int32 → pm_I → pm_L → Prop} (th : TX12s kd mr h) (H : Hd mi h k r) (O : okC r) (hx : x = nI c) (hy : y = nI w) (hc : c < cells r) (hw : w < 1000) (k9 : K (oI (nxt r c w)) mi ml) : wI l M_X12_next d [.ref h, .int x, .int y] kd mr mi ml K := by
  subst hx; subst hy
  obtain ⟨w1, w2, w3, w4, w5, w6⟩ := O.w
  have e26 := H.2.2.1
  have e27 : mi h 27 = nI (cells r) := H.2.2.2.1
  have n0 := nI_ne0 (n := gN r 0) (by omega) (by omega)
  refine w_X12_next th ?_
  rw [e26, e27, z_toInt (by omega)]
  refine ⟨fun z => ?_, fun z => ?_, fun z => ⟨n0, ?_⟩, fun z => ?_, fun z => ⟨n0, ?_⟩⟩
  · have : nxt r c w = some c := by unfold nxt; rw [if_neg (by omega), if_neg (by omega), if_neg (by omega), if_neg (by omega)]
    rw [this] at k9; exact k9
  · have : oI (nxt r c w) = if nI (gN r 0) ≤ nI c then nI c - nI (gN r 0) else -1 := by
      unfold nxt; rw [if_pos (by omega)]
      simp only [z_le (show gN r 0 < 2147483648 by omega) (show c < 2147483648 by omega)]
      split
      · rw [z_sub (by assumption)]; rfl
      · rfl
    rw [this] at k9; exact k9
  · have : oI (nxt r c w) = if nI c - nI c / nI (gN r 0) * nI (gN r 0) + 1 = nI (gN r 0) then -1 else nI c + 1 := by
      unfold nxt; rw [if_neg (by omega), if_pos (by omega), z_rem (by omega) (by omega), nI_1, nI_1]
      have := Nat.mod_lt c (show 0 < gN r 0 by omega)
      simp only [z_eq (show c % gN r 0 + 1 < 2147483648 by omega) (show gN r 0 < 2147483648 by omega)]
      split <;> rfl
    rw [this] at k9; exact k9
  · have : oI (nxt r c w) = if nI c + nI (gN r 0) < nI (cells r) then nI c + nI (gN r 0) else -1 := by
      unfold nxt; rw [if_neg (by omega), if_neg (by omega), if_pos (by omega), nI_add]
      simp only [z_lt (show c + gN r 0 < 2147483648 by omega) (show cells r < 2147483648 by omega)]
      split <;> rfl
    rw [this] at k9; exact k9
  · have : oI (nxt r c w) = if nI c - nI c / nI (gN r 0) * nI (gN r 0) = 0 then -1 else nI c - 1 := by
      unfold nxt; rw [if_neg (by omega), if_neg (by omega), if_neg (by omega), if_pos (by omega), z_rem (by omega) (by omega)]
      have h1 := Nat.mod_lt c (show 0 < gN r 0 by omega)
      have e : (nI (c % gN r 0) = 0) = (c % gN r 0 = 0) := z_eq (b := 0) (by omega) (by omega)
      simp only [e]
      split
      · rfl
      · rename_i z2
        have : 1 ≤ c := by
          rcases Nat.eq_zero_or_pos c with q | q
          · subst q; simp at z2
          · exact q
        show nI (c - 1) = nI c - nI 1
        rw [z_sub this]
    rw [this] at k9; exact k9
/-- the next cell that is free -/
def fre (r : Nat → Int32) (c w : Nat) : Option Nat := match nxt r c w with
  | none => none
  | some t => if wlC r t = true then none else some t
theorem s_free {c w : Nat} {x y : Int32} {K : Int32 → pm_I → pm_L → Prop} (th : TX12s kd mr h) (H : Hd mi h k r) (O : okC r) (hx : x = nI c) (hy : y = nI w) (hc : c < cells r) (hw : w < 1000) (k9 : K (oI (fre r c w)) mi ml) : wI l M_X12_free (d + 2) [.ref h, .int x, .int y] kd mr mi ml K := by
  obtain ⟨w1, w2, w3, w4, w5, w6⟩ := O.w
  refine w_X12_free th (s_next th H O hx hy hc hw ?_)
  unfold fre at k9
  cases e : nxt r c w with
  | none => rw [e] at k9; exact ⟨fun _ => k9, fun z => absurd rfl z⟩
  | some t =>
    rw [e] at k9
    have ht := nxt_lt O hc e
    refine ⟨fun z => ?_, fun z => s_isWall th H O rfl ht ?_⟩
    · have := z_m1 (show t < 2147483648 by omega)
      exact (this ▸ (z : nI t = -nI 1)).elim
    · dsimp only at k9
      have e2 : (if wlC r t = true then (-1 : Int32) else oI (some t)) = oI (if wlC r t = true then none else some t) := by split <;> rfl
      rw [e2]; exact k9
end REF
