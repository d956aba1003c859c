/-! thieves: the sets that fit -/
theorem z_bit : ∀ m, m < 256 → ∀ i, i < 8 → ((nI m >>> (nI i &&& nI 31)) &&& nI 1) = nI (if m.testBit i = true then 1 else 0) := by decide +kernel
/-- how many of the eight lowest bits -/
def on (s : Nat) : Nat := cnt (fun i => s.testBit i) 8
def bc_u (x : Int32) (n : Int32) : Int32 := (x.toUInt32 >>> (Int32.toUInt32 n &&& Int32.toUInt32 31)).toInt32
def bc_1 (x : Int32) : Int32 := x - (bc_u x 1 &&& 1431655765)
def bc_2 (x : Int32) : Int32 := (x &&& 858993459) + (bc_u x 2 &&& 858993459)
def bc_3 (x : Int32) : Int32 := (x + bc_u x 4) &&& 252645135
def bc_4 (x : Int32) : Int32 := x + bc_u x 8
def bc_5 (x : Int32) : Int32 := x + bc_u x 16
def bcI (x : Int32) : Int32 := bc_5 (bc_4 (bc_3 (bc_2 (bc_1 x)))) &&& 63
theorem bc_on : ∀ s, s < 256 → bcI (nI s) = nI (on s) := by decide +kernel
section ONES
variable {l : Launch} {d : Nat} {kd : pm_K} {mr : pm_R} {mi : pm_I} {ml : pm_L}
theorem s_bits {s : Nat} {x : Int32} {K : Int32 → pm_I → pm_L → Prop} (hx : x = nI s) (hs : s < 256) (k9 : K (nI (on s)) mi ml) : wI l M_J6_bitCount_0f7a4 d [.int x] kd mr mi ml K := by
  subst hx
  refine w_J6_bitCount_0f7a4 ?_
  have e := bc_on s hs
  rw [← e] at k9
  exact k9
theorem s_onesZ {s : Nat} {x : Int32} {K : Int32 → pm_I → pm_L → Prop} (hx : x = nI s) (hs : s < 256) (k9 : K (nI (on s)) mi ml) : wI l M_X12_ones (d + 1) [.int x] kd mr mi ml K := by
  subst hx
  have loop : ∀ (u i : Nat), i + u = 8 → c_X12_ones_4 l (d + 1) kd mr (nI s) (nI (cnt (fun i => s.testBit i) i)) (nI i) mi ml K := by
    intro u
    induction u with
    | zero =>
      intro i hi
      have : i = 8 := by omega
      subst this
      exact w_X12_ones_4 ⟨fun _ => k9, fun h => absurd (nI_le (Nat.le_refl 8) (by omega)) h⟩
    | succ u ih =>
      intro i hi
      refine w_X12_ones_4 ⟨fun h => absurd h (nI_ge (b := 8) (by omega) (by omega)), fun _ => s_has rfl rfl hs (by omega) ?_⟩
      rw [b2i_nI, nI_1]
      exact ih (i + 1) (by omega)
  exact w_X12_ones (loop 8 0 rfl)
end ONES
/-- the list of those below n -/
def fl (P : Nat → Bool) : Nat → List Nat
  | 0 => []
  | n + 1 => if P n = true then fl P n ++ [n] else fl P n
theorem fl_len (P : Nat → Bool) (n : Nat) : (fl P n).length ≤ n := by
  induction n with
  | zero => exact Nat.le_refl _
  | succ n ih => unfold fl; split <;> (try rw [List.length_append]) <;> (try simp) <;> omega
theorem fl_mem {P : Nat → Bool} {n a : Nat} : a ∈ fl P n ↔ a < n ∧ P a = true := by
  induction n with
  | zero => exact ⟨fun h => absurd h List.not_mem_nil, fun h => by omega⟩
  | succ n ih =>
    unfold fl
    split
    · rename_i hp
      rw [List.mem_append, ih, List.mem_singleton]
      constructor
      · rintro (⟨h1, h2⟩ | rfl)
        · exact ⟨by omega, h2⟩
        · exact ⟨by omega, hp⟩
      · rintro ⟨h1, h2⟩
        by_cases h : a = n
        · exact Or.inr h
        · exact Or.inl ⟨by omega, h2⟩
    · rename_i hp
      rw [ih]
      constructor
      · rintro ⟨h1, h2⟩; exact ⟨by omega, h2⟩
      · rintro ⟨h1, h2⟩
        have : a ≠ n := fun e => hp (e ▸ h2)
        exact ⟨by omega, h2⟩
theorem fl_get {P : Nat → Bool} {n i : Nat} (h : i < (fl P n).length) : (fl P n).getD i 0 < n ∧ P ((fl P n).getD i 0) = true := by
  rw [List.getD_eq_getElem?_getD, List.getElem?_eq_getElem h, Option.getD_some]
  exact fl_mem.mp (List.getElem_mem h)
def rowL (f : Nat → Int32) (L : List Nat) : Prop := ∀ i, i < L.length → f i = nI (L.getD i 0)
theorem rowL_push {f : Nat → Int32} {L : List Nat} {n : Nat} (h : rowL f L) : rowL (fun i => if i = L.length then nI n else f i) (L ++ [n]) := by
  intro i hi
  rw [List.length_append, List.length_singleton] at hi
  by_cases q : i = L.length
  · subst q
    show (if L.length = L.length then nI n else f L.length) = _
    rw [if_pos rfl, List.getD_eq_getElem?_getD, List.getElem?_append_right (Nat.le_refl _)]
    simp
  · show (if i = L.length then nI n else f i) = _
    rw [if_neg q, List.getD_eq_getElem?_getD, List.getElem?_append_left (by omega), ← List.getD_eq_getElem?_getD]
    exact h i (by omega)
theorem rowL_nil (f : Nat → Int32) : rowL f [] := fun i h => absurd h (Nat.not_lt_zero i)
def isP (q : Nat → Int32) (s : Nat) : Bool := decide (q 1 = -1) || decide (nI (on s) = q 1)
def wrB (q : Nat → Int32) (s k : Nat) : Bool := decide (decide (s.testBit (gN q (5 + 3 * k)) = decide (gN q (3 + 3 * k) = 1)) = s.testBit (gN q (4 + 3 * k)))
def wrS (q : Nat → Int32) (s : Nat) : Nat := cnt (wrB q s) (gN q 2)
def FL (q : Nat → Int32) : List Nat := fl (fun s => isP q s && decide (wrS q s = 0)) (2 ^ gN q 0)
theorem okT.pw {q : Nat → Int32} (O : okT q) : 2 ^ gN q 0 ≤ 256 ∧ 1 ≤ 2 ^ gN q 0 ∧ (∀ s, s < 2 ^ gN q 0 → s < 256) ∧ (1 : Int32) <<< (nI (gN q 0) &&& 31) = nI (2 ^ gN q 0) := by
  have h : 2 ^ gN q 0 ≤ 256 := Nat.pow_le_pow_right (n := 2) (i := gN q 0) (j := 8) (by omega) O.2.2.2.1
  exact ⟨h, Nat.one_le_two_pow, fun s hs => by omega, z_shl _ (by have := O.2.2.2.1; omega)⟩
section FIT
variable {l : Launch} {d x z o T k : Nat} {kd : pm_K} {mr : pm_R} {mi : pm_I} {ml : pm_L} {q : Nat → Int32} {m : Nat}
theorem TC.same {mi' : pm_I} (C : TC mi o q) (h : ∀ a, o ≤ a → a ≤ o + 4 → mi' a = mi a) : TC mi' o q := by
  obtain ⟨O, e0, e1, R⟩ := C
  refine ⟨O, ?_, ?_, R.same (h _ (by omega) (by omega)) (h _ (by omega) (by omega)) (h _ (by omega) (by omega)) (h _ (by omega) (by omega))⟩
  · rw [h o (by omega) (by omega)]; exact e0
  · rw [h o (by omega) (by omega)]; exact e1
theorem HT.same {mi' : pm_I} (H : HT mi z k q) (h1 : mi' z 46 = mi z 46) (h2 : mi' (z + 8) = mi (z + 8)) : HT mi' z k q := by
  unfold HT at H ⊢; rw [h1, h2]; exact H
theorem TC.row (C : TC mi o q) {j : Nat} (hj : j < gN q 2) : j < 12 ∧ ∃ a b c, a < 2 ∧ b < 8 ∧ c < 8 ∧ mi (o + 1 + 1) j = nI a ∧ mi (o + 1 + 2) j = nI b ∧ mi (o + 1 + 3) j = nI c ∧ gN q (3 + 3 * j) = a ∧ gN q (4 + 3 * j) = b ∧ gN q (5 + 3 * j) = c := by
  obtain ⟨O, e0, e1, R⟩ := C
  have hn := O.1
  have hw := O.2.2.2.1
  obtain ⟨a, b, c, h1, h2, h3, h4, h5, h6⟩ := O.2.2.2.2.2 j hj
  obtain ⟨-, n2, -⟩ := R.n
  obtain ⟨n, g1, g2, g3, g4⟩ := R
  have : n = gN q 2 := by rw [n2] at g3; rw [z_eq (by omega) (by omega)] at g3; exact g3.symm
  subst this
  obtain ⟨f1, f2, f3⟩ := g4 j hj
  refine ⟨by omega, a, b, c, h1, by omega, by omega, ?_, ?_, ?_, ?_, ?_, ?_⟩
  · rw [f1]; exact h4
  · rw [f2, show 2 + 1 + 3 * j + 1 = 4 + 3 * j by omega]; exact h5
  · rw [f3, show 2 + 1 + 3 * j + 2 = 5 + 3 * j by omega]; exact h6
  · unfold gN; rw [h4, z_cl (by omega)]
  · unfold gN; rw [h5, z_cl (by omega)]
  · unfold gN; rw [h6, z_cl (by omega)]
theorem s_isAsMany {s : Nat} {y : Int32} {K : Bool → pm_I → pm_L → Prop} (to : TX10s kd mr o) (C : TC mi o q) (hy : y = nI s) (hs : s < 256) (k9 : K (isP q s) mi ml) : wB l M_X10_isAsMany (d + 1) [.ref o, .int y] kd mr mi ml K := by
  have e1 := C.2.2.1
  unfold isP at k9
  refine w_X10_isAsMany to ⟨fun h => ?_, fun h => s_bits hy hs ?_⟩
  · rw [e1] at h
    rw [decide_eq_true h, Bool.true_or] at k9; exact k9
  · rw [e1] at h ⊢
    rw [decide_eq_false h, Bool.false_or] at k9; exact k9
theorem s_areMany {s : Nat} {y : Int32} {K : Bool → pm_I → pm_L → Prop} (tz : TX12s kd mr z) (H : HT mi z k q) (hy : y = nI s) (hs : s < 256) (k9 : K (isP q s) mi ml) : wB l M_X12_areMany (d + 2) [.ref z, .int y] kd mr mi ml K := by
  unfold isP at k9
  refine w_X12_areMany tz (s_trialOf (a := 1) tz H rfl (by omega) ⟨fun h => ?_, fun h => s_onesZ hy hs (s_trialOf (a := 1) tz H rfl (by omega) ?_)⟩)
  · rw [decide_eq_true h, Bool.true_or] at k9; exact k9
  · rw [decide_eq_false h, Bool.false_or] at k9; exact k9
theorem b2_nI (b : Bool) : b2i b = nI (if b = true then 1 else 0) := by cases b <;> rfl
theorem b2_eq (a b : Bool) : (nI (if a = true then 1 else 0) = nI (if b = true then 1 else 0)) = (a = b) := by
  cases a <;> cases b <;> decide
theorem s_wrong {s : Nat} {y : Int32} {K : Int32 → pm_I → pm_L → Prop} (to : TX10s kd mr o) (C : TC mi o q) (hy : y = nI s) (hs : s < 256) (k9 : K (nI (wrS q s)) mi ml) : wI l M_X10_wrongSayings d [.ref o, .int y] kd mr mi ml K := by
  subst hy
  obtain ⟨n1, n2, n3⟩ := C.2.2.2.n
  have hn := C.1.1
  have loop : ∀ (u i : Nat), i + u = gN q 2 → c_X10_wrongSayings_4 l d kd mr o (nI s) (nI (cnt (wrB q s) i)) (nI i) mi ml K := by
    intro u
    induction u with
    | zero =>
      intro i hi
      have : i = gN q 2 := by omega
      subst this
      exact w_X10_wrongSayings_4 to ⟨fun _ => k9, fun h => absurd (by rw [n1]; exact nI_le (Nat.le_refl _) (by omega)) h⟩
    | succ u ih =>
      intro i hi
      obtain ⟨hi12, a, b, c, ha, hb, hc, f1, f2, f3, g1, g2, g3⟩ := C.row (show i < gN q 2 by omega)
      refine w_X10_wrongSayings_4 to ⟨fun h => absurd h (by rw [n1]; exact nI_ge (by omega) (by omega)), fun _ => ⟨z_in (by omega) (by omega), z_in (by omega) (by omega), z_in (by omega) (by omega), ?_⟩⟩
      rw [z_cl (by omega), f1, f2, f3]
      have e1 : (nI s >>> (nI c &&& 31)) &&& 1 = nI (if s.testBit c = true then 1 else 0) := z_bit s hs c hc
      have e2 : (nI s >>> (nI b &&& 31)) &&& 1 = nI (if s.testBit b = true then 1 else 0) := z_bit s hs b hb
      have e4 : (nI (if s.testBit c = true then 1 else 0) = nI a) = (s.testBit c = decide (a = 1)) := by
        have : nI a = nI (if decide (a = 1) = true then 1 else 0) := by
          rcases (show a = 0 ∨ a = 1 by omega) with rfl | rfl <;> rfl
        rw [this, b2_eq]
      rw [e1, e2]
      simp only [e4]
      rw [b2_nI, b2_eq]
      have e5 : wrB q s i = decide (decide (s.testBit c = decide (a = 1)) = s.testBit b) := by unfold wrB; rw [g1, g2, g3]
      have nx := ih (i + 1) (by omega)
      unfold cnt at nx
      rw [e5] at nx
      refine ⟨fun h => w_X10_wrongSayings_79 to ?_, fun h => w_X10_wrongSayings_79 to ?_⟩
      · rw [if_neg (by simpa using h), Nat.add_zero] at nx
        rw [nI_1, show nI (cnt (wrB q s) i) + 0 = nI (cnt (wrB q s) i + 0) from nI_add _ 0]; exact nx
      · rw [if_pos (by simpa using h)] at nx
        rw [nI_1, nI_1]; exact nx
  exact w_X10_wrongSayings to (loop _ 0 (Nat.zero_add _))
theorem HT.row (H : HT mi z k q) (O : okT q) {j : Nat} (hj : j < gN q 2) : j < 12 ∧ ∃ a b c, a < 2 ∧ b < 8 ∧ c < 8 ∧ q (3 + 3 * j) = nI a ∧ q (4 + 3 * j) = nI b ∧ q (5 + 3 * j) = nI c ∧ gN q (3 + 3 * j) = a ∧ gN q (4 + 3 * j) = b ∧ gN q (5 + 3 * j) = c := by
  have hn := O.1
  have hw := O.2.2.2.1
  obtain ⟨a, b, c, h1, h2, h3, h4, h5, h6⟩ := O.2.2.2.2.2 j hj
  refine ⟨by omega, a, b, c, h1, by omega, by omega, h4, h5, h6, ?_, ?_, ?_⟩
  · unfold gN; rw [h4, z_cl (by omega)]
  · unfold gN; rw [h5, z_cl (by omega)]
  · unfold gN; rw [h6, z_cl (by omega)]
theorem s_against {s : Nat} {y : Int32} {K : Int32 → pm_I → pm_L → Prop} (tz : TX12s kd mr z) (H : HT mi z k q) (O : okT q) (n2 : q 2 = nI (gN q 2)) (hy : y = nI s) (hs : s < 256) (k9 : K (nI (wrS q s)) mi ml) : wI l M_X12_against (d + 1) [.ref z, .int y] kd mr mi ml K := by
  subst hy
  have hn := O.1
  have loop : ∀ (u i : Nat), i + u = gN q 2 → c_X12_against_4 l (d + 1) kd mr z (nI s) (nI (cnt (wrB q s) i)) (nI i) mi ml K := by
    intro u
    induction u with
    | zero =>
      intro i hi
      have : i = gN q 2 := by omega
      subst this
      refine w_X12_against_4 tz (s_trialOf (a := 2) tz H rfl (by omega) ?_)
      rw [n2]
      exact ⟨fun _ => k9, fun h => absurd (nI_le (Nat.le_refl _) (by omega)) h⟩
    | succ u ih =>
      intro i hi
      obtain ⟨hi12, a, b, c, ha, hb, hc, f1, f2, f3, g1, g2, g3⟩ := H.row O (show i < gN q 2 by omega)
      refine w_X12_against_4 tz (s_trialOf (a := 2) tz H rfl (by omega) ?_)
      rw [n2]
      have e3 : (3 : Int32) * nI i = nI (3 * i) := z_mul 3 i
      have ee : ∀ n : Nat, nI n + nI (3 * i) = nI (n + 3 * i) := fun n => nI_add n _
      refine ⟨fun h => absurd h (nI_ge (by omega) (by omega)), fun _ => s_trialOf (a := 5 + 3 * i) tz H (by rw [e3]; exact ee 5) (by omega) (s_has rfl f3 hs hc (s_trialOf (a := 3 + 3 * i) tz H (by rw [e3]; exact ee 3) (by omega) (s_trialOf (a := 4 + 3 * i) tz H (by rw [e3]; exact ee 4) (by omega) (s_has rfl f2 hs hb ?_))))⟩
      have e5 : wrB q s i = decide (decide (s.testBit c = decide (a = 1)) = s.testBit b) := by unfold wrB; rw [g1, g2, g3]
      have nx := ih (i + 1) (by omega)
      unfold cnt at nx
      rw [e5] at nx
      rw [f1]
      have e6 : (nI a = 1) = (a = 1) := z_eq (b := 1) (by omega) (by omega)
      simp only [e6]
      rw [b2_nI (s.testBit c), b2_nI (decide (a = 1))]
      simp only [b2_eq]
      rw [b2_nI (decide (s.testBit c = decide (a = 1))), b2_nI (s.testBit b)]
      simp only [b2_eq]
      rw [b2i_nI, nI_1]
      simp only [decide_eq_true_eq] at nx
      exact nx
  exact w_X12_against tz (loop _ 0 (Nat.zero_add _))
end FIT
