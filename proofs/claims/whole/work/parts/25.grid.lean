/-! cells and spots: the grid -/
def clC (r : Nat → Int32) (x y : Nat) : Nat := gN r 0 * y + x
theorem clC_mod {r : Nat → Int32} {x y : Nat} (hx : x < gN r 0) : clC r x y % gN r 0 = x := by
  unfold clC; rw [Nat.mul_add_mod]; exact Nat.mod_eq_of_lt hx
theorem clC_div {r : Nat → Int32} {x y : Nat} (hx : x < gN r 0) : clC r x y / gN r 0 = y := by
  unfold clC; rw [Nat.mul_add_div (by omega), Nat.div_eq_of_lt hx, Nat.add_zero]
theorem clC_lt {r : Nat → Int32} {x y : Nat} (hx : x < gN r 0) (hy : y < gN r 1) : clC r x y < cells r := by
  unfold clC cells
  calc gN r 0 * y + x < gN r 0 * y + gN r 0 := by omega
    _ = gN r 0 * (y + 1) := by rw [Nat.mul_add, Nat.mul_one]
    _ ≤ gN r 0 * gN r 1 := Nat.mul_le_mul_left _ hy
theorem clC_of {r : Nat → Int32} (c : Nat) : clC r (c % gN r 0) (c / gN r 0) = c := by unfold clC; exact Nat.div_add_mod c _
theorem clC_inj {r : Nat → Int32} {x y x' y' : Nat} (hx : x < gN r 0) (hx' : x' < gN r 0) (h : clC r x y = clC r x' y') : x = x' ∧ y = y' := by
  have h1 := clC_mod (r := r) (y := y) hx
  have h2 := clC_div (r := r) (y := y) hx
  rw [h, clC_mod hx'] at h1
  rw [h, clC_div hx'] at h2
  exact ⟨h1.symm, h2.symm⟩
theorem wlC_xy {r : Nat → Int32} {x y : Nat} (hx : x < gN r 0) : wlC r (clC r x y) = (gN r (45 + y)).testBit x := by
  unfold wlC; rw [clC_mod hx, clC_div hx]
theorem nxt_xy {r : Nat → Int32} {x y : Nat} (hx : x < gN r 0) (hy : y < gN r 1) (w : Nat) (hw : w < 4) : nxt r (clC r x y) w =
    if w = 0 then (if y = 0 then none else some (clC r x (y - 1)))
    else if w = 1 then (if x + 1 = gN r 0 then none else some (clC r (x + 1) y))
    else if w = 2 then (if y + 1 = gN r 1 then none else some (clC r x (y + 1)))
    else (if x = 0 then none else some (clC r (x - 1) y)) := by
  unfold nxt
  rw [clC_mod hx]
  have hs : ∀ n, clC r x (n + 1) = clC r x n + gN r 0 := fun n => by unfold clC; rw [Nat.mul_add, Nat.mul_one]; omega
  split
  · cases y with
    | zero => rw [if_neg (by unfold clC; omega), if_pos rfl]
    | succ y =>
      rw [if_pos (by rw [hs]; omega), if_neg (by omega), hs]
      simp
  · split
    · split
      · rfl
      · congr 1
    · split
      · by_cases h : y + 1 = gN r 1
        · rw [if_pos h, if_neg]
          rw [← hs, h]
          unfold cells clC; omega
        · have := clC_lt (r := r) (y := y + 1) hx (by omega)
          rw [if_neg h, ← hs, if_pos this]
      · rw [if_pos (by omega)]
        split
        · rfl
        · unfold clC; congr 1; omega
/-- a spot of the grid of 8 by 8 that is inside -/
def inS (r : Nat → Int32) (s : Nat) : Prop := s % 8 < gN r 0 ∧ s / 8 < gN r 1
/-- its cell -/
def ceS (r : Nat → Int32) (s : Nat) : Nat := clC r (s % 8) (s / 8)
/-- a cell's spot -/
def spC (r : Nat → Int32) (c : Nat) : Nat := 8 * (c / gN r 0) + c % gN r 0
theorem spC_xy {r : Nat → Int32} {x y : Nat} (hx : x < gN r 0) : spC r (clC r x y) = 8 * y + x := by unfold spC; rw [clC_mod hx, clC_div hx]
section GRID
variable {r : Nat → Int32} (O : okC r)
theorem inS_of {x y : Nat} (O : okC r) (hx : x < gN r 0) (hy : y < gN r 1) : inS r (8 * y + x) ∧ ceS r (8 * y + x) = clC r x y ∧ 8 * y + x < 64 := by
  have := O.w
  have h1 : (8 * y + x) % 8 = x := by omega
  have h2 : (8 * y + x) / 8 = y := by omega
  unfold inS ceS
  rw [h1, h2]
  exact ⟨⟨hx, hy⟩, rfl, by omega⟩
theorem spC_in {c : Nat} (O : okC r) (hc : c < cells r) : inS r (spC r c) ∧ ceS r (spC r c) = c ∧ spC r c < 64 := by
  obtain ⟨h1, h2⟩ := cell_xy O hc
  have := inS_of O h1 h2
  rw [clC_of] at this
  exact this
theorem ceS_lt {s : Nat} (hs : inS r s) : ceS r s < cells r := clC_lt hs.1 hs.2
theorem spC_ceS {s : Nat} (hs : inS r s) : spC r (ceS r s) = s := by unfold ceS; rw [spC_xy hs.1]; omega
/-- the step to s, seen from s -/
theorem mv_nxt {S : Nat → Bool} (O : okC r) (hS : ∀ s, s < 64 → S s = true → inS r s) {s w : Nat} (hs : inS r s) (hw : w < 4) : mvS S w s = true ↔ ∃ s', s' < 64 ∧ S s' = true ∧ nxt r (ceS r s') w = some (ceS r s) := by
  have hb := O.w
  obtain ⟨h1, h2⟩ := hs
  have key : ∀ s', s' < 64 → S s' = true → (nxt r (ceS r s') w = some (ceS r s) ↔ ((w = 0 ∧ s' = s + 8) ∨ (w = 1 ∧ s' + 1 = s ∧ 0 < s % 8) ∨ (w = 2 ∧ s' + 8 = s) ∨ (w = 3 ∧ s' = s + 1 ∧ s % 8 < 7))) := by
    intro s' hs' hS'
    obtain ⟨g1, g2⟩ := hS s' hs' hS'
    unfold ceS
    rw [nxt_xy g1 g2 w hw]
    constructor
    · intro h
      split at h
      · split at h
        · cases h
        · obtain ⟨e1, e2⟩ := clC_inj g1 h1 (Option.some.inj h)
          left; omega
      · split at h
        · split at h
          · cases h
          · obtain ⟨e1, e2⟩ := clC_inj (by omega) h1 (Option.some.inj h)
            right; left; omega
        · split at h
          · split at h
            · cases h
            · obtain ⟨e1, e2⟩ := clC_inj g1 h1 (Option.some.inj h)
              right; right; left; omega
          · split at h
            · cases h
            · obtain ⟨e1, e2⟩ := clC_inj (by omega) h1 (Option.some.inj h)
              right; right; right; omega
    · intro h
      rcases h with ⟨rfl, rfl⟩ | ⟨rfl, h, h3⟩ | ⟨rfl, h⟩ | ⟨rfl, rfl, h3⟩
      · rw [if_pos rfl, if_neg (by omega)]
        have a1 : (s + 8) % 8 = s % 8 := by omega
        have a2 : (s + 8) / 8 - 1 = s / 8 := by omega
        rw [a1, a2]
      · rw [if_neg (by decide), if_pos rfl, if_neg (by omega)]
        have a1 : s' % 8 + 1 = s % 8 := by omega
        have a2 : s' / 8 = s / 8 := by omega
        rw [a1, a2]
      · rw [if_neg (by decide), if_neg (by decide), if_pos rfl, if_neg (by omega)]
        have a1 : s' % 8 = s % 8 := by omega
        have a2 : s' / 8 + 1 = s / 8 := by omega
        rw [a1, a2]
      · rw [if_neg (by decide), if_neg (by decide), if_neg (by decide), if_neg (by omega)]
        have a1 : (s + 1) % 8 - 1 = s % 8 := by omega
        have a2 : (s + 1) / 8 = s / 8 := by omega
        rw [a1, a2]
  have hs64 : s < 64 := by omega
  constructor
  · intro h
    unfold mvS at h
    split at h
    · simp only [Bool.and_eq_true, decide_eq_true_eq] at h
      exact ⟨s + 8, by omega, h.2, (key _ (by omega) h.2).mpr (Or.inl ⟨by assumption, rfl⟩)⟩
    · split at h
      · simp only [Bool.and_eq_true, decide_eq_true_eq] at h
        exact ⟨s - 1, by omega, h.2, (key _ (by omega) h.2).mpr (Or.inr (Or.inl ⟨by assumption, by omega, h.1⟩))⟩
      · split at h
        · simp only [Bool.and_eq_true, decide_eq_true_eq] at h
          exact ⟨s - 8, by omega, h.2, (key _ (by omega) h.2).mpr (Or.inr (Or.inr (Or.inl ⟨by assumption, by omega⟩)))⟩
        · simp only [Bool.and_eq_true, decide_eq_true_eq] at h
          exact ⟨s + 1, by omega, h.2, (key _ (by omega) h.2).mpr (Or.inr (Or.inr (Or.inr ⟨by omega, rfl, h.1⟩)))⟩
  · rintro ⟨s', hs', hS', hn⟩
    unfold mvS
    rcases (key s' hs' hS').mp hn with ⟨rfl, rfl⟩ | ⟨rfl, h, h3⟩ | ⟨rfl, h⟩ | ⟨rfl, rfl, h3⟩
    · rw [if_pos rfl, hS']; simp; omega
    · rw [if_neg (by decide), if_pos rfl, show s - 1 = s' by omega, hS']; simp [h3]
    · rw [if_neg (by decide), if_neg (by decide), if_pos rfl, show s - 8 = s' by omega, hS']; simp; omega
    · rw [if_neg (by decide), if_neg (by decide), if_neg (by decide), hS']; simp [h3]
end GRID
/-- the class's city, of row r -/
def CC (mi : pm_I) (ml : pm_L) (o : Nat) (r : Nat → Int32) : Prop := mi o 0 = r 0 ∧ mi o 1 = r 1 ∧ mi o 2 = r 2 ∧ mi o 4 = r 3 ∧ mi o 5 = r 4 ∧ (∀ p, p < gN r 3 → mi (o + 1) p = r (9 + p) ∧ mi (o + 2) p = nI (8 * gN r (21 + p) + gN r (15 + p))) ∧
  (∀ p, p < gN r 4 → mi (o + 3) p = r (27 + p) ∧ mi (o + 4) p = nI (8 * gN r (39 + p) + gN r (33 + p))) ∧ (∀ c, c < 4 → mi (o + 5) c = r (5 + c)) ∧ ∀ s, s < 64 → bl (ml o 3) s = (gN r (45 + s / 8)).testBit (s % 8)
theorem CC.same {mi mi' : pm_I} {ml ml' : pm_L} {o : Nat} {r : Nat → Int32} (h : CC mi ml o r) (hi : ∀ a, o ≤ a → a ≤ o + 5 → mi' a = mi a) (hl : ml' o = ml o) : CC mi' ml' o r := by
  unfold CC at h ⊢
  rw [hi o (by omega) (by omega), hi (o + 1) (by omega) (by omega), hi (o + 2) (by omega) (by omega), hi (o + 3) (by omega) (by omega), hi (o + 4) (by omega) (by omega), hi (o + 5) (by omega) (by omega), hl]
  exact h
