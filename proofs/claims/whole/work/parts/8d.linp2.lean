/-! lines: rows kept, the whole text -/
section PRS2
variable {t : Nat → Nat} {n s s' k w a b q : Nat} {F F' : Nat × Nat} {r r' : Nat → Int32}
theorem keepR_at {cn fr most c : Nat} {x y z : Int32} (hc : gN r cn = c) (hm : c ≠ most) (hf : cn < fr) (h9 : c < 1000) : keepR r cn fr most x y z cn = nI (c + 1) ∧ gN (keepR r cn fr most x y z) cn = c + 1 ∧ keepR r cn fr most x y z (fr + 3 * c) = x ∧ keepR r cn fr most x y z (fr + 3 * c + 1) = y ∧ keepR r cn fr most x y z (fr + 3 * c + 2) = z ∧ ∀ j, j ≠ cn → j ≠ fr + 3 * c → j ≠ fr + 3 * c + 1 → j ≠ fr + 3 * c + 2 → keepR r cn fr most x y z j = r j := by
  have e : keepR r cn fr most x y z = up1 (up1 (up1 (up1 r (fr + 3 * c) x) (fr + 3 * c + 1) y) (fr + 3 * c + 2) z) cn (nI (c + 1)) := by unfold keepR; rw [hc, if_neg hm]
  rw [e]
  refine ⟨up1_s _ _ _, gN_up1s (by omega), ?_, ?_, ?_, fun j h1 h2 h3 h4 => ?_⟩
  · rw [up1_n _ _ (by omega), up1_n _ _ (by omega), up1_n _ _ (by omega), up1_s]
  · rw [up1_n _ _ (by omega), up1_n _ _ (by omega), up1_s]
  · rw [up1_n _ _ (by omega), up1_s]
  · rw [up1_n _ _ h1, up1_n _ _ h4, up1_n _ _ h3, up1_n _ _ h2]
theorem prN_keep {x y z : Int32} (P : prN r) (h4 : gN r 0 ≠ 40) (hx : ∃ a, x = nI a ∧ ((a = 6 ∧ y = -1 ∧ z = -1) ∨ (a < 3 ∧ z = -1 ∧ ∃ p, p < 6 ∧ y = nI p) ∨ (3 ≤ a ∧ a < 6 ∧ ∃ p w, p < 6 ∧ w < 4 ∧ y = nI p ∧ z = nI w))) : prN (keepR r 0 1 40 x y z) := by
  obtain ⟨p0, p1, p2⟩ := P
  obtain ⟨k1, k2, k3, k4, k5, k6⟩ := keepR_at (r := r) (cn := 0) (fr := 1) (most := 40) (x := x) (y := y) (z := z) rfl h4 (by omega) (by omega)
  refine ⟨by rw [k1, k2], by omega, fun i hi => ?_⟩
  rw [k2] at hi
  by_cases e : i = gN r 0
  · subst e
    rw [show 2 + 3 * gN r 0 = 1 + 3 * gN r 0 + 1 by omega, show 3 + 3 * gN r 0 = 1 + 3 * gN r 0 + 2 by omega, k3, k4, k5]
    exact hx
  · rw [k6 _ (by omega) (by omega) (by omega) (by omega), k6 _ (by omega) (by omega) (by omega) (by omega), k6 _ (by omega) (by omega) (by omega) (by omega)]
    exact p2 i (by omega)
theorem prS_keep (P : prS r) (h4 : gN r 0 ≠ 10) (hw : w < 2) (ha : a < 8) (hb : b < 8) : prS (keepR r 0 1 10 (nI w) (nI a) (nI b)) := by
  obtain ⟨p0, p1, p2⟩ := P
  obtain ⟨k1, k2, k3, k4, k5, k6⟩ := keepR_at (r := r) (cn := 0) (fr := 1) (most := 10) (x := nI w) (y := nI a) (z := nI b) rfl h4 (by omega) (by omega)
  refine ⟨by rw [k1, k2], by omega, fun i hi => ?_⟩
  rw [k2] at hi
  by_cases e : i = gN r 0
  · subst e
    rw [show 2 + 3 * gN r 0 = 1 + 3 * gN r 0 + 1 by omega, show 3 + 3 * gN r 0 = 1 + 3 * gN r 0 + 2 by omega, k3, k4, k5]
    exact ⟨w, a, b, hw, ha, hb, rfl, rfl, rfl⟩
  · rw [k6 _ (by omega) (by omega) (by omega) (by omega), k6 _ (by omega) (by omega) (by omega) (by omega), k6 _ (by omega) (by omega) (by omega) (by omega)]
    exact p2 i (by omega)
theorem prT_voice (P : prT r) (h1 : 1 ≤ a) (h8 : a ≤ 8) : prT (up1 r 0 (nI a)) := by
  obtain ⟨p1, p2, p3, p4, p5, p6, p7, p8⟩ := P
  have E : ∀ j, j ≠ 0 → up1 r 0 (nI a) j = r j := fun j h => up1_n _ _ h
  have G : ∀ j, j ≠ 0 → gN (up1 r 0 (nI a)) j = gN r j := fun j h => gN_up1 h
  have g0 : gN (up1 r 0 (nI a)) 0 = a := gN_up1s (by omega)
  have e0 : up1 r 0 (nI a) 0 = nI a := up1_s _ _ _
  generalize up1 r 0 (nI a) = r' at *
  refine ⟨by rw [E 2 (by omega), G 2 (by omega)]; exact p1, by rw [G 2 (by omega)]; exact p2, by rw [e0, g0], by omega, by omega, by rw [E 1 (by omega), G 1 (by omega)]; exact p6, fun i hi => ?_, ?_⟩
  · rw [G 2 (by omega)] at hi
    rw [E _ (by omega), E _ (by omega), E _ (by omega)]; exact p7 i hi
  · refine farR_same p8 (E _ (by omega)) fun w => ?_
    have q1 : ∀ i, gN r' (4 + 3 * i) = gN r (4 + 3 * i) := fun i => G _ (by omega)
    have q2 : ∀ i, gN r' (5 + 3 * i) = gN r (5 + 3 * i) := fun i => G _ (by omega)
    unfold inV
    rw [G 2 (by omega)]
    simp only [q1, q2]
theorem prT_thieves (P : prT r) (h8 : a ≤ 8) : prT (up1 r 1 (nI a)) := by
  obtain ⟨p1, p2, p3, p4, p5, p6, p7, p8⟩ := P
  have E : ∀ j, j ≠ 1 → up1 r 1 (nI a) j = r j := fun j h => up1_n _ _ h
  have G : ∀ j, j ≠ 1 → gN (up1 r 1 (nI a)) j = gN r j := fun j h => gN_up1 h
  have g0 : gN (up1 r 1 (nI a)) 1 = a := gN_up1s (by omega)
  have e0 : up1 r 1 (nI a) 1 = nI a := up1_s _ _ _
  generalize up1 r 1 (nI a) = r' at *
  refine ⟨by rw [E 2 (by omega), G 2 (by omega)]; exact p1, by rw [G 2 (by omega)]; exact p2, by rw [E 0 (by omega), G 0 (by omega)]; exact p3, by rw [G 0 (by omega)]; exact p4, by rw [G 0 (by omega)]; exact p5, Or.inr ⟨by rw [e0, g0], by omega⟩, fun i hi => ?_, ?_⟩
  · rw [G 2 (by omega)] at hi
    rw [E _ (by omega), E _ (by omega), E _ (by omega)]; exact p7 i hi
  · refine farR_same p8 (E _ (by omega)) fun w => ?_
    have q1 : ∀ i, gN r' (4 + 3 * i) = gN r (4 + 3 * i) := fun i => G _ (by omega)
    have q2 : ∀ i, gN r' (5 + 3 * i) = gN r (5 + 3 * i) := fun i => G _ (by omega)
    unfold inV
    rw [G 2 (by omega)]
    simp only [q1, q2]
theorem prT_keep (P : prT r) (h4 : gN r 2 ≠ 12) (hw : w < 2) (ha : a < 8) (hb : b < 8) : prT (keepR (up1 r 202 (grI (r 202) (grI (nI a) (nI b)))) 2 3 12 (nI w) (nI a) (nI b)) := by
  obtain ⟨p1, p2, p3, p4, p5, p6, p7, p8⟩ := P
  have gq : gN (up1 r 202 (grI (r 202) (grI (nI a) (nI b)))) 2 = gN r 2 := gN_up1 (by omega)
  obtain ⟨k1, k2, k3, k4, k5, k6⟩ := keepR_at (r := up1 r 202 (grI (r 202) (grI (nI a) (nI b)))) (cn := 2) (fr := 3) (most := 12) (x := nI w) (y := nI a) (z := nI b) gq h4 (by omega) (by omega)
  have E : ∀ j, j ≠ 202 → j ≠ 2 → j ≠ 3 + 3 * gN r 2 → j ≠ 3 + 3 * gN r 2 + 1 → j ≠ 3 + 3 * gN r 2 + 2 → keepR (up1 r 202 (grI (r 202) (grI (nI a) (nI b)))) 2 3 12 (nI w) (nI a) (nI b) j = r j := fun j h0 h1 h2 h3 h4 => by rw [k6 j h1 h2 h3 h4, up1_n _ _ h0]
  have G : ∀ j, j ≠ 202 → j ≠ 2 → j ≠ 3 + 3 * gN r 2 → j ≠ 3 + 3 * gN r 2 + 1 → j ≠ 3 + 3 * gN r 2 + 2 → gN (keepR (up1 r 202 (grI (r 202) (grI (nI a) (nI b)))) 2 3 12 (nI w) (nI a) (nI b)) j = gN r j := fun j h0 h1 h2 h3 h4 => by unfold gN; rw [E j h0 h1 h2 h3 h4]
  have f2 : keepR (up1 r 202 (grI (r 202) (grI (nI a) (nI b)))) 2 3 12 (nI w) (nI a) (nI b) 202 = grI (r 202) (nI (max a b)) := by rw [k6 _ (by omega) (by omega) (by omega) (by omega), up1_s, gr_two a ha b hb]
  generalize keepR (up1 r 202 (grI (r 202) (grI (nI a) (nI b)))) 2 3 12 (nI w) (nI a) (nI b) = r' at *
  have ga : gN r' (3 + 3 * gN r 2 + 1) = a := gN_of k4 (by omega)
  have gb : gN r' (3 + 3 * gN r 2 + 2) = b := gN_of k5 (by omega)
  refine ⟨by rw [k1, k2], by omega, by rw [E 0 (by omega) (by omega) (by omega) (by omega) (by omega), G 0 (by omega) (by omega) (by omega) (by omega) (by omega)]; exact p3, by rw [G 0 (by omega) (by omega) (by omega) (by omega) (by omega)]; exact p4, by rw [G 0 (by omega) (by omega) (by omega) (by omega) (by omega)]; exact p5, by rw [E 1 (by omega) (by omega) (by omega) (by omega) (by omega), G 1 (by omega) (by omega) (by omega) (by omega) (by omega)]; exact p6, fun i hi => ?_, ?_⟩
  · rw [k2] at hi
    by_cases e : i = gN r 2
    · subst e
      rw [show 4 + 3 * gN r 2 = 3 + 3 * gN r 2 + 1 by omega, show 5 + 3 * gN r 2 = 3 + 3 * gN r 2 + 2 by omega, k3, k4, k5]
      exact ⟨w, a, b, hw, ha, hb, rfl, rfl, rfl⟩
    · rw [E _ (by omega) (by omega) (by omega) (by omega) (by omega), E _ (by omega) (by omega) (by omega) (by omega) (by omega), E _ (by omega) (by omega) (by omega) (by omega) (by omega)]
      exact p7 i (by omega)
  · refine farR_step p8 f2 (by omega) (fun w' => ?_) inV_up
    unfold inV
    rw [k2]
    constructor
    · intro h
      refine ⟨fun i hi => ?_, ?_⟩
      · have := h i (by omega)
        rw [G _ (by omega) (by omega) (by omega) (by omega) (by omega), G _ (by omega) (by omega) (by omega) (by omega) (by omega)] at this
        exact this
      · have := h (gN r 2) (by omega)
        rw [show 4 + 3 * gN r 2 = 3 + 3 * gN r 2 + 1 by omega, show 5 + 3 * gN r 2 = 3 + 3 * gN r 2 + 2 by omega, ga, gb] at this
        omega
    · rintro ⟨h1, h2⟩ i hi
      by_cases e : i = gN r 2
      · subst e
        rw [show 4 + 3 * gN r 2 = 3 + 3 * gN r 2 + 1 by omega, show 5 + 3 * gN r 2 = 3 + 3 * gN r 2 + 2 by omega, ga, gb]
        omega
      · rw [G _ (by omega) (by omega) (by omega) (by omega) (by omega), G _ (by omega) (by omega) (by omega) (by omega) (by omega)]
        exact h1 i (by omega)
/-- a line keeps what a draft is -/
theorem lnA_pr (hk : k < 4) (h : lnA k t n s F r = .inr (s', F', r')) (h0 : F'.1 = 0) (P : F.1 = 0 → prA k r) : prA k r' := by
  unfold lnA at h
  unfold prA at P ⊢
  rcases (show k = 0 ∨ k = 1 ∨ k = 2 ∨ k = 3 by omega) with rfl | rfl | rfl | rfl
  · rw [if_pos rfl] at h P ⊢
    unfold lnC at h
    cases hw : wdO t n 0 s with
    | none => rw [hw] at h; cases h
    | some w =>
      rw [hw] at h
      dsimp only at h
      obtain ⟨-, w12⟩ := wd_le (by decide) hw
      split at h
      · obtain ⟨z0, x, y, x1, x2, y1, y2, rfl⟩ := num2_0 h (by decide) (by decide) h0
        exact prC_size (P z0) ⟨x1, x2⟩ ⟨y1, y2⟩
      · split at h
        · obtain ⟨z0, x, x1, x2, rfl⟩ := num1_0 h (by decide) h0
          exact prC_wind (P z0) x2
        · split at h
          · cases hc : wdO t n 1 (nx t n s) with
            | none => rw [hc] at h; cases h
            | some c =>
              rw [hc] at h
              dsimp only at h
              obtain ⟨c4, -⟩ := wd_le (by decide) hc
              obtain ⟨z0, x, x1, x2, rfl⟩ := num1_0 h (by decide) h0
              exact prC_value (P z0) c4 x2
          · split at h
            · rename_i q4
              obtain ⟨z0, x, y, x1, x2, y1, y2, rfl⟩ := num2_0 h (by decide) (by decide) h0
              obtain ⟨z1, z2, -⟩ := fullF_0 z0
              exact prC_player (P z1) z2 q4 (by omega) (by omega)
            · split at h
              · obtain ⟨z0, x, y, x1, x2, y1, y2, rfl⟩ := num2_0 h (by decide) (by decide) h0
                obtain ⟨z1, z2, -⟩ := fullF_0 z0
                exact prC_person (P z1) z2 (by omega) (by omega) (by omega)
              · obtain ⟨z0, x, y, x1, x2, y1, y2, rfl⟩ := num2_0 h (by decide) (by decide) h0
                exact prC_wall (P z0) (by omega) (by omega)
  · rw [if_neg (by omega), if_pos rfl] at h P ⊢
    unfold lnN at h
    cases hw : wdO t n 2 s with
    | none => rw [hw] at h; cases h
    | some w =>
      rw [hw] at h
      dsimp only at h
      obtain ⟨w7, -⟩ := wd_le (by decide) hw
      have w7 : w < 7 := w7
      split at h
      · rename_i q6
        cases h
        obtain ⟨z1, z2, -⟩ := fullF_0 h0
        exact prN_keep (P z1) z2 ⟨w, rfl, Or.inl ⟨q6, rfl, rfl⟩⟩
      · split at h
        · rename_i q3
          obtain ⟨z0, x, x1, x2, rfl⟩ := num1_0 h (by decide) h0
          obtain ⟨z1, z2, -⟩ := fullF_0 z0
          exact prN_keep (P z1) z2 ⟨w, rfl, Or.inr (Or.inl ⟨q3, rfl, x, by omega, rfl⟩)⟩
        · obtain ⟨z0, x, y, x1, x2, y1, y2, rfl⟩ := num2_0 h (by decide) (by decide) h0
          obtain ⟨z1, z2, -⟩ := fullF_0 z0
          exact prN_keep (P z1) z2 ⟨w, rfl, Or.inr (Or.inr ⟨by omega, by omega, x, y, by omega, by omega, rfl, rfl⟩)⟩
  · rw [if_neg (by omega), if_neg (by omega), if_pos rfl] at h P ⊢
    unfold lnT at h
    cases hw : wdO t n 3 s with
    | none => rw [hw] at h; cases h
    | some w =>
      rw [hw] at h
      dsimp only at h
      obtain ⟨w4, -⟩ := wd_le (by decide) hw
      have w4 : w < 4 := w4
      split at h
      · obtain ⟨z0, x, x1, x2, rfl⟩ := num1_0 h (by decide) h0
        exact prT_voice (P z0) x1 x2
      · split at h
        · obtain ⟨z0, x, x1, x2, rfl⟩ := num1_0 h (by decide) h0
          exact prT_thieves (P z0) x2
        · obtain ⟨z0, x, y, x1, x2, y1, y2, rfl⟩ := num2_0 h (by decide) (by decide) h0
          obtain ⟨z1, z2, -⟩ := fullF_0 z0
          exact prT_keep (P z1) z2 (by omega) (by omega) (by omega)
  · rw [if_neg (by omega), if_neg (by omega), if_neg (by omega)] at h P ⊢
    unfold lnS at h
    cases hw : wdO t n 4 s with
    | none => rw [hw] at h; cases h
    | some w =>
      rw [hw] at h
      dsimp only at h
      obtain ⟨w2, -⟩ := wd_le (by decide) hw
      obtain ⟨z0, x, y, x1, x2, y1, y2, rfl⟩ := num2_0 h (by decide) (by decide) h0
      obtain ⟨z1, z2, -⟩ := fullF_0 z0
      exact prS_keep (P z1) z2 w2 (by omega) (by omega)
/-! the whole text -/
def lnsF (k : Nat) (t : Nat → Nat) (n : Nat) : Nat → Nat → Nat × Nat → (Nat → Int32) → LRT
  | 0, s, F, r => .inr (s, F, r)
  | q + 1, s, F, r => if tkK t n s = 0 then .inr (s, F, r) else match semR t n (lnA k t n s F r) with
    | .inl p => .inl p
    | .inr (s', F', r') => lnsF k t n q s' F' r'
theorem semR_i {R : LRT} (h : semR t n R = .inr (s', F', r')) : ∃ s1, R = .inr (s1, F', r') ∧ tkK t n s1 = 3 ∧ s' = nx t n s1 := by
  cases R with
  | inl p => cases h
  | inr v =>
    obtain ⟨s1, F1, r1⟩ := v
    have h : (if tkK t n s1 = 3 then (.inr (nx t n s1, F1, r1) : LRT) else .inl s1) = .inr (s', F', r') := h
    split at h
    · rename_i q
      cases h
      exact ⟨s1, rfl, q, rfl⟩
    · cases h
theorem semR_s (h : semR t n (lnA k t n s F r) = .inr (s', F', r')) : s < s' ∧ s' ≤ n := by
  obtain ⟨s1, h1, h2, rfl⟩ := semR_i h
  have := lnA_s h1
  have := st1 (t := t) (n := n) (s := s1) (by omega)
  omega
theorem semR_pr (hk : k < 4) (h : semR t n (lnA k t n s F r) = .inr (s', F', r')) (P : F.1 = 0 → prA k r) : F'.1 = 0 → prA k r' := by
  obtain ⟨s1, h1, h2, rfl⟩ := semR_i h
  exact fun h0 => lnA_pr hk h1 h0 P
def blkR (k : Nat) : Nat → Int32 := fun i => if 200 ≤ i ∧ i ≤ 202 then -1 else if k = 0 then (if i < 2 then 6 else if i = 2 then 4 else if 5 ≤ i ∧ i < 9 then 3 else 0) else if k = 2 then (if i = 0 then 4 else if i = 1 then -1 else 0) else 0
theorem blkR_pr (hk : k < 4) : prA k (blkR k) := by
  unfold prA
  rcases (show k = 0 ∨ k = 1 ∨ k = 2 ∨ k = 3 by omega) with rfl | rfl | rfl | rfl
  · rw [if_pos rfl]
    have c0 : ∀ j, j < 53 → blkR 0 j = nI (gN (blkR 0) j) ∧ gN (blkR 0) j < 256 := by decide +kernel
    have g3 : gN (blkR 0) 3 = 0 := by decide
    have g4 : gN (blkR 0) 4 = 0 := by decide
    have gw : ∀ y, y < 8 → gN (blkR 0) (45 + y) = 0 := by decide +kernel
    refine ⟨c0, by decide, by decide, by decide, by rw [g3]; omega, by rw [g4]; omega, by decide +kernel, fun p hp => by omega, fun p hp => by omega, ⟨0, by omega, by decide, ⟨fun p hp => by omega, fun p hp => by omega, fun y x hy hx => ?_⟩, fun w _ => by omega⟩, ⟨0, by omega, by decide, ⟨fun p hp => by omega, fun p hp => by omega, fun y x hy hx => ?_⟩, fun w _ => by omega⟩⟩
    · rw [gw y hy, Nat.zero_testBit] at hx; cases hx
    · rw [gw y hy, Nat.zero_testBit] at hx; cases hx
  · rw [if_neg (by omega), if_pos rfl]
    have g0 : gN (blkR 1) 0 = 0 := by decide
    exact ⟨by decide, by omega, fun i hi => by omega⟩
  · rw [if_neg (by omega), if_neg (by omega), if_pos rfl]
    have g2 : gN (blkR 2) 2 = 0 := by decide
    exact ⟨by decide, by omega, by decide, by decide, by decide, Or.inl (by decide), fun i hi => by omega, ⟨0, by omega, by decide, fun i hi => by omega, fun w _ => by omega⟩⟩
  · rw [if_neg (by omega), if_neg (by omega), if_neg (by omega)]
    have g0 : gN (blkR 3) 0 = 0 := by decide
    exact ⟨by decide, by omega, fun i hi => by omega⟩
def wldR (r : Nat → Int32) : Prop := (∃ p, p < gN r 3 ∧ (gN r (45 + gN r (21 + p))).testBit (gN r (15 + p)) = true) ∨ ∃ p, p < gN r 4 ∧ (gN r (45 + gN r (39 + p))).testBit (gN r (33 + p)) = true
/-- the FAULT at the end's place -/
def endE (k : Nat) (r : Nat → Int32) (f : Nat) : Prop :=
  if k = 0 then (¬ (inC r (gN r 0) ∧ inR r (gN r 1)) ∧ f = 4) ∨ ((inC r (gN r 0) ∧ inR r (gN r 1)) ∧ wldR r ∧ f = 5) ∨ ((inC r (gN r 0) ∧ inR r (gN r 1)) ∧ ¬ wldR r ∧ f = 0)
  else if k = 2 then (¬ inV r (gN r 0) ∧ f = 4) ∨ (inV r (gN r 0) ∧ f = 0) else f = 0
def okA (k : Nat) (r : Nat → Int32) : Prop := if k = 0 then okC r else if k = 1 then okN r else if k = 2 then okT r else okS r
theorem endE_fun {f f' : Nat} (h : endE k r f) (h' : endE k r f') : f = f' := by
  unfold endE at h h'
  split at h
  · rename_i k0
    rw [if_pos k0] at h'
    rcases h with ⟨a1, a2⟩ | ⟨a1, a2, a3⟩ | ⟨a1, a2, a3⟩ <;> rcases h' with ⟨b1, b2⟩ | ⟨b1, b2, b3⟩ | ⟨b1, b2, b3⟩
    · omega
    · exact absurd b1 a1
    · exact absurd b1 a1
    · exact absurd a1 b1
    · omega
    · exact absurd a2 b2
    · exact absurd a1 b1
    · exact absurd b2 a2
    · omega
  · rename_i k0
    rw [if_neg k0] at h'
    split at h
    · rename_i k2
      rw [if_pos k2] at h'
      rcases h with ⟨a1, a2⟩ | ⟨a1, a2⟩ <;> rcases h' with ⟨b1, b2⟩ | ⟨b1, b2⟩
      · omega
      · exact absurd b1 a1
      · exact absurd a1 b1
      · omega
    · rename_i k2
      rw [if_neg k2] at h'
      omega
theorem endE_ok (P : prA k r) (h : endE k r 0) : okA k r := by
  unfold prA at P
  unfold endE at h
  unfold okA
  split at P
  · rename_i k0
    rw [if_pos k0] at h ⊢
    obtain ⟨p1, p2, p3, p4, p5, p6, p7, p8, p9, p10, p11⟩ := P
    rcases h with ⟨_, a2⟩ | ⟨_, _, a3⟩ | ⟨⟨c1, c2⟩, a2, -⟩
    · omega
    · omega
    · refine ⟨p1, p2, p3, p4, p5, p6, p7, fun p hp => ⟨(p8 p hp).1, c1.1 p hp, c2.1 p hp, ?_⟩, fun p hp => ⟨(p9 p hp).1, c1.2.1 p hp, c2.2.1 p hp, ?_⟩, fun y x hy hx => ⟨c1.2.2 y x hy hx, c2.2.2 y x hy hx⟩⟩
      · cases e : (gN r (45 + gN r (21 + p))).testBit (gN r (15 + p)) with
        | false => rfl
        | true => exact absurd (Or.inl ⟨p, hp, e⟩) a2
      · cases e : (gN r (45 + gN r (39 + p))).testBit (gN r (33 + p)) with
        | false => rfl
        | true => exact absurd (Or.inr ⟨p, hp, e⟩) a2
  · rename_i k0
    rw [if_neg k0] at h ⊢
    split at P
    · rename_i k1
      rw [if_pos k1]
      exact P.2
    · rename_i k1
      rw [if_neg k1]
      split at P
      · rename_i k2
        rw [if_pos k2] at h ⊢
        obtain ⟨p1, p2, p3, p4, p5, p6, p7, p8⟩ := P
        rcases h with ⟨_, a2⟩ | ⟨a1, -⟩
        · omega
        · refine ⟨p2, p3, p4, p5, p6, fun i hi => ?_⟩
          obtain ⟨a, b, c, h1, h2, h3, e1, e2, e3⟩ := p7 i hi
          have := a1 i hi
          rw [gN_of e2 (by omega), gN_of e3 (by omega)] at this
          exact ⟨a, b, c, h1, this.1, this.2, e1, e2, e3⟩
      · rename_i k2
        rw [if_neg k2]
        exact P.2
/-- what a text is told as: FAULT, place, row -/
def txR (k : Nat) (t : Nat → Nat) (n : Nat) (f p : Int32) (r : Nat → Int32) : Prop := match lnsF k t n 601 (tkS t n 0) (0, 0) (blkR k) with
  | .inl q => f = 1 ∧ p = nI q
  | .inr (_, F, r') => if F.1 = 0 then ∃ e, endE k r' e ∧ e < 6 ∧ f = nI e ∧ (e = 0 → p = -1 ∧ r = r' ∧ okA k r') ∧ (e ≠ 0 → p = nI n) else f = nI F.1 ∧ F.1 < 6 ∧ p = nI F.2
theorem txR_fun {f p f' p' : Int32} (h : txR k t n f p r) (h' : txR k t n f' p' r') : f = f' ∧ p = p' ∧ (f = 0 → r = r' ∧ okA k r) := by
  unfold txR at h h'
  generalize lnsF k t n 601 (tkS t n 0) (0, 0) (blkR k) = R at h h'
  cases R with
  | inl q =>
    obtain ⟨a1, a2⟩ := h
    obtain ⟨b1, b2⟩ := h'
    exact ⟨a1.trans b1.symm, a2.trans b2.symm, fun h => absurd (a1.symm.trans h) (by decide)⟩
  | inr v =>
    obtain ⟨s, F, r1⟩ := v
    dsimp only at h h'
    by_cases h0 : F.1 = 0
    · rw [if_pos h0] at h h'
      obtain ⟨e, e1, e2, e3, e4, e5⟩ := h
      obtain ⟨e', g1, g2, g3, g4, g5⟩ := h'
      have := endE_fun e1 g1
      subst this
      refine ⟨e3.trans g3.symm, ?_, fun hf => ?_⟩
      · by_cases q : e = 0
        · rw [(e4 q).1, (g4 q).1]
        · rw [e5 q, g5 q]
      · have : e = 0 := by
          have h2 : nI e = nI 0 := e3.symm.trans hf
          have h3 : (nI e = nI 0) = (e = 0) := z_eq (by omega) (by omega)
          rwa [h3] at h2
        obtain ⟨-, a1, a2⟩ := e4 this
        obtain ⟨-, b1, -⟩ := g4 this
        exact ⟨a1.trans b1.symm, a1 ▸ a2⟩
    · rw [if_neg h0] at h h'
      refine ⟨h.1.trans h'.1.symm, h.2.2.trans h'.2.2.symm, fun hf => ?_⟩
      have h2 : nI F.1 = nI 0 := h.1.symm.trans hf
      have h3 : (nI F.1 = nI 0) = (F.1 = 0) := z_eq (by omega) (by omega)
      rw [h3] at h2
      exact absurd h2 h0
end PRS2
