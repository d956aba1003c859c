/-! lines: what they keep, where they end -/
section PRS
variable {t : Nat → Nat} {n lo hi lo2 hi2 s s' k w a b : Nat} {F F' : Nat × Nat} {r r' : Nat → Int32} {g : Nat → Nat → Int32} {g2 : Nat → Nat → Nat → Int32}
theorem tk_lt (h : tkK t n s ≠ 0) : s < n := by
  rcases Nat.lt_or_ge s n with q | q
  · exact q
  · exact absurd (tkK_0.mpr q) h
theorem wd_tk (h : wdO t n k s = some w) : tkK t n s = 1 := by
  unfold wdO at h
  split at h
  · assumption
  · cases h
theorem st1 (h : tkK t n s ≠ 0) : s < nx t n s ∧ nx t n s ≤ n := ⟨nx_lt (tk_lt h), nx_le (Nat.le_of_lt (tk_lt h))⟩
theorem num1_i (h : num1 t n lo hi s F g = .inr (s', F', r')) (hl : lo ≤ hi) : F' = nmF t n lo hi s F ∧ ∃ x, lo ≤ x ∧ x ≤ hi ∧ r' = g x := by
  unfold num1 at h
  split at h
  · cases h
    obtain ⟨v1, v2⟩ := nmV_le (t := t) (n := n) (s := s) hl
    exact ⟨rfl, _, v1, v2, rfl⟩
  · cases h
theorem num2_i (h : num2 t n lo hi lo2 hi2 s F g2 = .inr (s', F', r')) (hl : lo ≤ hi) (hl2 : lo2 ≤ hi2) : F' = nmF t n lo2 hi2 (nx t n s) (nmF t n lo hi s F) ∧ ∃ x y, lo ≤ x ∧ x ≤ hi ∧ lo2 ≤ y ∧ y ≤ hi2 ∧ r' = g2 x y := by
  unfold num2 at h
  split at h
  · obtain ⟨v1, v2⟩ := nmV_le (t := t) (n := n) (s := s) hl
    obtain ⟨e3, y, y1, y2, e4⟩ := num1_i h hl2
    exact ⟨e3, _, y, v1, v2, y1, y2, e4⟩
  · cases h
theorem num1_0 (h : num1 t n lo hi s F g = .inr (s', F', r')) (hl : lo ≤ hi) (h0 : F'.1 = 0) : F.1 = 0 ∧ ∃ x, lo ≤ x ∧ x ≤ hi ∧ r' = g x := by
  obtain ⟨e, x⟩ := num1_i h hl
  rw [e] at h0
  exact ⟨(nmF_0 h0).1, x⟩
theorem num2_0 (h : num2 t n lo hi lo2 hi2 s F g2 = .inr (s', F', r')) (hl : lo ≤ hi) (hl2 : lo2 ≤ hi2) (h0 : F'.1 = 0) : F.1 = 0 ∧ ∃ x y, lo ≤ x ∧ x ≤ hi ∧ lo2 ≤ y ∧ y ≤ hi2 ∧ r' = g2 x y := by
  obtain ⟨e, x⟩ := num2_i h hl hl2
  rw [e] at h0
  exact ⟨(nmF_0 (nmF_0 h0).1).1, x⟩
theorem num1_s (h : num1 t n lo hi s F g = .inr (s', F', r')) : s < s' ∧ s' ≤ n := by
  unfold num1 at h
  split at h
  · rename_i q
    cases h
    exact st1 (by omega)
  · cases h
theorem num2_s (h : num2 t n lo hi lo2 hi2 s F g2 = .inr (s', F', r')) : s < s' ∧ s' ≤ n := by
  unfold num2 at h
  split at h
  · rename_i q
    have := st1 (t := t) (n := n) (s := s) (by omega)
    have := num1_s h
    omega
  · cases h
theorem lnC_s (h : lnC t n s F r = .inr (s', F', r')) : s < s' ∧ s' ≤ n := by
  unfold lnC at h
  cases hw : wdO t n 0 s with
  | none => rw [hw] at h; cases h
  | some w =>
    rw [hw] at h
    dsimp only at h
    have a := st1 (t := t) (n := n) (s := s) (by have := wd_tk hw; omega)
    split at h
    · have := num2_s h; omega
    · split at h
      · have := num1_s h; omega
      · split at h
        · cases hc : wdO t n 1 (nx t n s) with
          | none => rw [hc] at h; cases h
          | some c =>
            rw [hc] at h
            dsimp only at h
            have b := st1 (t := t) (n := n) (s := nx t n s) (by have := wd_tk hc; omega)
            have := num1_s h; omega
        · split at h
          · have := num2_s h; omega
          · split at h
            · have := num2_s h; omega
            · have := num2_s h; omega
theorem lnN_s (h : lnN t n s F r = .inr (s', F', r')) : s < s' ∧ s' ≤ n := by
  unfold lnN at h
  cases hw : wdO t n 2 s with
  | none => rw [hw] at h; cases h
  | some w =>
    rw [hw] at h
    dsimp only at h
    have a := st1 (t := t) (n := n) (s := s) (by have := wd_tk hw; omega)
    split at h
    · cases h; exact a
    · split at h
      · have := num1_s h; omega
      · have := num2_s h; omega
theorem lnT_s (h : lnT t n s F r = .inr (s', F', r')) : s < s' ∧ s' ≤ n := by
  unfold lnT at h
  cases hw : wdO t n 3 s with
  | none => rw [hw] at h; cases h
  | some w =>
    rw [hw] at h
    dsimp only at h
    have a := st1 (t := t) (n := n) (s := s) (by have := wd_tk hw; omega)
    split at h
    · have := num1_s h; omega
    · split at h
      · have := num1_s h; omega
      · have := num2_s h; omega
theorem lnS_s (h : lnS t n s F r = .inr (s', F', r')) : s < s' ∧ s' ≤ n := by
  unfold lnS at h
  cases hw : wdO t n 4 s with
  | none => rw [hw] at h; cases h
  | some w =>
    rw [hw] at h
    dsimp only at h
    have a := st1 (t := t) (n := n) (s := s) (by have := wd_tk hw; omega)
    have := num2_s h; omega
theorem lnA_s (h : lnA k t n s F r = .inr (s', F', r')) : s < s' ∧ s' ≤ n := by
  unfold lnA at h
  split at h
  · exact lnC_s h
  · split at h
    · exact lnN_s h
    · split at h
      · exact lnT_s h
      · exact lnS_s h
/-! the draft while no FAULT is told -/
theorem gr_far : ∀ m, m < 9 → ∀ a, a < 8 → grI (nI m - 1) (nI a) = nI (max m (a + 1)) - 1 := by decide +kernel
theorem gr_two : ∀ a, a < 8 → ∀ b, b < 8 → grI (nI a) (nI b) = nI (max a b) := by decide +kernel
theorem farR_step {i : Nat} {ok ok' : Nat → Prop} (H : farR r i ok) (e : r' i = grI (r i) (nI a)) (ha : a < 8) (hk : ∀ w, ok' w ↔ ok w ∧ a < w) (up : ∀ m w, ok m → m ≤ w → ok w) : farR r' i ok' := by
  obtain ⟨m, m8, h1, h2, h3⟩ := H
  refine ⟨max m (a + 1), by omega, by rw [e, h1]; exact gr_far m (by omega) a ha, (hk _).mpr ⟨up m _ h2 (by omega), by omega⟩, fun w hw => ?_⟩
  obtain ⟨g1, g2⟩ := (hk w).mp hw
  have := h3 w g1
  omega
theorem farR_same {i : Nat} {ok ok' : Nat → Prop} (H : farR r i ok) (e : r' i = r i) (hk : ∀ w, ok' w ↔ ok w) : farR r' i ok' := by
  obtain ⟨m, m8, h1, h2, h3⟩ := H
  exact ⟨m, m8, e.trans h1, (hk m).mpr h2, fun w hw => h3 w ((hk w).mp hw)⟩
theorem inC_up : ∀ m w, inC r m → m ≤ w → inC r w := fun m w h hw => ⟨fun p hp => Nat.lt_of_lt_of_le (h.1 p hp) hw, fun p hp => Nat.lt_of_lt_of_le (h.2.1 p hp) hw, fun y x hy hx => Nat.lt_of_lt_of_le (h.2.2 y x hy hx) hw⟩
theorem inR_up : ∀ m w, inR r m → m ≤ w → inR r w := fun m w h hw => ⟨fun p hp => Nat.lt_of_lt_of_le (h.1 p hp) hw, fun p hp => Nat.lt_of_lt_of_le (h.2.1 p hp) hw, fun y x hy hx => Nat.lt_of_lt_of_le (h.2.2 y x hy hx) hw⟩
theorem inV_up : ∀ m w, inV r m → m ≤ w → inV r w := fun m w h hw i hi => ⟨Nat.lt_of_lt_of_le (h i hi).1 hw, Nat.lt_of_lt_of_le (h i hi).2 hw⟩
theorem lit_of {j m : Nat} (h : r j = nI m) (hm : m < 256) : r j = nI (gN r j) ∧ gN r j < 256 := by
  have e := gN_of h (by omega)
  rw [e]; exact ⟨h, hm⟩
/-- head and values alone have changed -/
theorem prC_hd (P : prC r) (e : ∀ j, 3 ≤ j → (j < 5 ∨ 9 ≤ j) → r' j = r j) (h0 : ∃ m, 2 ≤ m ∧ m ≤ 8 ∧ r' 0 = nI m) (h1 : ∃ m, 2 ≤ m ∧ m ≤ 8 ∧ r' 1 = nI m) (h2 : ∃ m, m ≤ 4 ∧ r' 2 = nI m) (hv : ∀ c, c < 4 → ∃ m, m ≤ 9 ∧ r' (5 + c) = nI m) : prC r' := by
  have G : ∀ j, 3 ≤ j → (j < 5 ∨ 9 ≤ j) → gN r' j = gN r j := fun j q1 q2 => by unfold gN; rw [e j q1 q2]
  obtain ⟨m0, a0, b0, c0⟩ := h0
  obtain ⟨m1, a1, b1, c1⟩ := h1
  obtain ⟨m2, b2, c2⟩ := h2
  obtain ⟨p1, p2, p3, p4, p5, p6, p7, p8, p9, p10, p11⟩ := P
  refine ⟨fun j hj => ?_, ?_, ?_, ?_, ?_, ?_, fun c hc => ?_, fun p hp => ?_, fun p hp => ?_, ?_, ?_⟩
  · by_cases j0 : j = 0
    · subst j0; exact lit_of c0 (by omega)
    · by_cases j1 : j = 1
      · subst j1; exact lit_of c1 (by omega)
      · by_cases j2 : j = 2
        · subst j2; exact lit_of c2 (by omega)
        · by_cases j5 : j < 5 ∨ 9 ≤ j
          · rw [G j (by omega) j5, e j (by omega) j5]; exact p1 j hj
          · obtain ⟨m, m9, hm⟩ := hv (j - 5) (by omega)
            rw [show 5 + (j - 5) = j by omega] at hm
            exact lit_of hm (by omega)
  · rw [gN_of c0 (by omega)]; exact ⟨a0, b0⟩
  · rw [gN_of c1 (by omega)]; exact ⟨a1, b1⟩
  · rw [gN_of c2 (by omega)]; exact b2
  · rw [G 3 (by omega) (by omega)]; exact p5
  · rw [G 4 (by omega) (by omega)]; exact p6
  · obtain ⟨m, m9, hm⟩ := hv c hc
    rw [gN_of hm (by omega)]; exact m9
  · rw [G 3 (by omega) (by omega)] at hp
    rw [G _ (by omega) (by omega), G _ (by omega) (by omega), G _ (by omega) (by omega)]; exact p8 p hp
  · rw [G 4 (by omega) (by omega)] at hp
    rw [G _ (by omega) (by omega), G _ (by omega) (by omega), G _ (by omega) (by omega)]; exact p9 p hp
  · refine farR_same p10 (e _ (by omega) (by omega)) fun w => ?_
    have q1 : ∀ p, gN r' (15 + p) = gN r (15 + p) := fun p => G _ (by omega) (by omega)
    have q2 : ∀ p, gN r' (33 + p) = gN r (33 + p) := fun p => G _ (by omega) (by omega)
    have q3 : ∀ p, gN r' (45 + p) = gN r (45 + p) := fun p => G _ (by omega) (by omega)
    unfold inC
    rw [G 3 (by omega) (by omega), G 4 (by omega) (by omega)]
    simp only [q1, q2, q3]
  · refine farR_same p11 (e _ (by omega) (by omega)) fun w => ?_
    have q1 : ∀ p, gN r' (21 + p) = gN r (21 + p) := fun p => G _ (by omega) (by omega)
    have q2 : ∀ p, gN r' (39 + p) = gN r (39 + p) := fun p => G _ (by omega) (by omega)
    have q3 : ∀ p, gN r' (45 + p) = gN r (45 + p) := fun p => G _ (by omega) (by omega)
    unfold inR
    rw [G 3 (by omega) (by omega), G 4 (by omega) (by omega)]
    simp only [q1, q2, q3]
/-- what prC says of head and values, to hand on -/
theorem prC_old (P : prC r) : (∃ m, 2 ≤ m ∧ m ≤ 8 ∧ r 0 = nI m) ∧ (∃ m, 2 ≤ m ∧ m ≤ 8 ∧ r 1 = nI m) ∧ (∃ m, m ≤ 4 ∧ r 2 = nI m) ∧ ∀ c, c < 4 → ∃ m, m ≤ 9 ∧ r (5 + c) = nI m := by
  obtain ⟨p1, p2, p3, p4, p5, p6, p7, -⟩ := P
  exact ⟨⟨_, p2.1, p2.2, (p1 0 (by omega)).1⟩, ⟨_, p3.1, p3.2, (p1 1 (by omega)).1⟩, ⟨_, p4, (p1 2 (by omega)).1⟩, fun c hc => ⟨_, p7 c hc, (p1 _ (by omega)).1⟩⟩
theorem prC_size (P : prC r) (ha : 2 ≤ a ∧ a ≤ 8) (hb : 2 ≤ b ∧ b ≤ 8) : prC (up1 (up1 r 0 (nI a)) 1 (nI b)) := by
  obtain ⟨o0, o1, o2, ov⟩ := prC_old P
  refine prC_hd P (fun j q1 q2 => by rw [up1_n _ _ (by omega), up1_n _ _ (by omega)]) ⟨a, ha.1, ha.2, by rw [up1_n _ _ (by omega), up1_s]⟩ ⟨b, hb.1, hb.2, up1_s _ _ _⟩ ?_ fun c hc => ?_
  · rw [up1_n _ _ (by omega), up1_n _ _ (by omega)]; exact o2
  · rw [up1_n _ _ (by omega), up1_n _ _ (by omega)]; exact ov c hc
theorem prC_wind (P : prC r) (ha : a ≤ 4) : prC (up1 r 2 (nI a)) := by
  obtain ⟨o0, o1, o2, ov⟩ := prC_old P
  refine prC_hd P (fun j q1 q2 => up1_n _ _ (by omega)) ?_ ?_ ⟨a, ha, up1_s _ _ _⟩ fun c hc => ?_
  · rw [up1_n _ _ (by omega)]; exact o0
  · rw [up1_n _ _ (by omega)]; exact o1
  · rw [up1_n _ _ (by omega)]; exact ov c hc
theorem prC_value {c : Nat} (P : prC r) (hc : c < 4) (ha : a ≤ 9) : prC (up1 r (5 + c) (nI a)) := by
  obtain ⟨o0, o1, o2, ov⟩ := prC_old P
  refine prC_hd P (fun j q1 q2 => up1_n _ _ (by omega)) ?_ ?_ ?_ fun c' hc' => ?_
  · rw [up1_n _ _ (by omega)]; exact o0
  · rw [up1_n _ _ (by omega)]; exact o1
  · rw [up1_n _ _ (by omega)]; exact o2
  · by_cases q : c' = c
    · subst q; exact ⟨a, ha, up1_s _ _ _⟩
    · rw [up1_n _ _ (by omega)]; exact ov c' hc'
theorem cellF_2 : cellF r a b 200 = grI (r 200) (nI a) ∧ cellF r a b 201 = grI (r 201) (nI b) := by
  unfold cellF
  refine ⟨?_, ?_⟩
  · rw [up1_n _ _ (by decide), up1_s]
  · rw [up1_s]
/-- walls alone, and what is far, have changed -/
theorem prC_wall (P : prC r) (ha : a < 8) (hb : b < 8) : prC (wallR (cellF r a b) a b) := by
  obtain ⟨p1, p2, p3, p4, p5, p6, p7, p8, p9, p10, p11⟩ := P
  have E : ∀ j, j < 200 → j ≠ 45 + b → wallR (cellF r a b) a b j = r j := fun j h1 h2 => by unfold wallR; rw [up1_n _ _ h2, cellF_n h1]
  have G : ∀ j, j < 200 → j ≠ 45 + b → gN (wallR (cellF r a b) a b) j = gN r j := fun j h1 h2 => by unfold gN; rw [E j h1 h2]
  have w8 := (p1 (45 + b) (by omega)).2
  have p128 : 2 ^ a ≤ 128 := Nat.pow_le_pow_right (n := 2) (by decide) (show a ≤ 7 by omega)
  have hor : gN r (45 + b) ||| 2 ^ a < 256 := Nat.or_lt_two_pow (n := 8) w8 (by omega)
  have es : wallR (cellF r a b) a b (45 + b) = nI (gN r (45 + b) ||| 2 ^ a) := by
    unfold wallR
    rw [up1_s, cellF_g (by omega)]
  have gs : gN (wallR (cellF r a b) a b) (45 + b) = gN r (45 + b) ||| 2 ^ a := gN_of es (by omega)
  have bit : ∀ y x, y < 8 → ((gN (wallR (cellF r a b) a b) (45 + y)).testBit x = true ↔ (gN r (45 + y)).testBit x = true ∨ (y = b ∧ x = a)) := fun y x hy => by
    by_cases q : y = b
    · subst q
      rw [gs, Nat.testBit_or, Nat.testBit_two_pow, Bool.or_eq_true, decide_eq_true_eq]
      constructor
      · rintro (h | h)
        · exact Or.inl h
        · exact Or.inr ⟨rfl, h.symm⟩
      · rintro (h | h)
        · exact Or.inl h
        · exact Or.inr h.2.symm
    · rw [G _ (by omega) (by omega)]
      exact ⟨Or.inl, fun h => h.resolve_right fun z => q z.1⟩
  have f0 : wallR (cellF r a b) a b 200 = grI (r 200) (nI a) := by unfold wallR; rw [up1_n _ _ (by omega)]; exact cellF_2.1
  have f1 : wallR (cellF r a b) a b 201 = grI (r 201) (nI b) := by unfold wallR; rw [up1_n _ _ (by omega)]; exact cellF_2.2
  generalize wallR (cellF r a b) a b = r' at *
  refine ⟨fun j hj => ?_, ?_, ?_, ?_, ?_, ?_, fun c hc => ?_, fun p hp => ?_, fun p hp => ?_, ?_, ?_⟩
  · by_cases q : j = 45 + b
    · subst q; exact lit_of es hor
    · rw [E j (by omega) q, G j (by omega) q]; exact p1 j hj
  · rw [G _ (by omega) (by omega)]; exact p2
  · rw [G _ (by omega) (by omega)]; exact p3
  · rw [G _ (by omega) (by omega)]; exact p4
  · rw [G _ (by omega) (by omega)]; exact p5
  · rw [G _ (by omega) (by omega)]; exact p6
  · rw [G _ (by omega) (by omega)]; exact p7 c hc
  · rw [G 3 (by omega) (by omega)] at hp
    rw [G _ (by omega) (by omega), G _ (by omega) (by omega), G _ (by omega) (by omega)]; exact p8 p hp
  · rw [G 4 (by omega) (by omega)] at hp
    rw [G _ (by omega) (by omega), G _ (by omega) (by omega), G _ (by omega) (by omega)]; exact p9 p hp
  · refine farR_step p10 f0 ha (fun w => ?_) inC_up
    unfold inC
    rw [G 3 (by omega) (by omega), G 4 (by omega) (by omega)]
    constructor
    · rintro ⟨h1, h2, h3⟩
      exact ⟨⟨fun p hp => by rw [← G _ (by omega) (by omega)]; exact h1 p hp, fun p hp => by rw [← G _ (by omega) (by omega)]; exact h2 p hp, fun y x hy hx => h3 y x hy ((bit y x hy).mpr (Or.inl hx))⟩, h3 b a hb ((bit b a hb).mpr (Or.inr ⟨rfl, rfl⟩))⟩
    · rintro ⟨⟨h1, h2, h3⟩, h4⟩
      refine ⟨fun p hp => by rw [G _ (by omega) (by omega)]; exact h1 p hp, fun p hp => by rw [G _ (by omega) (by omega)]; exact h2 p hp, fun y x hy hx => ?_⟩
      rcases (bit y x hy).mp hx with q | q
      · exact h3 y x hy q
      · rw [q.2]; exact h4
  · refine farR_step p11 f1 hb (fun w => ?_) inR_up
    unfold inR
    rw [G 3 (by omega) (by omega), G 4 (by omega) (by omega)]
    constructor
    · rintro ⟨h1, h2, h3⟩
      exact ⟨⟨fun p hp => by rw [← G _ (by omega) (by omega)]; exact h1 p hp, fun p hp => by rw [← G _ (by omega) (by omega)]; exact h2 p hp, fun y x hy hx => h3 y x hy ((bit y x hy).mpr (Or.inl hx))⟩, h3 b a hb ((bit b a hb).mpr (Or.inr ⟨rfl, rfl⟩))⟩
    · rintro ⟨⟨h1, h2, h3⟩, h4⟩
      refine ⟨fun p hp => by rw [G _ (by omega) (by omega)]; exact h1 p hp, fun p hp => by rw [G _ (by omega) (by omega)]; exact h2 p hp, fun y x hy hx => ?_⟩
      rcases (bit y x hy).mp hx with q | q
      · exact h3 y x hy q
      · rw [q.1]; exact h4
theorem prC_player (P : prC r) (h6 : gN r 3 ≠ 6) (hw : w < 4) (ha : a < 8) (hb : b < 8) : prC (addT (cellF r a b) 3 9 w a b) := by
  obtain ⟨p1, p2, p3, p4, p5, p6, p7, p8, p9, p10, p11⟩ := P
  have gq : gN (cellF r a b) 3 = gN r 3 := cellF_g (by omega)
  obtain ⟨t1, t2, t3, t4, t5, t6, t7, t8⟩ := addT_at (r := cellF r a b) (cn := 3) (at9 := 9) (k := w) (a := a) (b := b) (p := gN r 3) gq (by omega) (Or.inl ⟨rfl, rfl⟩) (by omega) (by omega) (by omega)
  have E : ∀ j, j < 200 → j ≠ 3 → j ≠ 9 + gN r 3 → j ≠ 15 + gN r 3 → j ≠ 21 + gN r 3 → addT (cellF r a b) 3 9 w a b j = r j := fun j h0 h1 h2 h3 h4 => by rw [t8 j h1 h2 (by omega) (by omega), cellF_n h0]
  have G : ∀ j, j < 200 → j ≠ 3 → j ≠ 9 + gN r 3 → j ≠ 15 + gN r 3 → j ≠ 21 + gN r 3 → gN (addT (cellF r a b) 3 9 w a b) j = gN r j := fun j h0 h1 h2 h3 h4 => by unfold gN; rw [E j h0 h1 h2 h3 h4]
  have f0 : addT (cellF r a b) 3 9 w a b 200 = grI (r 200) (nI a) := by rw [t8 _ (by omega) (by omega) (by omega) (by omega)]; exact cellF_2.1
  have f1 : addT (cellF r a b) 3 9 w a b 201 = grI (r 201) (nI b) := by rw [t8 _ (by omega) (by omega) (by omega) (by omega)]; exact cellF_2.2
  generalize addT (cellF r a b) 3 9 w a b = r' at *
  refine ⟨fun j hj => ?_, ?_, ?_, ?_, ?_, ?_, fun c hc => ?_, fun p hp => ?_, fun p hp => ?_, ?_, ?_⟩
  · by_cases j1 : j = 3
    · subst j1; exact lit_of t2 (by omega)
    · by_cases j2 : j = 9 + gN r 3
      · subst j2; exact lit_of t3 (by omega)
      · by_cases j3 : j = 15 + gN r 3
        · subst j3; exact lit_of t6 (by omega)
        · by_cases j4 : j = 21 + gN r 3
          · subst j4; exact lit_of t7 (by omega)
          · rw [E j (by omega) j1 j2 j3 j4, G j (by omega) j1 j2 j3 j4]; exact p1 j hj
  · rw [G _ (by omega) (by omega) (by omega) (by omega) (by omega)]; exact p2
  · rw [G _ (by omega) (by omega) (by omega) (by omega) (by omega)]; exact p3
  · rw [G _ (by omega) (by omega) (by omega) (by omega) (by omega)]; exact p4
  · omega
  · rw [G _ (by omega) (by omega) (by omega) (by omega) (by omega)]; exact p6
  · rw [G _ (by omega) (by omega) (by omega) (by omega) (by omega)]; exact p7 c hc
  · rw [t1] at hp
    by_cases q : p = gN r 3
    · subst q
      have e9 : gN r' (9 + gN r 3) = w := gN_of t3 (by omega)
      have e15 : gN r' (15 + gN r 3) = a := t4
      have e21 : gN r' (21 + gN r 3) = b := t5
      rw [e9, e15, e21]; exact ⟨hw, ha, hb⟩
    · rw [G _ (by omega) (by omega) (by omega) (by omega) (by omega), G _ (by omega) (by omega) (by omega) (by omega) (by omega), G _ (by omega) (by omega) (by omega) (by omega) (by omega)]
      exact p8 p (by omega)
  · rw [G 4 (by omega) (by omega) (by omega) (by omega) (by omega)] at hp
    rw [G _ (by omega) (by omega) (by omega) (by omega) (by omega), G _ (by omega) (by omega) (by omega) (by omega) (by omega), G _ (by omega) (by omega) (by omega) (by omega) (by omega)]
    exact p9 p hp
  · refine farR_step p10 f0 ha (fun w' => ?_) inC_up
    have e15 : gN r' (15 + gN r 3) = a := t4
    unfold inC
    rw [t1, G 4 (by omega) (by omega) (by omega) (by omega) (by omega)]
    constructor
    · rintro ⟨h1, h2, h3⟩
      refine ⟨⟨fun p hp => ?_, fun p hp => ?_, fun y x hy hx => h3 y x hy ?_⟩, ?_⟩
      · rw [← G _ (by omega) (by omega) (by omega) (by omega) (by omega)]; exact h1 p (by omega)
      · rw [← G _ (by omega) (by omega) (by omega) (by omega) (by omega)]; exact h2 p hp
      · rw [G _ (by omega) (by omega) (by omega) (by omega) (by omega)]; exact hx
      · have := h1 (gN r 3) (by omega)
        rwa [e15] at this
    · rintro ⟨⟨h1, h2, h3⟩, h4⟩
      refine ⟨fun p hp => ?_, fun p hp => ?_, fun y x hy hx => h3 y x hy ?_⟩
      · by_cases q : p = gN r 3
        · subst q; rw [e15]; exact h4
        · rw [G _ (by omega) (by omega) (by omega) (by omega) (by omega)]; exact h1 p (by omega)
      · rw [G _ (by omega) (by omega) (by omega) (by omega) (by omega)]; exact h2 p hp
      · rw [← G _ (by omega) (by omega) (by omega) (by omega) (by omega)]; exact hx
  · refine farR_step p11 f1 hb (fun w' => ?_) inR_up
    have e21 : gN r' (21 + gN r 3) = b := t5
    unfold inR
    rw [t1, G 4 (by omega) (by omega) (by omega) (by omega) (by omega)]
    constructor
    · rintro ⟨h1, h2, h3⟩
      refine ⟨⟨fun p hp => ?_, fun p hp => ?_, fun y x hy hx => h3 y x hy ?_⟩, ?_⟩
      · rw [← G _ (by omega) (by omega) (by omega) (by omega) (by omega)]; exact h1 p (by omega)
      · rw [← G _ (by omega) (by omega) (by omega) (by omega) (by omega)]; exact h2 p hp
      · rw [G _ (by omega) (by omega) (by omega) (by omega) (by omega)]; exact hx
      · have := h1 (gN r 3) (by omega)
        rwa [e21] at this
    · rintro ⟨⟨h1, h2, h3⟩, h4⟩
      refine ⟨fun p hp => ?_, fun p hp => ?_, fun y x hy hx => h3 y x hy ?_⟩
      · by_cases q : p = gN r 3
        · subst q; rw [e21]; exact h4
        · rw [G _ (by omega) (by omega) (by omega) (by omega) (by omega)]; exact h1 p (by omega)
      · rw [G _ (by omega) (by omega) (by omega) (by omega) (by omega)]; exact h2 p hp
      · rw [← G _ (by omega) (by omega) (by omega) (by omega) (by omega)]; exact hx
theorem prC_person (P : prC r) (h6 : gN r 4 ≠ 6) (hw : w < 4) (ha : a < 8) (hb : b < 8) : prC (addT (cellF r a b) 4 27 w a b) := by
  obtain ⟨p1, p2, p3, p4, p5, p6, p7, p8, p9, p10, p11⟩ := P
  have gq : gN (cellF r a b) 4 = gN r 4 := cellF_g (by omega)
  obtain ⟨t1, t2, t3, t4, t5, t6, t7, t8⟩ := addT_at (r := cellF r a b) (cn := 4) (at9 := 27) (k := w) (a := a) (b := b) (p := gN r 4) gq (by omega) (Or.inr ⟨rfl, rfl⟩) (by omega) (by omega) (by omega)
  have E : ∀ j, j < 200 → j ≠ 4 → j ≠ 27 + gN r 4 → j ≠ 33 + gN r 4 → j ≠ 39 + gN r 4 → addT (cellF r a b) 4 27 w a b j = r j := fun j h0 h1 h2 h3 h4 => by rw [t8 j h1 h2 (by omega) (by omega), cellF_n h0]
  have G : ∀ j, j < 200 → j ≠ 4 → j ≠ 27 + gN r 4 → j ≠ 33 + gN r 4 → j ≠ 39 + gN r 4 → gN (addT (cellF r a b) 4 27 w a b) j = gN r j := fun j h0 h1 h2 h3 h4 => by unfold gN; rw [E j h0 h1 h2 h3 h4]
  have f0 : addT (cellF r a b) 4 27 w a b 200 = grI (r 200) (nI a) := by rw [t8 _ (by omega) (by omega) (by omega) (by omega)]; exact cellF_2.1
  have f1 : addT (cellF r a b) 4 27 w a b 201 = grI (r 201) (nI b) := by rw [t8 _ (by omega) (by omega) (by omega) (by omega)]; exact cellF_2.2
  generalize addT (cellF r a b) 4 27 w a b = r' at *
  refine ⟨fun j hj => ?_, ?_, ?_, ?_, ?_, ?_, fun c hc => ?_, fun p hp => ?_, fun p hp => ?_, ?_, ?_⟩
  · by_cases j1 : j = 4
    · subst j1; exact lit_of t2 (by omega)
    · by_cases j2 : j = 27 + gN r 4
      · subst j2; exact lit_of t3 (by omega)
      · by_cases j3 : j = 33 + gN r 4
        · subst j3; exact lit_of t6 (by omega)
        · by_cases j4 : j = 39 + gN r 4
          · subst j4; exact lit_of t7 (by omega)
          · rw [E j (by omega) j1 j2 j3 j4, G j (by omega) j1 j2 j3 j4]; exact p1 j hj
  · rw [G _ (by omega) (by omega) (by omega) (by omega) (by omega)]; exact p2
  · rw [G _ (by omega) (by omega) (by omega) (by omega) (by omega)]; exact p3
  · rw [G _ (by omega) (by omega) (by omega) (by omega) (by omega)]; exact p4
  · rw [G _ (by omega) (by omega) (by omega) (by omega) (by omega)]; exact p5
  · omega
  · rw [G _ (by omega) (by omega) (by omega) (by omega) (by omega)]; exact p7 c hc
  · rw [G 3 (by omega) (by omega) (by omega) (by omega) (by omega)] at hp
    rw [G _ (by omega) (by omega) (by omega) (by omega) (by omega), G _ (by omega) (by omega) (by omega) (by omega) (by omega), G _ (by omega) (by omega) (by omega) (by omega) (by omega)]
    exact p8 p hp
  · rw [t1] at hp
    by_cases q : p = gN r 4
    · subst q
      have e9 : gN r' (27 + gN r 4) = w := gN_of t3 (by omega)
      have e15 : gN r' (33 + gN r 4) = a := t4
      have e21 : gN r' (39 + gN r 4) = b := t5
      rw [e9, e15, e21]; exact ⟨hw, ha, hb⟩
    · rw [G _ (by omega) (by omega) (by omega) (by omega) (by omega), G _ (by omega) (by omega) (by omega) (by omega) (by omega), G _ (by omega) (by omega) (by omega) (by omega) (by omega)]
      exact p9 p (by omega)
  · refine farR_step p10 f0 ha (fun w' => ?_) inC_up
    have e15 : gN r' (33 + gN r 4) = a := t4
    unfold inC
    rw [t1, G 3 (by omega) (by omega) (by omega) (by omega) (by omega)]
    constructor
    · rintro ⟨h2, h1, h3⟩
      refine ⟨⟨fun p hp => ?_, fun p hp => ?_, fun y x hy hx => h3 y x hy ?_⟩, ?_⟩
      · rw [← G _ (by omega) (by omega) (by omega) (by omega) (by omega)]; exact h2 p hp
      · rw [← G _ (by omega) (by omega) (by omega) (by omega) (by omega)]; exact h1 p (by omega)
      · rw [G _ (by omega) (by omega) (by omega) (by omega) (by omega)]; exact hx
      · have := h1 (gN r 4) (by omega)
        rwa [e15] at this
    · rintro ⟨⟨h2, h1, h3⟩, h4⟩
      refine ⟨fun p hp => ?_, fun p hp => ?_, fun y x hy hx => h3 y x hy ?_⟩
      · rw [G _ (by omega) (by omega) (by omega) (by omega) (by omega)]; exact h2 p hp
      · by_cases q : p = gN r 4
        · subst q; rw [e15]; exact h4
        · rw [G _ (by omega) (by omega) (by omega) (by omega) (by omega)]; exact h1 p (by omega)
      · rw [← G _ (by omega) (by omega) (by omega) (by omega) (by omega)]; exact hx
  · refine farR_step p11 f1 hb (fun w' => ?_) inR_up
    have e21 : gN r' (39 + gN r 4) = b := t5
    unfold inR
    rw [t1, G 3 (by omega) (by omega) (by omega) (by omega) (by omega)]
    constructor
    · rintro ⟨h2, h1, h3⟩
      refine ⟨⟨fun p hp => ?_, fun p hp => ?_, fun y x hy hx => h3 y x hy ?_⟩, ?_⟩
      · rw [← G _ (by omega) (by omega) (by omega) (by omega) (by omega)]; exact h2 p hp
      · rw [← G _ (by omega) (by omega) (by omega) (by omega) (by omega)]; exact h1 p (by omega)
      · rw [G _ (by omega) (by omega) (by omega) (by omega) (by omega)]; exact hx
      · have := h1 (gN r 4) (by omega)
        rwa [e21] at this
    · rintro ⟨⟨h2, h1, h3⟩, h4⟩
      refine ⟨fun p hp => ?_, fun p hp => ?_, fun y x hy hx => h3 y x hy ?_⟩
      · rw [G _ (by omega) (by omega) (by omega) (by omega) (by omega)]; exact h2 p hp
      · by_cases q : p = gN r 4
        · subst q; rw [e21]; exact h4
        · rw [G _ (by omega) (by omega) (by omega) (by omega) (by omega)]; exact h1 p (by omega)
      · rw [← G _ (by omega) (by omega) (by omega) (by omega) (by omega)]; exact hx
end PRS
