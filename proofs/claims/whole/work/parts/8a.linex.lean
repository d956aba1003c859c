/-! the class's lines -/
theorem gN_of {r : Nat → Int32} {j m : Nat} (h : r j = nI m) (hm : m < 2147483648) : gN r j = m := by unfold gN; rw [h, z_cl hm]
theorem CC.congr {mi : pm_I} {ml : pm_L} {o : Nat} {r r' : Nat → Int32} (h : CC mi ml o r) (e : ∀ j, j < 53 → r' j = r j) (h3 : gN r 3 ≤ 6) (h4 : gN r 4 ≤ 6) : CC mi ml o r' := by
  have eg : ∀ j, j < 53 → gN r' j = gN r j := fun j hj => by unfold gN; rw [e j hj]
  obtain ⟨c1, c2, c3, c4, c5, c6, c7, c8, c9⟩ := h
  refine ⟨by rw [e 0 (by omega)]; exact c1, by rw [e 1 (by omega)]; exact c2, by rw [e 2 (by omega)]; exact c3, by rw [e 3 (by omega)]; exact c4, by rw [e 4 (by omega)]; exact c5, fun p hp => ?_, fun p hp => ?_, fun c hc => by rw [e _ (by omega)]; exact c8 c hc, fun s hs => by rw [eg _ (by omega)]; exact c9 s hs⟩
  · rw [eg 3 (by omega)] at hp
    rw [e _ (by omega), eg _ (by omega), eg _ (by omega)]; exact c6 p hp
  · rw [eg 4 (by omega)] at hp
    rw [e _ (by omega), eg _ (by omega), eg _ (by omega)]; exact c7 p hp
theorem CC.hd {mi : pm_I} {ml : pm_L} {o j : Nat} {r : Nat → Int32} {v : Int32} (h : CC mi ml o r) (hj : j < 3) : CC (pm_up mi o j v) ml o (up1 r j v) := by
  obtain ⟨c1, c2, c3, c4, c5, c6, c7, c8, c9⟩ := h
  have e : ∀ a, a ≠ o → pm_up mi o j v a = mi a := fun a g => pm_up_row _ _ g
  have es : ∀ i, mi o i = r i → pm_up mi o j v o i = up1 r j v i := fun i g => by
    by_cases q : i = j
    · subst q; rw [pm_up_s, up1_s]
    · rw [pm_up_j _ _ q, up1_n _ _ q]; exact g
  refine ⟨es 0 c1, es 1 c2, es 2 c3, ?_, ?_, fun p hp => ?_, fun p hp => ?_, fun c hc => ?_, fun s hs => ?_⟩
  · rw [pm_up_j _ _ (by omega), up1_n _ _ (by omega)]; exact c4
  · rw [pm_up_j _ _ (by omega), up1_n _ _ (by omega)]; exact c5
  · rw [gN_up1 (by omega)] at hp
    rw [e _ (by omega), e _ (by omega), up1_n _ _ (by omega), gN_up1 (by omega), gN_up1 (by omega)]; exact c6 p hp
  · rw [gN_up1 (by omega)] at hp
    rw [e _ (by omega), e _ (by omega), up1_n _ _ (by omega), gN_up1 (by omega), gN_up1 (by omega)]; exact c7 p hp
  · rw [e _ (by omega), up1_n _ _ (by omega)]; exact c8 c hc
  · rw [gN_up1 (by omega)]; exact c9 s hs
theorem CC.vl {mi : pm_I} {ml : pm_L} {o c : Nat} {r : Nat → Int32} {v : Int32} (h : CC mi ml o r) (hc : c < 4) : CC (pm_up mi (o + 5) c v) ml o (up1 r (5 + c) v) := by
  obtain ⟨c1, c2, c3, c4, c5, c6, c7, c8, c9⟩ := h
  have e : ∀ a, a ≠ o + 5 → pm_up mi (o + 5) c v a = mi a := fun a g => pm_up_row _ _ g
  refine ⟨?_, ?_, ?_, ?_, ?_, fun p hp => ?_, fun p hp => ?_, fun c' hc' => ?_, fun s hs => ?_⟩
  · rw [e _ (by omega), up1_n _ _ (by omega)]; exact c1
  · rw [e _ (by omega), up1_n _ _ (by omega)]; exact c2
  · rw [e _ (by omega), up1_n _ _ (by omega)]; exact c3
  · rw [e _ (by omega), up1_n _ _ (by omega)]; exact c4
  · rw [e _ (by omega), up1_n _ _ (by omega)]; exact c5
  · rw [gN_up1 (by omega)] at hp
    rw [e _ (by omega), e _ (by omega), up1_n _ _ (by omega), gN_up1 (by omega), gN_up1 (by omega)]; exact c6 p hp
  · rw [gN_up1 (by omega)] at hp
    rw [e _ (by omega), e _ (by omega), up1_n _ _ (by omega), gN_up1 (by omega), gN_up1 (by omega)]; exact c7 p hp
  · by_cases q : c' = c
    · subst q; rw [pm_up_s, up1_s]
    · rw [pm_up_j _ _ q, up1_n _ _ (by omega)]; exact c8 c' hc'
  · rw [gN_up1 (by omega)]; exact c9 s hs
/-- one more thing: players (cn 3, at9 9) or people (cn 4, at9 27) -/
theorem addT_at {r : Nat → Int32} {cn at9 k a b p : Nat} (hp : gN r cn = p) (h6 : p < 6) (hc : (cn = 3 ∧ at9 = 9) ∨ (cn = 4 ∧ at9 = 27)) (hk : k < 100) (ha : a < 100) (hb : b < 100) :
    gN (addT r cn at9 k a b) cn = p + 1 ∧ addT r cn at9 k a b cn = nI (p + 1) ∧ addT r cn at9 k a b (at9 + p) = nI k ∧ gN (addT r cn at9 k a b) (at9 + 6 + p) = a ∧ gN (addT r cn at9 k a b) (at9 + 12 + p) = b ∧ addT r cn at9 k a b (at9 + 6 + p) = nI a ∧ addT r cn at9 k a b (at9 + 12 + p) = nI b ∧ ∀ i, i ≠ cn → i ≠ at9 + p → i ≠ at9 + 6 + p → i ≠ at9 + 12 + p → addT r cn at9 k a b i = r i := by
  have e : addT r cn at9 k a b = up1 (up1 (up1 (up1 r (at9 + p) (nI k)) (at9 + 6 + p) (nI a)) (at9 + 12 + p) (nI b)) cn (nI (p + 1)) := by
    unfold addT; rw [hp, if_pos h6]
  rw [e]
  have e6 : up1 (up1 (up1 (up1 r (at9 + p) (nI k)) (at9 + 6 + p) (nI a)) (at9 + 12 + p) (nI b)) cn (nI (p + 1)) (at9 + 6 + p) = nI a := by rw [up1_n _ _ (by omega), up1_n _ _ (by omega), up1_s]
  have e12 : up1 (up1 (up1 (up1 r (at9 + p) (nI k)) (at9 + 6 + p) (nI a)) (at9 + 12 + p) (nI b)) cn (nI (p + 1)) (at9 + 12 + p) = nI b := by rw [up1_n _ _ (by omega), up1_s]
  refine ⟨gN_up1s (by omega), up1_s _ _ _, ?_, gN_of e6 (by omega), gN_of e12 (by omega), e6, e12, fun i h1 h2 h3 h4 => ?_⟩
  · rw [up1_n _ _ (by omega), up1_n _ _ (by omega), up1_n _ _ (by omega), up1_s]
  · rw [up1_n _ _ h1, up1_n _ _ h4, up1_n _ _ h3, up1_n _ _ h2]
theorem CC_player {mi : pm_I} {ml : pm_L} {o p w a b : Nat} {r : Nat → Int32} (h : CC mi ml o r) (hc : mi o 4 = nI p) (hp : p < 6) (h4 : gN r 4 ≤ 6) (hw : w < 100) (ha : a < 100) (hb : b < 100) : CC (pm_up (pm_up (pm_up mi (o + 1) p (nI w)) (o + 2) p (nI (8 * b + a))) o 4 (nI (p + 1))) ml o (addT r 3 9 w a b) := by
  obtain ⟨c1, c2, c3, c4, c5, c6, c7, c8, c9⟩ := h
  have g3 : gN r 3 = p := gN_of (c4.symm.trans hc) (by omega)
  obtain ⟨t1, t2, t3, t4, t5, t6, t7, t8⟩ := addT_at g3 hp (Or.inl ⟨rfl, rfl⟩) hw ha hb
  have tg : ∀ i, i ≠ 3 → i ≠ 9 + p → i ≠ 9 + 6 + p → i ≠ 9 + 12 + p → gN (addT r 3 9 w a b) i = gN r i := fun i h1 h2 h3 h4 => by unfold gN; rw [t8 i h1 h2 h3 h4]
  refine ⟨?_, ?_, ?_, ?_, ?_, fun p' hp' => ?_, fun p' hp' => ?_, fun c' hc' => ?_, fun s hs => ?_⟩
  · rw [pm_up_j _ _ (by decide), pm_up_row _ _ (by omega), pm_up_row _ _ (by omega), t8 _ (by omega) (by omega) (by omega) (by omega)]; exact c1
  · rw [pm_up_j _ _ (by decide), pm_up_row _ _ (by omega), pm_up_row _ _ (by omega), t8 _ (by omega) (by omega) (by omega) (by omega)]; exact c2
  · rw [pm_up_j _ _ (by decide), pm_up_row _ _ (by omega), pm_up_row _ _ (by omega), t8 _ (by omega) (by omega) (by omega) (by omega)]; exact c3
  · rw [pm_up_s, t2]
  · rw [pm_up_j _ _ (by decide), pm_up_row _ _ (by omega), pm_up_row _ _ (by omega), t8 _ (by omega) (by omega) (by omega) (by omega)]; exact c5
  · rw [t1] at hp'
    rw [pm_up_row _ _ (by omega), pm_up_row _ _ (by omega), pm_up_row (a := o + 2) _ _ (by omega)]
    by_cases q : p' = p
    · subst q
      rw [pm_up_s, pm_up_s]
      have e1 : (21 : Nat) + p' = 9 + 12 + p' := by omega
      have e2 : (15 : Nat) + p' = 9 + 6 + p' := by omega
      rw [e1, e2, t3, t4, t5]
      exact ⟨rfl, rfl⟩
    · rw [pm_up_j _ _ q, pm_up_j _ _ q, pm_up_row (a := o + 2) _ _ (by omega), t8 _ (by omega) (by omega) (by omega) (by omega), tg _ (by omega) (by omega) (by omega) (by omega), tg _ (by omega) (by omega) (by omega) (by omega)]
      exact c6 p' (by omega)
  · rw [tg 4 (by omega) (by omega) (by omega) (by omega)] at hp'
    rw [pm_up_row _ _ (by omega), pm_up_row _ _ (by omega), pm_up_row _ _ (by omega), pm_up_row (a := o + 4) _ _ (by omega), pm_up_row (a := o + 4) _ _ (by omega), pm_up_row (a := o + 4) _ _ (by omega), t8 _ (by omega) (by omega) (by omega) (by omega), tg _ (by omega) (by omega) (by omega) (by omega), tg _ (by omega) (by omega) (by omega) (by omega)]
    exact c7 p' hp'
  · rw [pm_up_row _ _ (by omega), pm_up_row _ _ (by omega), pm_up_row _ _ (by omega), t8 _ (by omega) (by omega) (by omega) (by omega)]; exact c8 c' hc'
  · rw [tg _ (by omega) (by omega) (by omega) (by omega)]; exact c9 s hs
theorem CC_person {mi : pm_I} {ml : pm_L} {o p w a b : Nat} {r : Nat → Int32} (h : CC mi ml o r) (hc : mi o 5 = nI p) (hp : p < 6) (h3 : gN r 3 ≤ 6) (hw : w < 100) (ha : a < 100) (hb : b < 100) : CC (pm_up (pm_up (pm_up mi (o + 3) p (nI w)) (o + 4) p (nI (8 * b + a))) o 5 (nI (p + 1))) ml o (addT r 4 27 w a b) := by
  obtain ⟨c1, c2, c3, c4, c5, c6, c7, c8, c9⟩ := h
  have g3 : gN r 4 = p := gN_of (c5.symm.trans hc) (by omega)
  obtain ⟨t1, t2, t3, t4, t5, t6, t7, t8⟩ := addT_at g3 hp (Or.inr ⟨rfl, rfl⟩) hw ha hb
  have tg : ∀ i, i ≠ 4 → i ≠ 27 + p → i ≠ 27 + 6 + p → i ≠ 27 + 12 + p → gN (addT r 4 27 w a b) i = gN r i := fun i h1 h2 h3 h4 => by unfold gN; rw [t8 i h1 h2 h3 h4]
  refine ⟨?_, ?_, ?_, ?_, ?_, fun p' hp' => ?_, fun p' hp' => ?_, fun c' hc' => ?_, fun s hs => ?_⟩
  · rw [pm_up_j _ _ (by decide), pm_up_row _ _ (by omega), pm_up_row _ _ (by omega), t8 _ (by omega) (by omega) (by omega) (by omega)]; exact c1
  · rw [pm_up_j _ _ (by decide), pm_up_row _ _ (by omega), pm_up_row _ _ (by omega), t8 _ (by omega) (by omega) (by omega) (by omega)]; exact c2
  · rw [pm_up_j _ _ (by decide), pm_up_row _ _ (by omega), pm_up_row _ _ (by omega), t8 _ (by omega) (by omega) (by omega) (by omega)]; exact c3
  · rw [pm_up_j _ _ (by decide), pm_up_row _ _ (by omega), pm_up_row _ _ (by omega), t8 _ (by omega) (by omega) (by omega) (by omega)]; exact c4
  · rw [pm_up_s, t2]
  · rw [tg 3 (by omega) (by omega) (by omega) (by omega)] at hp'
    rw [pm_up_row _ _ (by omega), pm_up_row _ _ (by omega), pm_up_row _ _ (by omega), pm_up_row (a := o + 2) _ _ (by omega), pm_up_row (a := o + 2) _ _ (by omega), pm_up_row (a := o + 2) _ _ (by omega), t8 _ (by omega) (by omega) (by omega) (by omega), tg _ (by omega) (by omega) (by omega) (by omega), tg _ (by omega) (by omega) (by omega) (by omega)]
    exact c6 p' hp'
  · rw [t1] at hp'
    rw [pm_up_row _ _ (by omega), pm_up_row _ _ (by omega), pm_up_row (a := o + 4) _ _ (by omega)]
    by_cases q : p' = p
    · subst q
      rw [pm_up_s, pm_up_s]
      have e1 : (39 : Nat) + p' = 27 + 12 + p' := by omega
      have e2 : (33 : Nat) + p' = 27 + 6 + p' := by omega
      rw [e1, e2, t3, t4, t5]
      exact ⟨rfl, rfl⟩
    · rw [pm_up_j _ _ q, pm_up_j _ _ q, pm_up_row (a := o + 4) _ _ (by omega), t8 _ (by omega) (by omega) (by omega) (by omega), tg _ (by omega) (by omega) (by omega) (by omega), tg _ (by omega) (by omega) (by omega) (by omega)]
      exact c7 p' (by omega)
  · rw [pm_up_row _ _ (by omega), pm_up_row _ _ (by omega), pm_up_row _ _ (by omega), t8 _ (by omega) (by omega) (by omega) (by omega)]; exact c8 c' hc'
  · rw [tg _ (by omega) (by omega) (by omega) (by omega)]; exact c9 s hs
theorem CC_wall {mi : pm_I} {ml : pm_L} {o a b : Nat} {r : Nat → Int32} {y : Int64} (h : CC mi ml o r) (h3 : gN r 3 ≤ 6) (h4 : gN r 4 ≤ 6) (hr : gN r (45 + b) < 256) (ha : a < 8) (hb : b < 8) (hy : ∀ s, s < 64 → bl y s = decide (s = 8 * b + a)) : CC mi (pm_up ml o 3 (ml o 3 ||| y)) o (wallR r a b) := by
  obtain ⟨c1, c2, c3, c4, c5, c6, c7, c8, c9⟩ := h
  have p8 : 2 ^ a ≤ 128 := by
    have := Nat.pow_le_pow_right (n := 2) (by decide) (show a ≤ 7 by omega)
    exact this
  have hor : gN r (45 + b) ||| 2 ^ a < 256 := Nat.or_lt_two_pow (n := 8) hr (by omega)
  have e : ∀ i, i ≠ 45 + b → wallR r a b i = r i := fun i g => up1_n _ _ g
  have eg : ∀ i, i ≠ 45 + b → gN (wallR r a b) i = gN r i := fun i g => gN_up1 g
  have es : gN (wallR r a b) (45 + b) = gN r (45 + b) ||| 2 ^ a := gN_up1s (by omega)
  refine ⟨by rw [e _ (by omega)]; exact c1, by rw [e _ (by omega)]; exact c2, by rw [e _ (by omega)]; exact c3, by rw [e _ (by omega)]; exact c4, by rw [e _ (by omega)]; exact c5, fun p hp => ?_, fun p hp => ?_, fun c hc => by rw [e _ (by omega)]; exact c8 c hc, fun s hs => ?_⟩
  · rw [eg _ (by omega)] at hp
    rw [e _ (by omega), eg _ (by omega), eg _ (by omega)]; exact c6 p hp
  · rw [eg _ (by omega)] at hp
    rw [e _ (by omega), eg _ (by omega), eg _ (by omega)]; exact c7 p hp
  · rw [pm_up_s, bl_or, c9 s hs, hy s hs]
    by_cases q : s / 8 = b
    · rw [q, es, Nat.testBit_or, Nat.testBit_two_pow]
      have : (s = 8 * b + a) = (a = s % 8) := propext (by omega)
      simp only [this]
    · rw [eg _ (by omega), decide_eq_false (by omega), Bool.or_false]
theorem RR_add {mi : pm_I} {o c0 c most : Nat} {r : Nat → Int32} {x y z : Int32} (h : RR mi o c0 r) (hc : mi o 3 = nI c) (h40 : c < 40) (hm : gN r c0 ≠ most) (h0 : c0 = 0 ∨ c0 = 2) : RR (pm_up (pm_up (pm_up (pm_up mi (o + 1) c x) (o + 2) c y) (o + 3) c z) o 3 (nI (c + 1))) o c0 (keepR r c0 (c0 + 1) most x y z) := by
  obtain ⟨n, hn, n1, n2, n3⟩ := h
  have en : n = c := by
    have : nI n = nI c := n1.symm.trans hc
    have e : (nI n = nI c) = (n = c) := z_eq (by omega) (by omega)
    rwa [e] at this
  subst en
  have eg : gN r c0 = n := gN_of n2 (by omega)
  have e : keepR r c0 (c0 + 1) most x y z = up1 (up1 (up1 (up1 r (c0 + 1 + 3 * n) x) (c0 + 1 + 3 * n + 1) y) (c0 + 1 + 3 * n + 2) z) c0 (nI (n + 1)) := by unfold keepR; rw [if_neg hm, eg]
  rw [e]
  refine ⟨n + 1, by omega, pm_up_s _ _ _ _, up1_s _ _ _, fun i hi => ?_⟩
  have w1 : ∀ i, pm_up (pm_up (pm_up (pm_up mi (o + 1) n x) (o + 2) n y) (o + 3) n z) o 3 (nI (n + 1)) (o + 1) i = pm_up mi (o + 1) n x (o + 1) i := fun i => by rw [pm_up_row _ _ (by omega), pm_up_row _ _ (by omega), pm_up_row _ _ (by omega)]
  have w2 : ∀ i, pm_up (pm_up (pm_up (pm_up mi (o + 1) n x) (o + 2) n y) (o + 3) n z) o 3 (nI (n + 1)) (o + 2) i = pm_up (pm_up mi (o + 1) n x) (o + 2) n y (o + 2) i := fun i => by rw [pm_up_row _ _ (by omega), pm_up_row _ _ (by omega)]
  have w3 : ∀ i, pm_up (pm_up (pm_up (pm_up mi (o + 1) n x) (o + 2) n y) (o + 3) n z) o 3 (nI (n + 1)) (o + 3) i = pm_up (pm_up (pm_up mi (o + 1) n x) (o + 2) n y) (o + 3) n z (o + 3) i := fun i => by rw [pm_up_row _ _ (by omega)]
  rw [w1, w2, w3]
  by_cases q : i = n
  · subst q
    rw [pm_up_s, pm_up_s, pm_up_s, up1_n _ _ (by omega), up1_n _ _ (by omega), up1_n _ _ (by omega), up1_s, up1_n _ _ (by omega), up1_n _ _ (by omega), up1_s, up1_n _ _ (by omega), up1_s]
    exact ⟨rfl, rfl, rfl⟩
  · have v1 : pm_up mi (o + 1) n x (o + 1) i = mi (o + 1) i := pm_up_j _ _ q
    have v2 : pm_up (pm_up mi (o + 1) n x) (o + 2) n y (o + 2) i = mi (o + 2) i := by rw [pm_up_j _ _ q, pm_up_row _ _ (by omega)]
    have v3 : pm_up (pm_up (pm_up mi (o + 1) n x) (o + 2) n y) (o + 3) n z (o + 3) i = mi (o + 3) i := by rw [pm_up_j _ _ q, pm_up_row _ _ (by omega), pm_up_row _ _ (by omega)]
    rw [v1, v2, v3]
    have u : ∀ j, j ≠ c0 → j ≠ c0 + 1 + 3 * n → j ≠ c0 + 1 + 3 * n + 1 → j ≠ c0 + 1 + 3 * n + 2 → up1 (up1 (up1 (up1 r (c0 + 1 + 3 * n) x) (c0 + 1 + 3 * n + 1) y) (c0 + 1 + 3 * n + 2) z) c0 (nI (n + 1)) j = r j := fun j h1 h2 h3 h4 => by rw [up1_n _ _ h1, up1_n _ _ h4, up1_n _ _ h3, up1_n _ _ h2]
    rw [u _ (by omega) (by omega) (by omega) (by omega), u _ (by omega) (by omega) (by omega) (by omega), u _ (by omega) (by omega) (by omega) (by omega)]
    exact n3 i (by omega)

section LNY
variable {l : Launch} {d h k : Nat} {kd : pm_K} {mr : pm_R} {mi : pm_I} {ml : pm_L} {t : Nat → Nat} {n s p : Nat} {F : Nat × Nat} {r : Nat → Int32}
theorem DwX.same {mi mi' : pm_I} (W : DwX mi h) (h1 : mi' (h + 2) 4 = mi (h + 2) 4) (h2 : mi' (h + 2) 5 = mi (h + 2) 5) (h3 : mi' (h + 8) 3 = mi (h + 8) 3) (h4 : mi' (h + 13) 3 = mi (h + 13) 3) : DwX mi' h := by
  unfold DwX at W ⊢; rw [h1, h2, h3, h4]; exact W
/-- rows of deeds and facts: one more -/
theorem s_add8 {x y z : Int32} {K : pm_I → pm_L → Prop} (th : TX5s kd mr h) (W : DwX mi h)
    (k9 : ∀ mi', fE h mi mi' ml ml → DwX mi' h → (∀ c0 most r, (c0 = 0 ∨ c0 = 2) → most ≤ 40 → gN r c0 < most → RR mi (h + 8) c0 r → RR mi' (h + 8) c0 (keepR r c0 (c0 + 1) most x y z)) → K mi' ml) : wV l M_X6_add d [.ref (h + 8), .int x, .int y, .int z] kd mr mi ml K := by
  obtain ⟨W1, W2, ⟨c, c40, hc⟩, W4⟩ := W
  refine w_X6_add (TX5s_a9 th) ⟨fun g => k9 mi fE.rf ⟨W1, W2, ⟨c, c40, hc⟩, W4⟩ fun c0 most r _ hm hlt R => ?_, fun g => ?_⟩
  · obtain ⟨n', n40, e1, e2, -⟩ := R
    rw [hc] at g
    have g : nI 40 ≤ nI c := g
    rw [z_le (by omega) (by omega)] at g
    have : (nI n' = nI c) = (n' = c) := z_eq (by omega) (by omega)
    have e : n' = c := this ▸ (e1.symm.trans hc)
    have := gN_of e2 (by omega)
    omega
  · have hlt : c < 40 := by
      rw [hc] at g
      have g : ¬ nI 40 ≤ nI c := g
      rw [z_le (by omega) (by omega)] at g; omega
    rw [hc, z_cl (by omega), nI_1]
    refine ⟨z_in hlt (by omega), z_in hlt (by omega), z_in hlt (by omega), k9 _ ((((fE.rf.up (by omega)).up (by omega)).up (by omega)).up (by omega)) ⟨?_, ?_, ⟨c + 1, by omega, pm_up_s _ _ _ _⟩, ?_⟩ fun c0 most r h0 hm hl R => RR_add R hc hlt (by omega) h0⟩
    · rw [pm_up_row _ _ (by omega), pm_up_row _ _ (by omega), pm_up_row _ _ (by omega), pm_up_row _ _ (by omega)]; exact W1
    · rw [pm_up_row _ _ (by omega), pm_up_row _ _ (by omega), pm_up_row _ _ (by omega), pm_up_row _ _ (by omega)]; exact W2
    · rw [pm_up_row _ _ (by omega), pm_up_row _ _ (by omega), pm_up_row _ _ (by omega), pm_up_row _ _ (by omega)]; exact W4
theorem s_add13 {x y z : Int32} {K : pm_I → pm_L → Prop} (th : TX5s kd mr h) (W : DwX mi h)
    (k9 : ∀ mi', fE h mi mi' ml ml → mi' (h + 12) = mi (h + 12) → DwX mi' h → (∀ c0 most r, (c0 = 0 ∨ c0 = 2) → most ≤ 40 → gN r c0 < most → RR mi (h + 13) c0 r → RR mi' (h + 13) c0 (keepR r c0 (c0 + 1) most x y z)) → K mi' ml) : wV l M_X6_add d [.ref (h + 12 + 1), .int x, .int y, .int z] kd mr mi ml K := by
  obtain ⟨W1, W2, W3, c, c40, hc⟩ := W
  refine w_X6_add (TX10s_a2 (TX5s_a10 th)) ⟨fun g => k9 mi fE.rf rfl ⟨W1, W2, W3, c, c40, hc⟩ fun c0 most r _ hm hlt R => ?_, fun g => ?_⟩
  · obtain ⟨n', n40, e1, e2, -⟩ := R
    have g : mi (h + 13) 3 ≥ 40 := g
    rw [hc] at g
    have g : nI 40 ≤ nI c := g
    rw [z_le (by omega) (by omega)] at g
    have : (nI n' = nI c) = (n' = c) := z_eq (by omega) (by omega)
    have e : n' = c := this ▸ (e1.symm.trans hc)
    have := gN_of e2 (by omega)
    omega
  · have hc2 : mi (h + 12 + 1) 3 = nI c := hc
    have hlt : c < 40 := by
      rw [hc2] at g
      have g : ¬ nI 40 ≤ nI c := g
      rw [z_le (by omega) (by omega)] at g; omega
    rw [hc2, z_cl (by omega), nI_1]
    refine ⟨z_in hlt (by omega), z_in hlt (by omega), z_in hlt (by omega), k9 _ ((((fE.rf.up (by omega)).up (by omega)).up (by omega)).up (by omega)) ?_ ⟨?_, ?_, ?_, c + 1, by omega, pm_up_s _ _ _ _⟩ fun c0 most r h0 hm hl R => RR_add (o := h + 13) R hc hlt (by omega) h0⟩
    · rw [pm_up_row _ _ (by omega), pm_up_row _ _ (by omega), pm_up_row _ _ (by omega), pm_up_row _ _ (by omega)]
    · rw [pm_up_row _ _ (by omega), pm_up_row _ _ (by omega), pm_up_row _ _ (by omega), pm_up_row _ _ (by omega)]; exact W1
    · rw [pm_up_row _ _ (by omega), pm_up_row _ _ (by omega), pm_up_row _ _ (by omega), pm_up_row _ _ (by omega)]; exact W2
    · rw [pm_up_row _ _ (by omega), pm_up_row _ _ (by omega), pm_up_row _ _ (by omega), pm_up_row _ _ (by omega)]; exact W3
/-- a FAULT noted, or not, of rows that are full -/
theorem s_noteIfFull {most : Nat} {u v : Int32} {K : pm_I → pm_L → Prop} (th : TX5s kd mr h) (X : stX mi h t n s F) (W : DwX mi h) (hu : u = nI most) (hv : v = nI p) (hm : most ≤ 40) (D : F.1 = 0 → RR mi (h + 8) 0 r ∧ gN r 0 ≤ most)
    (k9 : ∀ mi', fH h mi mi' → stX mi' h t n s (fullF r 0 most p F) → K mi' ml) : wV l M_X5_noteIfFull (d + 1) [.ref h, .int u, .int v] kd mr mi ml K := by
  subst hu
  obtain ⟨-, -, ⟨c, c40, hc⟩, -⟩ := W
  have cR : F.1 = 0 → gN r 0 = c ∧ gN r 0 ≤ most := fun h0 => by
    obtain ⟨⟨n', n40, e1, e2, -⟩, hle⟩ := D h0
    have : (nI n' = nI c) = (n' = c) := z_eq (by omega) (by omega)
    have e : n' = c := this ▸ (e1.symm.trans hc)
    rw [gN_of e2 (by omega)] at hle ⊢
    exact ⟨e, hle⟩
  refine w_X5_noteIfFull th ?_
  rw [hc, z_lt (by omega) (by omega)]
  refine ⟨fun g => k9 mi fH.rf ?_, fun g => s_note (f := 3) th X ⟨by decide, by decide, by decide⟩ rfl hv fun mi' f X' => k9 mi' f ?_⟩
  · by_cases h0 : F.1 = 0
    · have := cR h0
      unfold fullF; rw [if_neg (by omega)]; exact X
    · rw [fullF_n h0]; exact X
  · by_cases h0 : F.1 = 0
    · have := cR h0
      unfold fullF; rw [if_pos (by omega)]; exact X'
    · rw [fullF_n h0]
      rw [noteF_n h0] at X'; exact X'
theorem s_lineS {K : pm_I → pm_L → Prop} (th : TX5s kd mr h) (P : tpX mi h t n) (X : stX mi h t n s F) (W : DwX mi h) (D : F.1 = 0 → RR mi (h + 8) 0 r ∧ gN r 0 ≤ 10)
    (k9 : ∀ mi' ml', fD h mi mi' ml ml' → outX 3 mi' ml' h t n (lnS t n s F r) → K mi' ml') : wV l M_X5_readFact (d + 7) [.ref h] kd mr mi ml K := by
  refine w_X5_readFact th (s_takeWord th P X (by decide) (fun w mi1 hw f1 X1 => ⟨fun _ => ?_, fun g => absurd g (nI_m1' ?_)⟩) (fun mi1 hw f1 X1 => ⟨fun g => absurd rfl g, fun _ => k9 mi1 ml f1.D ⟨W.fH f1, ?_⟩⟩))
  · have hR : ∀ {mi'}, fH h mi mi' → F.1 = 0 → RR mi' (h + 8) 0 r := fun f h0 => (D h0).1.same (f.1 _ (by omega)) (f.1 _ (by omega)) (f.1 _ (by omega)) (f.1 _ (by omega))
    refine s_noteIfFull (most := 10) (p := s) (r := r) th X1 (W.fH f1) rfl X.1.1 (by decide) (fun h0 => ⟨hR f1 h0, (D h0).2⟩) fun mi2 f2 X2 => ?_
    refine X_num2 (k := 3) (lo := 0) (hi := 7) (lo2 := 0) (hi2 := 7) (r := r) (g := fun a b => keepR r 0 1 10 (nI w) (nI a) (nI b)) (K := K) th ((P.fH f1).fH f2) X2 ((W.fH f1).fH f2) (fun h0 => ?_) rfl rfl (by decide) rfl rfl (by decide) (fun a b mi3 ml3 _ _ _ _ W3 kk => ?_) fun mi' ml' f o => k9 mi' ml' ((f1.D.tr f2.D).tr f) ?_
    · show (if (3 : Nat) = 0 then _ else if (3 : Nat) = 2 then _ else _)
      rw [if_neg (by decide), if_neg (by decide)]
      exact hR (f1.tr f2) (fullF_0 h0).1
    · refine s_add8 th W3 fun mi4 f4 W4 R4 => kk mi4 ml3 f4 W4 fun h0 D3 => ?_
      have D3 : RR mi3 (h + 8) 0 r := D3
      show RR mi4 (h + 8) 0 _
      obtain ⟨z0, z1, -⟩ := fullF_0 h0
      have := (D z0).2
      exact R4 0 10 r (Or.inl rfl) (by decide) (by omega) D3
    · unfold lnS
      rw [hw]; exact o
  · unfold wdO at hw
    split at hw
    · have := (ixF_some hw).1
      have := wl_len 4 (by decide)
      omega
    · cases hw
  · unfold lnS
    rw [hw]; exact X1
theorem wd_le {k w : Nat} (hk : k < 5) (h : wdO t n k s = some w) : w < (wl k).length ∧ w < 12 := by
  unfold wdO at h
  split at h
  · have := (ixF_some h).1
    have := wl_len k hk
    omega
  · cases h
theorem s_lineN {K : pm_I → pm_L → Prop} (th : TX5s kd mr h) (P : tpX mi h t n) (X : stX mi h t n s F) (W : DwX mi h) (D : F.1 = 0 → RR mi (h + 8) 0 r ∧ gN r 0 ≤ 40)
    (k9 : ∀ mi' ml', fD h mi mi' ml ml' → outX 1 mi' ml' h t n (lnN t n s F r) → K mi' ml') : wV l M_X5_readDeed (d + 7) [.ref h] kd mr mi ml K := by
  refine w_X5_readDeed th (s_takeWord th P X (by decide) (fun w mi1 hw f1 X1 => ⟨fun _ => ?_, fun g => absurd g (nI_m1' ?_)⟩) (fun mi1 hw f1 X1 => ⟨fun g => absurd rfl g, fun _ => k9 mi1 ml f1.D ⟨W.fH f1, ?_⟩⟩))
  · have hR : ∀ {mi'}, fH h mi mi' → F.1 = 0 → RR mi' (h + 8) 0 r := fun f h0 => (D h0).1.same (f.1 _ (by omega)) (f.1 _ (by omega)) (f.1 _ (by omega)) (f.1 _ (by omega))
    have w12 := (wd_le (by decide) hw).2
    refine s_noteIfFull (most := 40) (p := s) (r := r) th X1 (W.fH f1) rfl X.1.1 (by decide) (fun h0 => ⟨hR f1 h0, (D h0).2⟩) fun mi2 f2 X2 => ?_
    have hD : ∀ g : Nat → Int32, True := fun _ => trivial
    have dr : (fullF r 0 40 s F).1 = 0 → DrX 1 mi2 ml h r := fun h0 => by
      show (if (1 : Nat) = 0 then _ else if (1 : Nat) = 2 then _ else _)
      rw [if_neg (by decide), if_neg (by decide)]
      exact hR (f1.tr f2) (fullF_0 h0).1
    have e6 : (nI w = (6 : Int32)) = (w = 6) := z_eq (b := 6) (by omega) (by omega)
    have e3 : (nI w < (3 : Int32)) = (w < 3) := z_lt (b := 3) (by omega) (by omega)
    -- the draft takes it
    have put : ∀ (x y : Int32) (mi3 : pm_I) (ml3 : pm_L), DwX mi3 h → (∀ mi4 ml4, fE h mi3 mi4 ml3 ml4 → DwX mi4 h → ((fullF r 0 40 s F).1 = 0 → DrX 1 mi3 ml3 h r → DrX 1 mi4 ml4 h (keepR r 0 1 40 (nI w) x y)) → K mi4 ml4) → c_X5_readDeed_62 l (d + 7) kd mr h (nI w) x y mi3 ml3 K := by
      intro x y mi3 ml3 W3 kk
      refine w_X5_readDeed_62 th (s_add8 th W3 fun mi4 f4 W4 R4 => kk mi4 ml3 f4 W4 fun h0 D3 => ?_)
      have D3 : RR mi3 (h + 8) 0 r := D3
      show RR mi4 (h + 8) 0 _
      obtain ⟨z0, z1, -⟩ := fullF_0 h0
      have := (D z0).2
      exact R4 0 40 r (Or.inl rfl) (by decide) (by omega) D3
    rw [e6]
    refine ⟨fun hw6 => ?_, fun hw6 => ?_⟩
    · subst hw6
      refine w_X5_readDeed_43 th ⟨fun g => absurd g (by decide), fun _ => ⟨fun _ => put (-1) (-1) mi2 ml ((W.fH f1).fH f2) fun mi4 ml4 f4 W4 D4 => k9 mi4 ml4 ((f1.D.tr f2.D).tr f4.D) ⟨W4, ?_⟩, fun g => absurd rfl g⟩⟩
      unfold lnN
      rw [hw]
      exact ⟨X2.row (f4 h (by omega)).1, fun h0 => D4 h0 (dr h0)⟩
    · by_cases hw3 : w < 3
      · refine X_num1 (k := 1) (lo := 0) (hi := 5) (r := r) (g := fun a => keepR r 0 1 40 (nI w) (nI a) (-1)) (K := K) th ((P.fH f1).fH f2) X2 ((W.fH f1).fH f2) dr rfl rfl (by decide) (fun a mi3 ml3 _ _ W3 kk => ?_) fun mi' ml' f o => k9 mi' ml' ((f1.D.tr f2.D).tr f) ?_
        · refine w_X5_readDeed_43 th ?_
          rw [e3]
          exact ⟨fun _ => put _ _ mi3 ml3 W3 kk, fun g => absurd hw3 g⟩
        · unfold lnN
          rw [hw]
          dsimp only
          rw [if_neg hw6, if_pos hw3]; exact o
      · have e : (fun (x : Int32) mi1 ml1 => c_X5_readDeed_43 l (d + 7) kd mr h (nI w) x (-1) mi1 ml1 K) = fun x mi1 ml1 => c_X5_readDeed_43 l (d + 7) kd mr h (nI w) x (-1) mi1 ml1 K := rfl
        refine wI.mono (fun x mi1 ml1 q => w_X5_readDeed_43 th ?_) (X_num2 (k := 1) (lo := 0) (hi := 5) (lo2 := 0) (hi2 := 3) (r := r) (g := fun a b => keepR r 0 1 40 (nI w) (nI a) (nI b)) (C := fun x y mi3 ml3 => c_X5_readDeed_62 l (d + 7) kd mr h (nI w) x y mi3 ml3 K) (K := K) (u2 := 0) (v2 := 3) th ((P.fH f1).fH f2) X2 ((W.fH f1).fH f2) dr rfl rfl (by decide) rfl rfl (by decide) (fun a b mi3 ml3 _ _ _ _ W3 kk => put _ _ mi3 ml3 W3 kk) fun mi' ml' f o => k9 mi' ml' ((f1.D.tr f2.D).tr f) ?_)
        · rw [e3, e6]
          exact ⟨fun g => absurd g hw3, fun _ => ⟨fun g => absurd g hw6, fun _ => q⟩⟩
        · unfold lnN
          rw [hw]
          dsimp only
          rw [if_neg hw6, if_neg hw3]; exact o
  · exact Nat.lt_trans (wd_le (by decide) hw).2 (by decide)
  · unfold lnN
    rw [hw]; exact X1
theorem s_lineT {K : pm_I → pm_L → Prop} (th : TX5s kd mr h) (P : tpX mi h t n) (X : stX mi h t n s F) (W : DwX mi h) (D : F.1 = 0 → DrX 2 mi ml h r ∧ gN r 2 ≤ 12)
    (k9 : ∀ mi' ml', fD h mi mi' ml ml' → outX 2 mi' ml' h t n (lnT t n s F r) → K mi' ml') : wV l M_X5_readTrialLine (d + 7) [.ref h] kd mr mi ml K := by
  refine w_X5_readTrialLine th (s_takeWord th P X (by decide) (fun w mi1 hw f1 X1 => ⟨fun _ => ?_, fun g => absurd g (nI_m1' ?_)⟩) (fun mi1 hw f1 X1 => ⟨fun g => absurd rfl g, fun _ => k9 mi1 ml f1.D ⟨W.fH f1, ?_⟩⟩))
  · obtain ⟨wl1, w12⟩ := wd_le (by decide) hw
    have w4 : w < 4 := wl1
    have e1 : (nI w ≤ (1 : Int32)) = (w ≤ 1) := z_le (b := 1) (by omega) (by omega)
    have e2 : (nI w = (2 : Int32)) = (w = 2) := z_eq (b := 2) (by omega) (by omega)
    have dr1 : F.1 = 0 → DrX 2 mi1 ml h r := fun h0 => (D h0).1.fH f1
    rw [e1, e2]
    refine ⟨fun hw1 => ?_, fun hw1 => ⟨fun hw2 => ?_, fun hw2 => ?_⟩⟩
    · obtain ⟨-, -, -, c, c40, hc⟩ := W.fH f1
      have hc2 : mi1 (h + 12 + 1) 3 = nI c := hc
      have cR : F.1 = 0 → gN r 2 = c ∧ gN r 2 ≤ 12 := fun h0 => by
        obtain ⟨d1, d2, n', n40, e1, e2, -⟩ := (show mi1 (h + 12) 0 = r 0 ∧ mi1 (h + 12) 1 = r 1 ∧ RR mi1 (h + 13) 2 r from dr1 h0)
        have hle := (D h0).2
        have : (nI n' = nI c) = (n' = c) := z_eq (by omega) (by omega)
        have e : n' = c := this ▸ (e1.symm.trans hc)
        rw [gN_of e2 (by omega)] at hle ⊢
        exact ⟨e, hle⟩
      have e12 : (nI c < (12 : Int32)) = (c < 12) := z_lt (b := 12) (by omega) (by omega)
      have go : ∀ mi2, fH h mi1 mi2 → stX mi2 h t n (nx t n s) (fullF r 2 12 s F) → c_X5_readTrialLine_81 l (d + 7) kd mr h (nI w) mi2 ml K := by
        intro mi2 f2 X2
        refine w_X5_readTrialLine_81 th (X_num2 (k := 2) (lo := 0) (hi := 7) (lo2 := 0) (hi2 := 7) (r := r) (g := fun a b => keepR (up1 r 202 (grI (r 202) (grI (nI a) (nI b)))) 2 3 12 (nI w) (nI a) (nI b)) (K := K) th ((P.fH f1).fH f2) X2 ((W.fH f1).fH f2) (fun h0 => (dr1 (fullF_0 h0).1).fH f2) rfl rfl (by decide) rfl rfl (by decide) (fun a b mi3 ml3 _ _ _ _ W3 kk => ?_) fun mi' ml' f o => k9 mi' ml' ((f1.D.tr f2.D).tr f) ?_)
        · refine s_add13 th W3 fun mi4 f4 e4 W4 R4 => kk mi4 ml3 f4 W4 fun h0 D3 => ?_
          obtain ⟨d1, d2, d3⟩ := (show mi3 (h + 12) 0 = r 0 ∧ mi3 (h + 12) 1 = r 1 ∧ RR mi3 (h + 13) 2 r from D3)
          obtain ⟨z0, z1, -⟩ := fullF_0 h0
          have hle := (D z0).2
          have eg : gN (up1 r 202 (grI (r 202) (grI (nI a) (nI b)))) 2 = gN r 2 := gN_up1 (by decide)
          have R' : RR mi3 (h + 13) 2 (up1 r 202 (grI (r 202) (grI (nI a) (nI b)))) := by
            obtain ⟨n', n40, q1, q2, q3⟩ := d3
            refine ⟨n', n40, q1, by rw [up1_n _ _ (by decide)]; exact q2, fun i hi => ?_⟩
            rw [up1_n _ _ (by omega), up1_n _ _ (by omega), up1_n _ _ (by omega)]; exact q3 i hi
          have hlt : gN (up1 r 202 (grI (r 202) (grI (nI a) (nI b)))) 2 < 12 := by omega
          have hk : ∀ j, j < 2 → keepR (up1 r 202 (grI (r 202) (grI (nI a) (nI b)))) 2 3 12 (nI w) (nI a) (nI b) j = r j := fun j hj => by
            unfold keepR
            rw [if_neg (by omega), up1_n _ _ (by omega), up1_n _ _ (by omega), up1_n _ _ (by omega), up1_n _ _ (by omega), up1_n _ _ (by omega)]
          show mi4 (h + 12) 0 = _ ∧ mi4 (h + 12) 1 = _ ∧ RR mi4 (h + 13) 2 _
          refine ⟨?_, ?_, R4 2 12 _ (Or.inr rfl) (by decide) hlt R'⟩
          · rw [e4, hk 0 (by decide)]; exact d1
          · rw [e4, hk 1 (by decide)]; exact d2
        · unfold lnT
          rw [hw]
          dsimp only
          rw [if_neg (by omega), if_neg (by omega)]; exact o
      rw [hc2, e12]
      refine ⟨fun g => go mi1 fH.rf ?_, fun g => s_note (f := 3) (p := s) th X1 ⟨by decide, by decide, by decide⟩ rfl X.1.1 fun mi2 f2 X2 => go mi2 f2 ?_⟩
      · by_cases h0 : F.1 = 0
        · have := cR h0
          unfold fullF; rw [if_neg (by omega)]; exact X1
        · rw [fullF_n h0]; exact X1
      · by_cases h0 : F.1 = 0
        · have := cR h0
          unfold fullF; rw [if_pos (by omega)]; exact X2
        · rw [fullF_n h0]
          rw [noteF_n h0] at X2; exact X2
    · have hw3 : w = 3 := by omega
      subst hw3
      refine X_num1 (k := 2) (lo := 0) (hi := 8) (r := r) (g := fun a => up1 r 1 (nI a)) (K := K) th (P.fH f1) X1 (W.fH f1) dr1 rfl rfl (by decide) (fun a mi3 ml3 _ _ W3 kk => kk _ _ (fE.rf.up (by omega)) (W3.same ?_ ?_ ?_ ?_) fun h0 D3 => ?_) fun mi' ml' f o => k9 mi' ml' (f1.D.tr f) ?_
      · rw [pm_up_row _ _ (by omega)]
      · rw [pm_up_row _ _ (by omega)]
      · rw [pm_up_row _ _ (by omega)]
      · rw [pm_up_row _ _ (by omega)]
      · obtain ⟨d1, d2, n', n40, q1, q2, q3⟩ := (show mi3 (h + 12) 0 = r 0 ∧ mi3 (h + 12) 1 = r 1 ∧ RR mi3 (h + 13) 2 r from D3)
        show pm_up mi3 (h + 12) 1 (nI a) (h + 12) 0 = _ ∧ pm_up mi3 (h + 12) 1 (nI a) (h + 12) 1 = _ ∧ RR _ (h + 13) 2 _
        refine ⟨?_, ?_, n', n40, ?_, by rw [up1_n _ _ (by decide)]; exact q2, fun i hi => ?_⟩
        · rw [pm_up_j _ _ (by decide), up1_n _ _ (by decide)]; exact d1
        · rw [pm_up_s, up1_s]
        · rw [pm_up_row _ _ (by omega)]; exact q1
        · rw [pm_up_row (a := h + 13 + 1) _ _ (by omega), pm_up_row (a := h + 13 + 2) _ _ (by omega), pm_up_row (a := h + 13 + 3) _ _ (by omega), up1_n _ _ (by omega), up1_n _ _ (by omega), up1_n _ _ (by omega)]; exact q3 i hi
      · unfold lnT
        rw [hw]; exact o
    · subst hw2
      refine X_num1 (k := 2) (lo := 1) (hi := 8) (r := r) (g := fun a => up1 r 0 (nI a)) (K := K) th (P.fH f1) X1 (W.fH f1) dr1 rfl rfl (by decide) (fun a mi3 ml3 _ _ W3 kk => kk _ _ (fE.rf.up (by omega)) (W3.same ?_ ?_ ?_ ?_) fun h0 D3 => ?_) fun mi' ml' f o => k9 mi' ml' (f1.D.tr f) ?_
      · rw [pm_up_row _ _ (by omega)]
      · rw [pm_up_row _ _ (by omega)]
      · rw [pm_up_row _ _ (by omega)]
      · rw [pm_up_row _ _ (by omega)]
      · obtain ⟨d1, d2, n', n40, q1, q2, q3⟩ := (show mi3 (h + 12) 0 = r 0 ∧ mi3 (h + 12) 1 = r 1 ∧ RR mi3 (h + 13) 2 r from D3)
        show pm_up mi3 (h + 12) 0 (nI a) (h + 12) 0 = _ ∧ pm_up mi3 (h + 12) 0 (nI a) (h + 12) 1 = _ ∧ RR _ (h + 13) 2 _
        refine ⟨?_, ?_, n', n40, ?_, by rw [up1_n _ _ (by decide)]; exact q2, fun i hi => ?_⟩
        · rw [pm_up_s, up1_s]
        · rw [pm_up_j _ _ (by decide), up1_n _ _ (by decide)]; exact d2
        · rw [pm_up_row _ _ (by omega)]; exact q1
        · rw [pm_up_row (a := h + 13 + 1) _ _ (by omega), pm_up_row (a := h + 13 + 2) _ _ (by omega), pm_up_row (a := h + 13 + 3) _ _ (by omega), up1_n _ _ (by omega), up1_n _ _ (by omega), up1_n _ _ (by omega)]; exact q3 i hi
      · unfold lnT
        rw [hw]; exact o
  · exact Nat.lt_trans (wd_le (by decide) hw).2 (by decide)
  · unfold lnT
    rw [hw]; exact X1
end LNY
