/-! images: the class's copies -/
/-- at the places that P names -/
def cpP (P : Nat → Nat → Prop) (mi' : pm_I) (h : Nat) (mi : pm_I) (o : Nat) : Prop := ∀ j i, P j i → mi' (h + j) i = mi (o + j) i
def P0 (j i : Nat) : Prop := (j = 0 ∧ (i = 0 ∨ i = 1 ∨ i = 2 ∨ i = 4 ∨ i = 5)) ∨ ((j = 1 ∨ j = 2 ∨ j = 3 ∨ j = 4) ∧ i < 6) ∨ (j = 5 ∧ i < 4)
def P6 (j i : Nat) : Prop := (j = 0 ∧ i = 3) ∨ ((j = 1 ∨ j = 2 ∨ j = 3) ∧ i < 40)
def P10 (j i : Nat) : Prop := (j = 0 ∧ (i = 0 ∨ i = 1)) ∨ (j = 1 ∧ i = 3) ∨ ((j = 2 ∨ j = 3 ∨ j = 4) ∧ i < 40)
/-- outside of n cells nothing has changed -/
def frN (h n : Nat) (mi mi' : pm_I) (ml ml' : pm_L) : Prop := ∀ a, a < h ∨ h + n < a → mi' a = mi a ∧ ml' a = ml a
section COPY
variable {l : Launch} {d h o x z T : Nat} {kd : pm_K} {mr : pm_R} {mi : pm_I} {ml : pm_L}
theorem s_take0 {K : pm_I → pm_L → Prop} (th : TX0s kd mr h) (to : TX0s kd mr o) (ho : o + 5 < h ∨ h + 5 < o) (k9 : ∀ mi' ml', frN h 5 mi mi' ml ml' → cpP P0 mi' h mi o → ml' h 3 = ml o 3 → K mi' ml') : wV l M_X0_take (d + 1) [.ref h, .ref o] kd mr mi ml K := by
  refine w_X0_take th to ⟨by decide, fun m1 e1 => ⟨by decide, fun m2 e2 => ⟨by decide, fun m3 e3 => ⟨by decide, fun m4 e4 => ⟨by decide, fun m5 e5 => ?_⟩⟩⟩⟩⟩
  generalize e0 : pm_up (pm_up (pm_up (pm_up (pm_up mi h 0 (mi o 0)) h 1 ((pm_up mi h 0 (mi o 0)) o 1)) h 2 ((pm_up (pm_up mi h 0 (mi o 0)) h 1 ((pm_up mi h 0 (mi o 0)) o 1)) o 2)) h 4 ((pm_up (pm_up (pm_up mi h 0 (mi o 0)) h 1 ((pm_up mi h 0 (mi o 0)) o 1)) h 2 ((pm_up (pm_up mi h 0 (mi o 0)) h 1 ((pm_up mi h 0 (mi o 0)) o 1)) o 2)) o 4)) h 5 ((pm_up (pm_up (pm_up (pm_up mi h 0 (mi o 0)) h 1 ((pm_up mi h 0 (mi o 0)) o 1)) h 2 ((pm_up (pm_up mi h 0 (mi o 0)) h 1 ((pm_up mi h 0 (mi o 0)) o 1)) o 2)) h 4 ((pm_up (pm_up (pm_up mi h 0 (mi o 0)) h 1 ((pm_up mi h 0 (mi o 0)) o 1)) h 2 ((pm_up (pm_up mi h 0 (mi o 0)) h 1 ((pm_up mi h 0 (mi o 0)) o 1)) o 2)) o 4)) o 5) = m0 at e1
  have n0 : ∀ a, a ≠ h → m0 a = mi a := fun a ha => by
    rw [← e0, pm_up_row _ _ ha, pm_up_row _ _ ha, pm_up_row _ _ ha, pm_up_row _ _ ha, pm_up_row _ _ ha]
  have hne : ¬ o = h := by omega
  have f0 : m0 h 0 = mi o 0 ∧ m0 h 1 = mi o 1 ∧ m0 h 2 = mi o 2 ∧ m0 h 4 = mi o 4 ∧ m0 h 5 = mi o 5 := by
    rw [← e0]
    refine ⟨?_, ?_, ?_, ?_, ?_⟩ <;> simp [pm_up]
  clear e0
  have e1 : m1 = pm_ur m0 (h + 1) (va_cpy (m0 (o + 1)) (m0 (h + 1)) 0 0 6) := e1
  have e2 : m2 = pm_ur m1 (h + 2) (va_cpy (m1 (o + 2)) (m1 (h + 2)) 0 0 6) := e2
  have e3 : m3 = pm_ur m2 (h + 3) (va_cpy (m2 (o + 3)) (m2 (h + 3)) 0 0 6) := e3
  have e4 : m4 = pm_ur m3 (h + 4) (va_cpy (m3 (o + 4)) (m3 (h + 4)) 0 0 6) := e4
  have e5 : m5 = pm_ur m4 (h + 5) (va_cpy (m4 (o + 5)) (m4 (h + 5)) 0 0 4) := e5
  have n1 : ∀ a, a ≠ h + 1 → m1 a = m0 a := fun a ha => by rw [e1, pm_ur_k _ _ ha]
  have n2 : ∀ a, a ≠ h + 2 → m2 a = m1 a := fun a ha => by rw [e2, pm_ur_k _ _ ha]
  have n3 : ∀ a, a ≠ h + 3 → m3 a = m2 a := fun a ha => by rw [e3, pm_ur_k _ _ ha]
  have n4 : ∀ a, a ≠ h + 4 → m4 a = m3 a := fun a ha => by rw [e4, pm_ur_k _ _ ha]
  have n5 : ∀ a, a ≠ h + 5 → m5 a = m4 a := fun a ha => by rw [e5, pm_ur_k _ _ ha]
  refine k9 _ _ (fun a ha => ⟨by rw [n5 a (by omega), n4 a (by omega), n3 a (by omega), n2 a (by omega), n1 a (by omega), n0 a (by omega)], pm_up_row _ _ (by omega)⟩) (fun j i hP => ?_) (pm_up_s _ _ _ _)
  rcases hP with ⟨rfl, hi⟩ | ⟨rfl | rfl | rfl | rfl, hi⟩ | ⟨rfl, hi⟩
  · rw [Nat.add_zero, Nat.add_zero, n5 h (by omega), n4 h (by omega), n3 h (by omega), n2 h (by omega), n1 h (by omega)]
    rcases hi with rfl | rfl | rfl | rfl | rfl
    · exact f0.1
    · exact f0.2.1
    · exact f0.2.2.1
    · exact f0.2.2.2.1
    · exact f0.2.2.2.2
  · rw [n5 _ (by omega), n4 _ (by omega), n3 _ (by omega), n2 _ (by omega), e1, pm_ur_s, va_cpy0, if_pos hi, n0 _ (by omega)]
  · rw [n5 _ (by omega), n4 _ (by omega), n3 _ (by omega), e2, pm_ur_s, va_cpy0, if_pos hi, n1 _ (by omega), n0 _ (by omega)]
  · rw [n5 _ (by omega), n4 _ (by omega), e3, pm_ur_s, va_cpy0, if_pos hi, n2 _ (by omega), n1 _ (by omega), n0 _ (by omega)]
  · rw [n5 _ (by omega), e4, pm_ur_s, va_cpy0, if_pos hi, n3 _ (by omega), n2 _ (by omega), n1 _ (by omega), n0 _ (by omega)]
  · rw [e5, pm_ur_s, va_cpy0, if_pos hi, n4 _ (by omega), n3 _ (by omega), n2 _ (by omega), n1 _ (by omega), n0 _ (by omega)]
theorem s_take6 {K : pm_I → pm_L → Prop} (th : TX6s kd mr h) (to : TX6s kd mr o) (ho : o + 3 < h ∨ h + 3 < o) (k9 : ∀ mi', (∀ a, a < h ∨ h + 3 < a → mi' a = mi a) → (∀ i, i ≠ 3 → mi' h i = mi h i) → cpP P6 mi' h mi o → K mi' ml) : wV l M_X6_take (d + 1) [.ref h, .ref o] kd mr mi ml K := by
  refine w_X6_take th to ⟨by decide, fun m1 e1 => ⟨by decide, fun m2 e2 => ⟨by decide, fun m3 e3 => ?_⟩⟩⟩
  have n0 : ∀ a, a ≠ h → pm_up mi h 3 (mi o 3) a = mi a := fun a ha => pm_up_row _ _ ha
  have f0 : pm_up mi h 3 (mi o 3) h 3 = mi o 3 := pm_up_s _ _ _ _
  have g0 : ∀ i, i ≠ 3 → pm_up mi h 3 (mi o 3) h i = mi h i := fun i hi => pm_up_j _ _ hi
  generalize pm_up mi h 3 (mi o 3) = m0 at *
  have e1 : m1 = pm_ur m0 (h + 1) (va_cpy (m0 (o + 1)) (m0 (h + 1)) 0 0 40) := e1
  have e2 : m2 = pm_ur m1 (h + 2) (va_cpy (m1 (o + 2)) (m1 (h + 2)) 0 0 40) := e2
  have e3 : m3 = pm_ur m2 (h + 3) (va_cpy (m2 (o + 3)) (m2 (h + 3)) 0 0 40) := e3
  have n1 : ∀ a, a ≠ h + 1 → m1 a = m0 a := fun a ha => by rw [e1, pm_ur_k _ _ ha]
  have n2 : ∀ a, a ≠ h + 2 → m2 a = m1 a := fun a ha => by rw [e2, pm_ur_k _ _ ha]
  have n3 : ∀ a, a ≠ h + 3 → m3 a = m2 a := fun a ha => by rw [e3, pm_ur_k _ _ ha]
  refine k9 _ (fun a ha => by rw [n3 a (by omega), n2 a (by omega), n1 a (by omega), n0 a (by omega)]) (fun i hi => by rw [n3 h (by omega), n2 h (by omega), n1 h (by omega)]; exact g0 i hi) (fun j i hP => ?_)
  rcases hP with ⟨rfl, rfl⟩ | ⟨rfl | rfl | rfl, hi⟩
  · rw [Nat.add_zero, Nat.add_zero, n3 h (by omega), n2 h (by omega), n1 h (by omega)]
    exact f0
  · rw [n3 _ (by omega), n2 _ (by omega), e1, pm_ur_s, va_cpy0, if_pos hi, n0 _ (by omega)]
  · rw [n3 _ (by omega), e2, pm_ur_s, va_cpy0, if_pos hi, n1 _ (by omega), n0 _ (by omega)]
  · rw [e3, pm_ur_s, va_cpy0, if_pos hi, n2 _ (by omega), n1 _ (by omega), n0 _ (by omega)]
theorem s_take10 {K : pm_I → pm_L → Prop} (th : TX10s kd mr h) (to : TX10s kd mr o) (ho : o + 4 < h ∨ h + 4 < o) (k9 : ∀ mi', (∀ a, a < h ∨ h + 4 < a → mi' a = mi a) → cpP P10 mi' h mi o → K mi' ml) : wV l M_X10_take (d + 2) [.ref h, .ref o] kd mr mi ml K := by
  refine w_X10_take th to ?_
  have hne : ¬ o = h := by omega
  have n0 : ∀ a, a ≠ h → pm_up (pm_up mi h 0 (mi o 0)) h 1 (pm_up mi h 0 (mi o 0) o 1) a = mi a := fun a ha => by rw [pm_up_row _ _ ha, pm_up_row _ _ ha]
  have f0 : pm_up (pm_up mi h 0 (mi o 0)) h 1 (pm_up mi h 0 (mi o 0) o 1) h 0 = mi o 0 := by simp [pm_up]
  have f1 : pm_up (pm_up mi h 0 (mi o 0)) h 1 (pm_up mi h 0 (mi o 0) o 1) h 1 = mi o 1 := by simp [pm_up]
  generalize pm_up (pm_up mi h 0 (mi o 0)) h 1 (pm_up mi h 0 (mi o 0) o 1) = m0 at *
  refine s_take6 (TX10s_a2 th) (TX10s_a2 to) (by omega) fun mi' g1 g2 g3 => k9 mi' (fun a ha => by rw [g1 a (by omega), n0 a (by omega)]) fun j i hP => ?_
  rcases hP with ⟨rfl, rfl | rfl⟩ | ⟨rfl, rfl⟩ | ⟨rfl | rfl | rfl, hi⟩
  · rw [Nat.add_zero, Nat.add_zero, g1 h (by omega)]; exact f0
  · rw [Nat.add_zero, Nat.add_zero, g1 h (by omega)]; exact f1
  · have := g3 0 3 (Or.inl ⟨rfl, rfl⟩)
    rw [Nat.add_zero, Nat.add_zero, n0 _ (by omega)] at this; exact this
  · have := g3 1 i (Or.inr ⟨Or.inl rfl, hi⟩)
    rw [n0 _ (by omega)] at this; exact this
  · have := g3 2 i (Or.inr ⟨Or.inr (Or.inl rfl), hi⟩)
    rw [n0 _ (by omega)] at this; exact this
  · have := g3 3 i (Or.inr ⟨Or.inr (Or.inr rfl), hi⟩)
    rw [n0 _ (by omega)] at this; exact this
theorem cpP.same {P : Nat → Nat → Prop} {mi' mi2 : pm_I} (c : cpP P mi' h mi o) (n : Nat) (hP : ∀ j i, P j i → j ≤ n) (g : ∀ a, h ≤ a → a ≤ h + n → mi2 a = mi' a) : cpP P mi2 h mi o := fun j i q => by
  have := hP j i q
  rw [g (h + j) (by omega) (by omega)]; exact c j i q
theorem cpP.src {P : Nat → Nat → Prop} {mi' mi1 : pm_I} (c : cpP P mi' h mi1 o) (n : Nat) (hP : ∀ j i, P j i → j ≤ n) (g : ∀ a, o ≤ a → a ≤ o + n → mi1 a = mi a) : cpP P mi' h mi o := fun j i q => by
  have := hP j i q
  rw [c j i q, g (o + j) (by omega) (by omega)]
theorem P0.le {j i : Nat} (h : P0 j i) : j ≤ 5 := by unfold P0 at h; omega
theorem P6.le {j i : Nat} (h : P6 j i) : j ≤ 3 := by unfold P6 at h; omega
theorem P10.le {j i : Nat} (h : P10 j i) : j ≤ 4 := by unfold P10 at h; omega
/-- a whole Told is copied -/
def cpT (mi' : pm_I) (ml' : pm_L) (h : Nat) (mi : pm_I) (ml : pm_L) (o : Nat) : Prop := (mi' h 1 = mi o 1 ∧ mi' h 2 = mi o 2 ∧ mi' h 3 = mi o 3) ∧ (∀ i, i < 600 → mi' (h + 1) i = mi (o + 1) i) ∧ (∀ i, i < 4 → mi' (h + 2) i = mi (o + 2) i) ∧
  ∀ k, k < 2 → cpP P0 mi' (h + 7 + 19 * k) mi (o + 7 + 19 * k) ∧ ml' (h + 7 + 19 * k) 3 = ml (o + 7 + 19 * k) 3 ∧ cpP P6 mi' (h + 13 + 19 * k) mi (o + 13 + 19 * k) ∧ cpP P10 mi' (h + 17 + 19 * k) mi (o + 17 + 19 * k) ∧ cpP P6 mi' (h + 22 + 19 * k) mi (o + 22 + 19 * k)
theorem TX9s_two {h : Nat} (t : TX9s kd mr h) {k : Nat} (hk : k < 2) : (mr (h + 3) k = some (h + 7 + 19 * k) ∧ TX0s kd mr (h + 7 + 19 * k)) ∧ (mr (h + 4) k = some (h + 13 + 19 * k) ∧ TX6s kd mr (h + 13 + 19 * k)) ∧ (mr (h + 5) k = some (h + 17 + 19 * k) ∧ TX10s kd mr (h + 17 + 19 * k)) ∧ (mr (h + 6) k = some (h + 22 + 19 * k) ∧ TX6s kd mr (h + 22 + 19 * k)) := by
  rcases (show k = 0 ∨ k = 1 by omega) with rfl | rfl
  · exact ⟨⟨TX9s_e3_0 t, TX9s_o3_0 t⟩, ⟨TX9s_e4_0 t, TX9s_o4_0 t⟩, ⟨TX9s_e5_0 t, TX9s_o5_0 t⟩, ⟨TX9s_e6_0 t, TX9s_o6_0 t⟩⟩
  · exact ⟨⟨TX9s_e3_1 t, TX9s_o3_1 t⟩, ⟨TX9s_e4_1 t, TX9s_o4_1 t⟩, ⟨TX9s_e5_1 t, TX9s_o5_1 t⟩, ⟨TX9s_e6_1 t, TX9s_o6_1 t⟩⟩
theorem s_take9 {K : pm_I → pm_L → Prop} (th : TX9s kd mr h) (to : TX9s kd mr o) (ho : o + 44 < h ∨ h + 44 < o) (k9 : ∀ mi' ml', frN h 44 mi mi' ml ml' → cpT mi' ml' h mi ml o → K mi' ml') : wV l M_X9_take (d + 3) [.ref h, .ref o] kd mr mi ml K := by
  have hne : ¬ o = h := by omega
  refine w_X9_take th to ⟨by decide, fun m1 e1 => ⟨by decide, fun m2 e2 => ?_⟩⟩
  have e1 : m1 = pm_ur mi (h + 1) (va_cpy (mi (o + 1)) (mi (h + 1)) 0 0 600) := e1
  have n1 : ∀ a, a ≠ h + 1 → m1 a = mi a := fun a ha => by rw [e1, pm_ur_k _ _ ha]
  have r1 : ∀ i, i < 600 → m1 (h + 1) i = mi (o + 1) i := fun i hi => by rw [e1, pm_ur_s, va_cpy0, if_pos hi]
  have q0 : ∀ a, a ≠ h → pm_up (pm_up (pm_up m1 h 1 (m1 o 1)) h 2 ((pm_up m1 h 1 (m1 o 1)) o 2)) h 3 ((pm_up (pm_up m1 h 1 (m1 o 1)) h 2 ((pm_up m1 h 1 (m1 o 1)) o 2)) o 3) a = m1 a := fun a ha => by rw [pm_up_row _ _ ha, pm_up_row _ _ ha, pm_up_row _ _ ha]
  have q1 : pm_up (pm_up (pm_up m1 h 1 (m1 o 1)) h 2 ((pm_up m1 h 1 (m1 o 1)) o 2)) h 3 ((pm_up (pm_up m1 h 1 (m1 o 1)) h 2 ((pm_up m1 h 1 (m1 o 1)) o 2)) o 3) h 1 = m1 o 1 ∧ pm_up (pm_up (pm_up m1 h 1 (m1 o 1)) h 2 ((pm_up m1 h 1 (m1 o 1)) o 2)) h 3 ((pm_up (pm_up m1 h 1 (m1 o 1)) h 2 ((pm_up m1 h 1 (m1 o 1)) o 2)) o 3) h 2 = m1 o 2 ∧ pm_up (pm_up (pm_up m1 h 1 (m1 o 1)) h 2 ((pm_up m1 h 1 (m1 o 1)) o 2)) h 3 ((pm_up (pm_up m1 h 1 (m1 o 1)) h 2 ((pm_up m1 h 1 (m1 o 1)) o 2)) o 3) h 3 = m1 o 3 := by
    refine ⟨?_, ?_, ?_⟩ <;> simp [pm_up]
  generalize pm_up (pm_up (pm_up m1 h 1 (m1 o 1)) h 2 ((pm_up m1 h 1 (m1 o 1)) o 2)) h 3 ((pm_up (pm_up m1 h 1 (m1 o 1)) h 2 ((pm_up m1 h 1 (m1 o 1)) o 2)) o 3) = m0 at e2 q0 q1
  have e2 : m2 = pm_ur m0 (h + 2) (va_cpy (m0 (o + 2)) (m0 (h + 2)) 0 0 4) := e2
  have n2 : ∀ a, a ≠ h + 2 → m2 a = m0 a := fun a ha => by rw [e2, pm_ur_k _ _ ha]
  have hd : (m2 h 1 = mi o 1 ∧ m2 h 2 = mi o 2 ∧ m2 h 3 = mi o 3) ∧ (∀ i, i < 600 → m2 (h + 1) i = mi (o + 1) i) ∧ (∀ i, i < 4 → m2 (h + 2) i = mi (o + 2) i) := by
    rw [n2 h (by omega), n2 (h + 1) (by omega), q0 (h + 1) (by omega), q1.1, q1.2.1, q1.2.2, n1 o (by omega)]
    refine ⟨⟨rfl, rfl, rfl⟩, r1, fun i hi => ?_⟩
    rw [e2, pm_ur_s, va_cpy0, if_pos hi, q0 (o + 2) (by omega), n1 (o + 2) (by omega)]
  have fr2 : ∀ a, a < h ∨ h + 2 < a → m2 a = mi a := fun a ha => by rw [n2 a (by omega), q0 a (by omega), n1 a (by omega)]
  clear e1 e2 n1 n2 r1 q0 q1
  have loop : ∀ (u k : Nat) (mi1 : pm_I) (ml1 : pm_L), k + u = 2 → (∀ a, a < h + 7 ∨ h + 44 < a → mi1 a = m2 a ∧ ml1 a = ml a) → (∀ k', k' < k → cpP P0 mi1 (h + 7 + 19 * k') mi (o + 7 + 19 * k') ∧ ml1 (h + 7 + 19 * k') 3 = ml (o + 7 + 19 * k') 3 ∧ cpP P6 mi1 (h + 13 + 19 * k') mi (o + 13 + 19 * k') ∧ cpP P10 mi1 (h + 17 + 19 * k') mi (o + 17 + 19 * k') ∧ cpP P6 mi1 (h + 22 + 19 * k') mi (o + 22 + 19 * k')) → c_X9_take_56 l (d + 3) kd mr h o (nI k) mi1 ml1 K := by
    intro u
    induction u with
    | zero =>
      intro k mi1 ml1 hk g1 g2
      have : k = 2 := by omega
      subst this
      refine w_X9_take_56 th to ⟨fun _ => k9 mi1 ml1 (fun a ha => ⟨by rw [(g1 a (by omega)).1, fr2 a (by omega)], (g1 a (by omega)).2⟩) ⟨?_, ?_, ?_, g2⟩, fun h => absurd (nI_le (Nat.le_refl 2) (by omega)) h⟩
      · rw [(g1 h (by omega)).1]; exact hd.1
      · rw [(g1 (h + 1) (by omega)).1]; exact hd.2.1
      · rw [(g1 (h + 2) (by omega)).1]; exact hd.2.2
    | succ u ih =>
      intro k mi1 ml1 hk g1 g2
      have hk2 : k < 2 := by omega
      obtain ⟨⟨a1, a2⟩, ⟨a3, a4⟩, ⟨a5, a6⟩, a7, a8⟩ := TX9s_two th hk2
      obtain ⟨⟨b1, b2⟩, ⟨b3, b4⟩, ⟨b5, b6⟩, b7, b8⟩ := TX9s_two to hk2
      have vin : vp_in (nI k) 2 := z_in hk2 (by omega)
      have so : ∀ a, o ≤ a → a ≤ o + 44 → mi1 a = mi a ∧ ml1 a = ml a := fun a h1 h2 => ⟨by rw [(g1 a (by omega)).1, fr2 a (by omega)], (g1 a (by omega)).2⟩
      refine w_X9_take_56 th to ⟨fun h => absurd h (nI_ge (b := 2) (by omega) (by omega)), fun _ => ⟨vin, h + 7 + 19 * k, by rw [z_cl (by omega)]; exact a1, a2, vin, o + 7 + 19 * k, by rw [z_cl (by omega)]; exact b1, b2, ?_⟩⟩
      refine s_take0 a2 b2 (by omega) fun mA mlA fA cA wA => ⟨vin, h + 13 + 19 * k, by rw [z_cl (by omega)]; exact a3, a4, vin, o + 13 + 19 * k, by rw [z_cl (by omega)]; exact b3, b4, ?_⟩
      refine s_take6 a4 b4 (by omega) fun mB fB _ cB => ⟨vin, h + 17 + 19 * k, by rw [z_cl (by omega)]; exact a5, a6, vin, o + 17 + 19 * k, by rw [z_cl (by omega)]; exact b5, b6, ?_⟩
      refine s_take10 a6 b6 (by omega) fun mC fC cC => ⟨vin, h + 22 + 19 * k, by rw [z_cl (by omega)]; exact a7, a8, vin, o + 22 + 19 * k, by rw [z_cl (by omega)]; exact b7, b8, ?_⟩
      refine s_take6 a8 b8 (by omega) fun mD fD _ cD => ?_
      rw [nI_1]
      refine ih (k + 1) mD mlA (by omega) (fun a ha => ⟨?_, ?_⟩) fun k' hk' => ?_
      · rw [fD a (by omega), fC a (by omega), fB a (by omega), (fA a (by omega)).1]; exact (g1 a ha).1
      · rw [(fA a (by omega)).2]; exact (g1 a ha).2
      · by_cases e : k' = k
        · subst e
          refine ⟨?_, ?_, ?_, ?_, ?_⟩
          · exact (cA.same 5 (fun _ _ q => q.le) fun a q1 q2 => by rw [fD a (by omega), fC a (by omega), fB a (by omega)]).src 5 (fun _ _ q => q.le) fun a q1 q2 => (so a (by omega) (by omega)).1
          · rw [wA]; rw [(so _ (by omega) (by omega)).2]
          · exact (cB.same 3 (fun _ _ q => q.le) fun a q1 q2 => by rw [fD a (by omega), fC a (by omega)]).src 3 (fun _ _ q => q.le) fun a q1 q2 => by rw [(fA a (by omega)).1]; exact (so a (by omega) (by omega)).1
          · exact (cC.same 4 (fun _ _ q => q.le) fun a q1 q2 => by rw [fD a (by omega)]).src 4 (fun _ _ q => q.le) fun a q1 q2 => by rw [fB a (by omega), (fA a (by omega)).1]; exact (so a (by omega) (by omega)).1
          · exact cD.src 3 (fun _ _ q => q.le) fun a q1 q2 => by rw [fC a (by omega), fB a (by omega), (fA a (by omega)).1]; exact (so a (by omega) (by omega)).1
        · obtain ⟨c1, c2, c3, c4, c5⟩ := g2 k' (by omega)
          have all : ∀ a, h + 7 + 19 * k' ≤ a → a ≤ h + 25 + 19 * k' → mD a = mi1 a := fun a q1 q2 => by rw [fD a (by omega), fC a (by omega), fB a (by omega), (fA a (by omega)).1]
          refine ⟨c1.same 5 (fun _ _ q => q.le) fun a q1 q2 => all a (by omega) (by omega), ?_, c3.same 3 (fun _ _ q => q.le) fun a q1 q2 => all a (by omega) (by omega), c4.same 4 (fun _ _ q => q.le) fun a q1 q2 => all a (by omega) (by omega), c5.same 3 (fun _ _ q => q.le) fun a q1 q2 => all a (by omega) (by omega)⟩
          rw [(fA _ (by omega)).2]; exact c2
  exact loop 2 0 m2 ml rfl (fun a _ => ⟨rfl, rfl⟩) fun k' hk' => by omega
end COPY
