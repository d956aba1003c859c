/-! text: class = reference -/
section TX2
variable {l : Launch} {d x z T k j n m : Nat} {kd : pm_K} {mr : pm_R} {mi mi' : pm_I} {ml ml' : pm_L} {t : Nat → Nat} {q r : Nat → Int32} {a b : Int32}
theorem tC_new (H : tC mi ml T z 0 m) (hj : j ≤ m) (hj2 : j < 2) (e1 : mi' (T + 2) 0 = nI (max m (j + 1))) (e2 : mi' (z + 5) 0 = nI (max m (j + 1))) (O : okC q) (C : CC mi' ml' (T + 7 + 19 * j) q) (eq : ∀ i, i < 53 → mi' (z + 6) (53 * j + i) = q i)
    (old : ∀ k, k < 2 → k ≠ j → (∀ a, T + 7 + 19 * k ≤ a → a ≤ T + 7 + 19 * k + 5 → mi' a = mi a ∧ ml' a = ml a) ∧ ∀ i, i < 53 → mi' (z + 6) (53 * k + i) = mi (z + 6) (53 * k + i)) : tC mi' ml' T z 0 (max m (j + 1)) := by
  obtain ⟨H1, -, -, H4⟩ := H
  refine ⟨by omega, e1, e2, fun k hk => ?_⟩
  by_cases e : k = j
  · subst e
    have ee : ∀ i, i < 53 → (fun i => mi' (z + 6) (106 * 0 + 53 * k + i)) i = q i := fun i hi => by
      show mi' (z + 6) (106 * 0 + 53 * k + i) = q i
      rw [show 106 * 0 + 53 * k + i = 53 * k + i by omega]; exact eq i hi
    exact ⟨O.congr ee, C.congr ee O.2.2.2.2.1 O.2.2.2.2.2.1⟩
  · obtain ⟨O', C'⟩ := H4 k (by omega)
    obtain ⟨o1, o2⟩ := old k (by omega) e
    have ee : ∀ i, i < 53 → (fun i => mi' (z + 6) (106 * 0 + 53 * k + i)) i = (fun i => mi (z + 6) (106 * 0 + 53 * k + i)) i := fun i hi => by
      show mi' (z + 6) (106 * 0 + 53 * k + i) = mi (z + 6) (106 * 0 + 53 * k + i)
      rw [show 106 * 0 + 53 * k + i = 53 * k + i by omega]; exact o2 i hi
    exact ⟨O'.congr ee, (C'.same (fun a h1 h2 => (o1 a h1 h2).1) (o1 _ (Nat.le_refl _) (by omega)).2).congr ee O'.2.2.2.2.1 O'.2.2.2.2.2.1⟩
theorem RR_cg {o c0 : Nat} {q' : Nat → Int32} (R : RR mi o c0 q) (e : ∀ i, i < c0 + 1 + 3 * gN q c0 → q' i = q i) : RR mi o c0 q' := R.mv (h := o) (fun _ _ _ => rfl) e
theorem tN_new (H : tN mi T z 0 m) (hj : j ≤ m) (hj2 : j < 2) (e1 : mi' (T + 2) 1 = nI (max m (j + 1))) (e2 : mi' (z + 5) 1 = nI (max m (j + 1))) (O : okN q) (C : RR mi' (T + 13 + 19 * j) 0 q) (eq : ∀ i, i < 121 → mi' (z + 7) (121 * j + i) = q i)
    (old : ∀ k, k < 2 → k ≠ j → (∀ a, T + 13 + 19 * k ≤ a → a ≤ T + 13 + 19 * k + 3 → mi' a = mi a) ∧ ∀ i, i < 121 → mi' (z + 7) (121 * k + i) = mi (z + 7) (121 * k + i)) : tN mi' T z 0 (max m (j + 1)) := by
  obtain ⟨⟨H1, -, -, H4⟩, H5⟩ := H
  have key : ∀ k, k < max m (j + 1) → RR mi' (T + 13 + 19 * k) 0 (fun i => mi' (z + 7) (2 * 121 * 0 + 121 * k + i)) ∧ okN fun i => mi' (z + 7) (2 * 121 * 0 + 121 * k + i) := fun k hk => by
    by_cases e : k = j
    · subst e
      have ee : ∀ i, i < 121 → (fun i => mi' (z + 7) (2 * 121 * 0 + 121 * k + i)) i = q i := fun i hi => by
        show mi' (z + 7) (2 * 121 * 0 + 121 * k + i) = q i
        rw [show 2 * 121 * 0 + 121 * k + i = 121 * k + i by omega]; exact eq i hi
      have := O.1
      exact ⟨RR_cg C fun i hi => ee i (by omega), O.congr ee⟩
    · have R' := H4 k (by omega)
      have O' := H5 k (by omega)
      obtain ⟨o1, o2⟩ := old k (by omega) e
      have ee : ∀ i, i < 121 → (fun i => mi' (z + 7) (2 * 121 * 0 + 121 * k + i)) i = (fun i => mi (z + 7) (2 * 121 * 0 + 121 * k + i)) i := fun i hi => by
        show mi' (z + 7) (2 * 121 * 0 + 121 * k + i) = mi (z + 7) (2 * 121 * 0 + 121 * k + i)
        rw [show 2 * 121 * 0 + 121 * k + i = 121 * k + i by omega]; exact o2 i hi
      have := O'.1
      exact ⟨RR_cg (R'.same (o1 _ (by omega) (by omega)) (o1 _ (by omega) (by omega)) (o1 _ (by omega) (by omega)) (o1 _ (by omega) (by omega))) fun i hi => ee i (by omega), O'.congr ee⟩
  exact ⟨⟨by omega, e1, e2, fun k hk => (key k hk).1⟩, fun k hk => (key k hk).2⟩
theorem tS_new (H : tS mi T z 0 m) (hj : j ≤ m) (hj2 : j < 2) (e1 : mi' (T + 2) 3 = nI (max m (j + 1))) (e2 : mi' (z + 5) 3 = nI (max m (j + 1))) (O : okS q) (C : RR mi' (T + 22 + 19 * j) 0 q) (eq : ∀ i, i < 31 → mi' (z + 9) (31 * j + i) = q i)
    (old : ∀ k, k < 2 → k ≠ j → (∀ a, T + 22 + 19 * k ≤ a → a ≤ T + 22 + 19 * k + 3 → mi' a = mi a) ∧ ∀ i, i < 31 → mi' (z + 9) (31 * k + i) = mi (z + 9) (31 * k + i)) : tS mi' T z 0 (max m (j + 1)) := by
  obtain ⟨⟨H1, -, -, H4⟩, H5⟩ := H
  have key : ∀ k, k < max m (j + 1) → RR mi' (T + 22 + 19 * k) 0 (fun i => mi' (z + 9) (2 * 31 * 0 + 31 * k + i)) ∧ okS fun i => mi' (z + 9) (2 * 31 * 0 + 31 * k + i) := fun k hk => by
    by_cases e : k = j
    · subst e
      have ee : ∀ i, i < 31 → (fun i => mi' (z + 9) (2 * 31 * 0 + 31 * k + i)) i = q i := fun i hi => by
        show mi' (z + 9) (2 * 31 * 0 + 31 * k + i) = q i
        rw [show 2 * 31 * 0 + 31 * k + i = 31 * k + i by omega]; exact eq i hi
      have := O.1
      exact ⟨RR_cg C fun i hi => ee i (by omega), O.congr ee⟩
    · have R' := H4 k (by omega)
      have O' := H5 k (by omega)
      obtain ⟨o1, o2⟩ := old k (by omega) e
      have ee : ∀ i, i < 31 → (fun i => mi' (z + 9) (2 * 31 * 0 + 31 * k + i)) i = (fun i => mi (z + 9) (2 * 31 * 0 + 31 * k + i)) i := fun i hi => by
        show mi' (z + 9) (2 * 31 * 0 + 31 * k + i) = mi (z + 9) (2 * 31 * 0 + 31 * k + i)
        rw [show 2 * 31 * 0 + 31 * k + i = 31 * k + i by omega]; exact o2 i hi
      have := O'.1
      exact ⟨RR_cg (R'.same (o1 _ (by omega) (by omega)) (o1 _ (by omega) (by omega)) (o1 _ (by omega) (by omega)) (o1 _ (by omega) (by omega))) fun i hi => ee i (by omega), O'.congr ee⟩
  exact ⟨⟨by omega, e1, e2, fun k hk => (key k hk).1⟩, fun k hk => (key k hk).2⟩
theorem tT_new (H : tT mi T z 0 m) (hj : j ≤ m) (hj2 : j < 2) (e1 : mi' (T + 2) 2 = nI (max m (j + 1))) (e2 : mi' (z + 5) 2 = nI (max m (j + 1))) (O : okT q) (C : mi' (T + 17 + 19 * j) 0 = q 0 ∧ mi' (T + 17 + 19 * j) 1 = q 1 ∧ RR mi' (T + 17 + 19 * j + 1) 2 q) (eq : ∀ i, i < 39 → mi' (z + 8) (39 * j + i) = q i)
    (old : ∀ k, k < 2 → k ≠ j → (∀ a, T + 17 + 19 * k ≤ a → a ≤ T + 17 + 19 * k + 4 → mi' a = mi a) ∧ ∀ i, i < 39 → mi' (z + 8) (39 * k + i) = mi (z + 8) (39 * k + i)) : tT mi' T z 0 (max m (j + 1)) := by
  obtain ⟨H1, -, -, H4⟩ := H
  refine ⟨by omega, e1, e2, fun k hk => ?_⟩
  by_cases e : k = j
  · subst e
    have ee : ∀ i, i < 39 → (fun i => mi' (z + 8) (78 * 0 + 39 * k + i)) i = q i := fun i hi => by
      show mi' (z + 8) (78 * 0 + 39 * k + i) = q i
      rw [show 78 * 0 + 39 * k + i = 39 * k + i by omega]; exact eq i hi
    have := O.1
    have e0 : mi' (z + 8) (78 * 0 + 39 * k) = q 0 := ee 0 (by omega)
    have e1 : mi' (z + 8) (78 * 0 + 39 * k + 1) = q 1 := ee 1 (by omega)
    rw [e0, e1]
    exact ⟨O.congr ee, C.1, C.2.1, RR_cg C.2.2 fun i hi => ee i (by omega)⟩
  · obtain ⟨O', w0, w1, R'⟩ := H4 k (by omega)
    obtain ⟨o1, o2⟩ := old k (by omega) e
    have ee : ∀ i, i < 39 → (fun i => mi' (z + 8) (78 * 0 + 39 * k + i)) i = (fun i => mi (z + 8) (78 * 0 + 39 * k + i)) i := fun i hi => by
      show mi' (z + 8) (78 * 0 + 39 * k + i) = mi (z + 8) (78 * 0 + 39 * k + i)
      rw [show 78 * 0 + 39 * k + i = 39 * k + i by omega]; exact o2 i hi
    have := O'.1
    have e0 : mi' (z + 8) (78 * 0 + 39 * k) = mi (z + 8) (78 * 0 + 39 * k) := ee 0 (by omega)
    have e1 : mi' (z + 8) (78 * 0 + 39 * k + 1) = mi (z + 8) (78 * 0 + 39 * k + 1) := ee 1 (by omega)
    rw [e0, e1, o1 _ (Nat.le_refl _) (by omega)]
    exact ⟨O'.congr ee, w0, w1, RR_cg (R'.same (o1 _ (by omega) (by omega)) (o1 _ (by omega) (by omega)) (o1 _ (by omega) (by omega)) (o1 _ (by omega) (by omega))) fun i hi => ee i (by omega)⟩
/-- a sort that has not changed: its count, its row of the reference, its slots of the class -/
theorem tC_old (H : tC mi ml T z 0 m) (e1 : mi' (T + 2) 0 = mi (T + 2) 0) (e2 : mi' (z + 5) 0 = mi (z + 5) 0) (e3 : mi' (z + 6) = mi (z + 6)) (old : ∀ k, k < 2 → ∀ a, T + 7 + 19 * k ≤ a → a ≤ T + 7 + 19 * k + 5 → mi' a = mi a ∧ ml' a = ml a) : tC mi' ml' T z 0 m := by
  obtain ⟨H1, H2, H3, H4⟩ := H
  refine ⟨H1, e1.trans H2, e2.trans H3, fun k hk => ?_⟩
  rw [e3]
  exact ⟨(H4 k hk).1, (H4 k hk).2.same (fun a h1 h2 => (old k (by omega) a h1 h2).1) (old k (by omega) _ (Nat.le_refl _) (by omega)).2⟩
theorem tN_old (H : tN mi T z 0 m) (e1 : mi' (T + 2) 1 = mi (T + 2) 1) (e2 : mi' (z + 5) 1 = mi (z + 5) 1) (e3 : mi' (z + 7) = mi (z + 7)) (old : ∀ k, k < 2 → ∀ a, T + 13 + 19 * k ≤ a → a ≤ T + 13 + 19 * k + 3 → mi' a = mi a) : tN mi' T z 0 m := by
  obtain ⟨⟨H1, H2, H3, H4⟩, H5⟩ := H
  refine ⟨⟨H1, e1.trans H2, e2.trans H3, fun k hk => ?_⟩, fun k hk => ?_⟩
  · rw [e3]
    exact (H4 k hk).same (old k (by omega) _ (by omega) (by omega)) (old k (by omega) _ (by omega) (by omega)) (old k (by omega) _ (by omega) (by omega)) (old k (by omega) _ (by omega) (by omega))
  · rw [e3]; exact H5 k hk
theorem tS_old (H : tS mi T z 0 m) (e1 : mi' (T + 2) 3 = mi (T + 2) 3) (e2 : mi' (z + 5) 3 = mi (z + 5) 3) (e3 : mi' (z + 9) = mi (z + 9)) (old : ∀ k, k < 2 → ∀ a, T + 22 + 19 * k ≤ a → a ≤ T + 22 + 19 * k + 3 → mi' a = mi a) : tS mi' T z 0 m := by
  obtain ⟨⟨H1, H2, H3, H4⟩, H5⟩ := H
  refine ⟨⟨H1, e1.trans H2, e2.trans H3, fun k hk => ?_⟩, fun k hk => ?_⟩
  · rw [e3]
    exact (H4 k hk).same (old k (by omega) _ (by omega) (by omega)) (old k (by omega) _ (by omega) (by omega)) (old k (by omega) _ (by omega) (by omega)) (old k (by omega) _ (by omega) (by omega))
  · rw [e3]; exact H5 k hk
theorem tT_old (H : tT mi T z 0 m) (e1 : mi' (T + 2) 2 = mi (T + 2) 2) (e2 : mi' (z + 5) 2 = mi (z + 5) 2) (e3 : mi' (z + 8) = mi (z + 8)) (old : ∀ k, k < 2 → ∀ a, T + 17 + 19 * k ≤ a → a ≤ T + 17 + 19 * k + 4 → mi' a = mi a) : tT mi' T z 0 m := by
  obtain ⟨H1, H2, H3, H4⟩ := H
  refine ⟨H1, e1.trans H2, e2.trans H3, fun k hk => ?_⟩
  obtain ⟨O', w0, w1, R'⟩ := H4 k hk
  rw [e3, old k (by omega) _ (Nat.le_refl _) (by omega)]
  exact ⟨O', w0, w1, R'.same (old k (by omega) _ (by omega) (by omega)) (old k (by omega) _ (by omega) (by omega)) (old k (by omega) _ (by omega) (by omega)) (old k (by omega) _ (by omega) (by omega))⟩
/-- how many of each sort there are -/
theorem tI_many (H : tI mi ml T z 0) (hk : k < 4) : ∃ m, m ≤ 2 ∧ mi (T + 2) k = nI m ∧ mi (z + 5) k = nI m := by
  obtain ⟨-, ⟨m0, h0⟩, ⟨m1, h1⟩, ⟨m2, h2⟩, m3, h3⟩ := H
  rcases (show k = 0 ∨ k = 1 ∨ k = 2 ∨ k = 3 by omega) with rfl | rfl | rfl | rfl
  · exact ⟨m0, h0.1, h0.2.1, h0.2.2.1⟩
  · exact ⟨m1, h1.1.1, h1.1.2.1, h1.1.2.2.1⟩
  · exact ⟨m2, h2.1, h2.2.1, h2.2.2.1⟩
  · exact ⟨m3, h3.1.1, h3.1.2.1, h3.1.2.2.1⟩
/-- one sort has a new row, all else stands -/
theorem tI_new (H : tI mi ml T z 0) (hk : k < 4) (hm : mi (T + 2) k = nI m) (hm2 : m ≤ 2) (hjm : j ≤ m) (hj2 : j < 2) (hp : tP mi' T z 0) (e1 : mi' (T + 2) k = nI (max m (j + 1))) (e2 : mi' (z + 5) k = nI (max m (j + 1))) (e1' : ∀ i, i ≠ k → mi' (T + 2) i = mi (T + 2) i) (e2' : ∀ i, i ≠ k → mi' (z + 5) i = mi (z + 5) i) (O : okA k q) (S : SlX k mi' ml' (T + offS k + 19 * j) q)
    (f1 : ∀ a, T + 3 ≤ a → a ≤ T + 44 → (a < T + offS k + 19 * j ∨ T + offS k + 19 * j + lenS k < a) → mi' a = mi a ∧ ml' a = ml a) (f2 : ∀ a, z + 6 ≤ a → a ≤ z + 9 → a ≠ z + 6 + k → mi' a = mi a) (f3 : ∀ i, i < wdS k → mi' (z + 6 + k) (wdS k * j + i) = q i) (f4 : ∀ i, (i < wdS k * j ∨ wdS k * j + wdS k ≤ i) → mi' (z + 6 + k) i = mi (z + 6 + k) i) : tI mi' ml' T z 0 := by
  obtain ⟨-, ⟨m0, h0⟩, ⟨m1, h1⟩, ⟨m2, h2⟩, m3, h3⟩ := H
  have cnt : ∀ c, c ≤ 2 → mi (T + 2) k = nI c → c = m := fun c hc e => by
    have h : nI c = nI m := e.symm.trans hm
    rwa [z_eq (by omega) (by omega)] at h
  rcases (show k = 0 ∨ k = 1 ∨ k = 2 ∨ k = 3 by omega) with rfl | rfl | rfl | rfl
  · have em := cnt m0 h0.1 h0.2.1
    subst em
    have f1 : ∀ a, T + 3 ≤ a → a ≤ T + 44 → (a < T + 7 + 19 * j ∨ T + 7 + 19 * j + 5 < a) → mi' a = mi a ∧ ml' a = ml a := f1
    have f4 : ∀ i, (i < 53 * j ∨ 53 * j + 53 ≤ i) → mi' (z + 6) i = mi (z + 6) i := f4
    refine ⟨hp, ⟨_, tC_new h0 hjm hj2 e1 e2 O S f3 fun k' hk' hne => ⟨fun a q1 q2 => f1 a (by omega) (by omega) (by omega), fun i hi => f4 _ (by omega)⟩⟩, ⟨m1, tN_old h1 (e1' 1 (by omega)) (e2' 1 (by omega)) (f2 (z + 7) (by omega) (by omega) (by omega)) fun k' hk' a q1 q2 => (f1 a (by omega) (by omega) (by omega)).1⟩, ⟨m2, tT_old h2 (e1' 2 (by omega)) (e2' 2 (by omega)) (f2 (z + 8) (by omega) (by omega) (by omega)) fun k' hk' a q1 q2 => (f1 a (by omega) (by omega) (by omega)).1⟩, m3, tS_old h3 (e1' 3 (by omega)) (e2' 3 (by omega)) (f2 (z + 9) (by omega) (by omega) (by omega)) fun k' hk' a q1 q2 => (f1 a (by omega) (by omega) (by omega)).1⟩
  · have em := cnt m1 h1.1.1 h1.1.2.1
    subst em
    have f1 : ∀ a, T + 3 ≤ a → a ≤ T + 44 → (a < T + 13 + 19 * j ∨ T + 13 + 19 * j + 3 < a) → mi' a = mi a ∧ ml' a = ml a := f1
    have f4 : ∀ i, (i < 121 * j ∨ 121 * j + 121 ≤ i) → mi' (z + 7) i = mi (z + 7) i := f4
    refine ⟨hp, ⟨m0, tC_old h0 (e1' 0 (by omega)) (e2' 0 (by omega)) (f2 (z + 6) (by omega) (by omega) (by omega)) fun k' hk' a q1 q2 => f1 a (by omega) (by omega) (by omega)⟩, ⟨_, tN_new h1 hjm hj2 e1 e2 O S f3 fun k' hk' hne => ⟨fun a q1 q2 => (f1 a (by omega) (by omega) (by omega)).1, fun i hi => f4 _ (by omega)⟩⟩, ⟨m2, tT_old h2 (e1' 2 (by omega)) (e2' 2 (by omega)) (f2 (z + 8) (by omega) (by omega) (by omega)) fun k' hk' a q1 q2 => (f1 a (by omega) (by omega) (by omega)).1⟩, m3, tS_old h3 (e1' 3 (by omega)) (e2' 3 (by omega)) (f2 (z + 9) (by omega) (by omega) (by omega)) fun k' hk' a q1 q2 => (f1 a (by omega) (by omega) (by omega)).1⟩
  · have em := cnt m2 h2.1 h2.2.1
    subst em
    have f1 : ∀ a, T + 3 ≤ a → a ≤ T + 44 → (a < T + 17 + 19 * j ∨ T + 17 + 19 * j + 4 < a) → mi' a = mi a ∧ ml' a = ml a := f1
    have f4 : ∀ i, (i < 39 * j ∨ 39 * j + 39 ≤ i) → mi' (z + 8) i = mi (z + 8) i := f4
    refine ⟨hp, ⟨m0, tC_old h0 (e1' 0 (by omega)) (e2' 0 (by omega)) (f2 (z + 6) (by omega) (by omega) (by omega)) fun k' hk' a q1 q2 => f1 a (by omega) (by omega) (by omega)⟩, ⟨m1, tN_old h1 (e1' 1 (by omega)) (e2' 1 (by omega)) (f2 (z + 7) (by omega) (by omega) (by omega)) fun k' hk' a q1 q2 => (f1 a (by omega) (by omega) (by omega)).1⟩, ⟨_, tT_new h2 hjm hj2 e1 e2 O S f3 fun k' hk' hne => ⟨fun a q1 q2 => (f1 a (by omega) (by omega) (by omega)).1, fun i hi => f4 _ (by omega)⟩⟩, m3, tS_old h3 (e1' 3 (by omega)) (e2' 3 (by omega)) (f2 (z + 9) (by omega) (by omega) (by omega)) fun k' hk' a q1 q2 => (f1 a (by omega) (by omega) (by omega)).1⟩
  · have em := cnt m3 h3.1.1 h3.1.2.1
    subst em
    have f1 : ∀ a, T + 3 ≤ a → a ≤ T + 44 → (a < T + 22 + 19 * j ∨ T + 22 + 19 * j + 3 < a) → mi' a = mi a ∧ ml' a = ml a := f1
    have f4 : ∀ i, (i < 31 * j ∨ 31 * j + 31 ≤ i) → mi' (z + 9) i = mi (z + 9) i := f4
    refine ⟨hp, ⟨m0, tC_old h0 (e1' 0 (by omega)) (e2' 0 (by omega)) (f2 (z + 6) (by omega) (by omega) (by omega)) fun k' hk' a q1 q2 => f1 a (by omega) (by omega) (by omega)⟩, ⟨m1, tN_old h1 (e1' 1 (by omega)) (e2' 1 (by omega)) (f2 (z + 7) (by omega) (by omega) (by omega)) fun k' hk' a q1 q2 => (f1 a (by omega) (by omega) (by omega)).1⟩, ⟨m2, tT_old h2 (e1' 2 (by omega)) (e2' 2 (by omega)) (f2 (z + 8) (by omega) (by omega) (by omega)) fun k' hk' a q1 q2 => (f1 a (by omega) (by omega) (by omega)).1⟩, _, tS_new h3 hjm hj2 e1 e2 O S f3 fun k' hk' hne => ⟨fun a q1 q2 => (f1 a (by omega) (by omega) (by omega)).1, fun i hi => f4 _ (by omega)⟩⟩
theorem X_textNo {K : Int32 → pm_I → pm_L → Prop} (tx : TX11s kd mr x) (h : isK a 4 = false ∨ ∃ k m, k < 4 ∧ a = nI k ∧ mi (x + 3) k = nI m ∧ m ≤ 2 ∧ ¬ ∃ j, mayT b m j)
    (k9 : ∀ mi', (∀ c, c ≠ x + 1 → mi' c = mi c) → mi' (x + 1) 1 = nI 0 → mi' (x + 1) 2 = 0 → mi' (x + 1) 3 = -1 → K (-2) mi' ml) : wI l M_X11_text (d + 1) [.ref x, .int a, .int b] kd mr mi ml K := by
  refine w_X11_text tx ?_
  have A0 : ∀ c, c ≠ x + 1 → pm_up (pm_up (pm_up mi (x + 1) 1 0) (x + 1) 2 0) (x + 1) 3 (-1) c = mi c := fun c hc => by rw [pm_up_row _ _ hc, pm_up_row _ _ hc, pm_up_row _ _ hc]
  have A1 : pm_up (pm_up (pm_up mi (x + 1) 1 0) (x + 1) 2 0) (x + 1) 3 (-1) (x + 1) 1 = nI 0 := by rw [pm_up_j _ _ (by decide), pm_up_j _ _ (by decide), pm_up_s]; rfl
  have A2 : pm_up (pm_up (pm_up mi (x + 1) 1 0) (x + 1) 2 0) (x + 1) 3 (-1) (x + 1) 2 = 0 := by rw [pm_up_j _ _ (by decide), pm_up_s]
  have A3 : pm_up (pm_up (pm_up mi (x + 1) 1 0) (x + 1) 2 0) (x + 1) 3 (-1) (x + 1) 3 = -1 := pm_up_s _ _ _ _
  generalize pm_up (pm_up (pm_up mi (x + 1) 1 0) (x + 1) 2 0) (x + 1) 3 (-1) = miA at *
  have kk : K (-2) miA ml := k9 miA A0 A1 A2 A3
  rcases h with h | ⟨k, m, hk, rfl, hm, hm2, hno⟩
  · refine w_X9_manyOf (TX11s_a0 tx) ⟨fun _ => ⟨fun _ => kk, fun q => absurd rfl q⟩, fun q => ⟨fun _ => ⟨fun _ => kk, fun q => absurd rfl q⟩, fun q4 => ?_⟩⟩
    obtain ⟨n, hn, rfl⟩ := (z_cases a).resolve_left q
    have q4 : ¬ nI 4 ≤ nI n := q4
    rw [z_le (by omega) hn] at q4
    rw [isK_nI hn, decide_eq_true (by omega)] at h; cases h
  · have hmA : miA (x + 1 + 2) k = nI m := by rw [A0 _ (by omega)]; exact hm
    refine w_X9_manyOf (TX11s_a0 tx) ⟨fun q => absurd q (nI_pos (by omega)), fun _ => ⟨fun q => absurd q (nI_ge (b := 4) hk (by omega)), fun _ => ⟨z_in hk (by omega), ?_⟩⟩⟩
    rw [z_cl (by omega), hmA]
    have e2 : ((2 : Int32) ≤ nI m) = (2 ≤ m) := z_le (a := 2) (by omega) (by omega)
    refine ⟨fun _ => kk, fun _ => ⟨fun h => ?_, fun _ => ⟨fun h => ?_, fun _ => kk⟩⟩⟩
    · rw [Bool.and_eq_true, Bool.not_eq_true', decide_eq_true_eq, decide_eq_false_iff_not, e2] at h
      exact absurd ⟨m, Or.inl ⟨h.1, by omega, rfl⟩⟩ hno
    · rw [Bool.and_eq_true, Bool.not_eq_true', Bool.not_eq_true', decide_eq_false_iff_not, decide_eq_false_iff_not] at h
      obtain ⟨j, hj, rfl⟩ := (z_cases b).resolve_left h.1
      have h2 := h.2
      rw [z_le (by omega) hj] at h2
      exact absurd ⟨j, Or.inr ⟨rfl, by omega⟩⟩ hno
theorem Z_textNo {K : Int32 → pm_I → pm_L → Prop} (tz : TX12s kd mr z) (h : isK a 4 = false ∨ ∃ k m, k < 4 ∧ a = nI k ∧ mi (z + 5) k = nI m ∧ m ≤ 2 ∧ ¬ ∃ j, mayT b m j)
    (k9 : ∀ mi', (∀ c, c ≠ z → c ≠ z + 2 → c ≠ z + 3 → c ≠ z + 4 → mi' c = mi c) → mi' (z + 2) 0 = nI 0 → mi' (z + 3) 0 = 0 → mi' (z + 4) 0 = -1 → (∀ i, i ≠ 0 → mi' (z + 2) i = mi (z + 2) i ∧ mi' (z + 3) i = mi (z + 3) i ∧ mi' (z + 4) i = mi (z + 4) i) → K (-2) mi' ml) : wI l M_X12_text (d + 2) [.ref z, .int a, .int b] kd mr mi ml K := by
  refine w_X12_text tz ?_
  have x0 : Int32.toNatClampNeg 0 = 0 := rfl
  rw [x0]
  generalize mi (z + 2) 0 = len
  have A0 : ∀ a, a ≠ z → a ≠ z + 2 → a ≠ z + 3 → a ≠ z + 4 → pm_up (pm_up (pm_up (pm_up (pm_up mi z 0 0) z 11 len) (z + 2) 0 0) (z + 3) 0 0) (z + 4) 0 (-1) a = mi a := fun a h1 h2 h3 h4 => by rw [pm_up_row _ _ h4, pm_up_row _ _ h3, pm_up_row _ _ h2, pm_up_row _ _ h1, pm_up_row _ _ h1]
  have A2 : pm_up (pm_up (pm_up (pm_up (pm_up mi z 0 0) z 11 len) (z + 2) 0 0) (z + 3) 0 0) (z + 4) 0 (-1) (z + 2) 0 = nI 0 := by rw [pm_up_row _ _ (by omega), pm_up_row _ _ (by omega), pm_up_s]; rfl
  have A3 : pm_up (pm_up (pm_up (pm_up (pm_up mi z 0 0) z 11 len) (z + 2) 0 0) (z + 3) 0 0) (z + 4) 0 (-1) (z + 3) 0 = 0 := by rw [pm_up_row _ _ (by omega), pm_up_s]
  have A4 : pm_up (pm_up (pm_up (pm_up (pm_up mi z 0 0) z 11 len) (z + 2) 0 0) (z + 3) 0 0) (z + 4) 0 (-1) (z + 4) 0 = -1 := pm_up_s _ _ _ _
  have Aj : ∀ i, i ≠ 0 → pm_up (pm_up (pm_up (pm_up (pm_up mi z 0 0) z 11 len) (z + 2) 0 0) (z + 3) 0 0) (z + 4) 0 (-1) (z + 2) i = mi (z + 2) i ∧ pm_up (pm_up (pm_up (pm_up (pm_up mi z 0 0) z 11 len) (z + 2) 0 0) (z + 3) 0 0) (z + 4) 0 (-1) (z + 3) i = mi (z + 3) i ∧ pm_up (pm_up (pm_up (pm_up (pm_up mi z 0 0) z 11 len) (z + 2) 0 0) (z + 3) 0 0) (z + 4) 0 (-1) (z + 4) i = mi (z + 4) i := fun i hi => by
    refine ⟨?_, ?_, ?_⟩
    · rw [pm_up_row _ _ (by omega), pm_up_row _ _ (by omega), pm_up_j _ _ hi, pm_up_row _ _ (by omega), pm_up_row _ _ (by omega)]
    · rw [pm_up_row _ _ (by omega), pm_up_j _ _ hi, pm_up_row _ _ (by omega), pm_up_row _ _ (by omega), pm_up_row _ _ (by omega)]
    · rw [pm_up_j _ _ hi, pm_up_row _ _ (by omega), pm_up_row _ _ (by omega), pm_up_row _ _ (by omega), pm_up_row _ _ (by omega)]
  generalize pm_up (pm_up (pm_up (pm_up (pm_up mi z 0 0) z 11 len) (z + 2) 0 0) (z + 3) 0 0) (z + 4) 0 (-1) = miA at *
  have kk : K (-2) miA ml := k9 miA A0 A2 A3 A4 Aj
  rcases h with h | ⟨k, m, hk, rfl, hm, hm2, hno⟩
  · refine s_in2 (m := 3) rfl (by omega) ⟨fun _ => kk, fun y => ?_⟩
    have y : isK a 4 = true := y
    rw [h] at y; cases y
  · have hmA : miA (z + 5) k = nI m := by rw [A0 _ (by omega) (by omega) (by omega) (by omega)]; exact hm
    refine s_in2 (m := 3) rfl (by omega) ⟨fun y => ?_, fun _ => ⟨fun _ => s_is (d := d) (s := k) (m := m) tz rfl (by omega) hmA (by omega) ⟨fun y => ?_, fun _ => kk⟩, fun hb => ⟨z_in (by omega) (by omega), ?_⟩⟩⟩
    · rw [isK_nI (by omega), decide_eq_true (show k < 3 + 1 by omega)] at y; cases y
    · obtain ⟨j, hj, -, hb⟩ := isK_iff.mp y
      exact absurd ⟨j, Or.inr ⟨hb, hj⟩⟩ hno
    · rw [z_cl (show k < 2147483648 by omega), hmA]
      have e2 : (nI m = (2 : Int32)) = (m = 2) := z_eq (b := 2) (by omega) (by omega)
      rw [e2]
      exact ⟨fun q => absurd ⟨m, Or.inl ⟨hb, by omega, rfl⟩⟩ hno, fun _ => kk⟩
theorem c_text (tx : TX11s kd mr x) (tz : TX12s kd mr z) (I : IV x z mi ml) : wI l M_X11_text (d + 10) [.ref x, .int a, .int b] kd mr mi ml fun r mi1 ml1 => wI l M_X12_text (d + 10) [.ref z, .int a, .int b] kd mr mi1 ml1 fun r2 mi2 ml2 => r = r2 ∧ IV x z mi2 ml2 := by
  have hz := I.1
  obtain ⟨n, hn, h1, h2, h3, h4, h5⟩ := I.2.1.1
  have no : (isK a 4 = false ∨ ∃ k m, k < 4 ∧ a = nI k ∧ mi (x + 3) k = nI m ∧ mi (z + 5) k = nI m ∧ m ≤ 2 ∧ ¬ ∃ j, mayT b m j) → wI l M_X11_text (d + 10) [.ref x, .int a, .int b] kd mr mi ml fun r mi1 ml1 => wI l M_X12_text (d + 10) [.ref z, .int a, .int b] kd mr mi1 ml1 fun r2 mi2 ml2 => r = r2 ∧ IV x z mi2 ml2 := fun h => by
    refine X_textNo (d := d + 9) tx (h.imp id fun ⟨k, m, a1, a2, a3, _, a5, a6⟩ => ⟨k, m, a1, a2, a3, a5, a6⟩) fun mi1 f1 g1 g2 g3 => Z_textNo (d := d + 8) tz (h.imp id fun ⟨k, m, a1, a2, _, a4, a5, a6⟩ => ⟨k, m, a1, a2, by rw [f1 _ (by omega)]; exact a4, a5, a6⟩) fun mi2 f2 k2 k3 k4 kj => ⟨rfl, ?_⟩
    have q : ∀ c, c ≠ x + 1 → c ≠ z → c ≠ z + 2 → c ≠ z + 3 → c ≠ z + 4 → mi2 c = mi c := fun c c1 c2 c3 c4 c5 => (f2 c c2 c3 c4 c5).trans (f1 c c1)
    have eT : mi2 (x + 1) = mi1 (x + 1) := f2 _ (by omega) (by omega) (by omega) (by omega)
    refine I.tape ⟨0, by omega, by rw [eT]; exact g1, k2, fun i hi => ?_, by rw [eT, g2, k3], by rw [eT, g3, k4]⟩ (fun c c1 c2 c3 => q c c1 (by omega) (by omega) (by omega) (by omega)) (fun i hi => ?_) (fun i hi => ?_)
    · rw [q (x + 1 + 1) (by omega) (by omega) (by omega) (by omega) (by omega), q (z + 1) (by omega) (by omega) (by omega) (by omega) (by omega)]; exact h3 i hi
    · rw [q (z + 1) (by omega) (by omega) (by omega) (by omega) (by omega)]
    · obtain ⟨y1, y2, y3⟩ := kj i hi
      rw [y1, y2, y3, f1 _ (by omega), f1 _ (by omega), f1 _ (by omega)]; exact ⟨rfl, rfl, rfl⟩
  by_cases ha : isK a 4 = true
  · obtain ⟨k, hk, -, rfl⟩ := isK_iff.mp ha
    obtain ⟨m, hm2, hm, hmz⟩ := tI_many I.2.1 hk
    have hm : mi (x + 3) k = nI m := hm
    by_cases hb : ∃ j, mayT b m j
    · obtain ⟨j, hb⟩ := hb
      have jm : j ≤ m ∧ j < 2 := by unfold mayT at hb; omega
      have ht : ∀ i, i < n → (mi (x + 2) i &&& 255) = nI ((fun i => (mi (x + 2) i &&& 255).toNatClampNeg) i) ∧ (fun i => (mi (x + 2) i &&& 255).toNatClampNeg) i < 256 := fun i _ => and_255 _
      generalize (fun i => (mi (x + 2) i &&& 255).toNatClampNeg) = t at ht
      have htz : ∀ mi1 : pm_I, mi1 (z + 1) = mi (z + 1) → ∀ i, i < n → (mi1 (z + 1) i &&& 255) = nI (t i) ∧ t i < 256 := fun mi1 e i hi => by
        have a1 := (h3 i (by omega)).1
        rw [show 600 * 0 + i = i by omega] at a1
        rw [e, ← a1]; exact ht i hi
      -- the images stand
      have img : ∀ (mi2 : pm_I) (ml2 : pm_L), (∀ c, x + 47 ≤ c → c ≤ x + 181 → mi2 c = mi c ∧ ml2 c = ml c) → mi2 (z + 1) = mi (z + 1) → (∀ i, i ≠ 0 → mi2 (z + 2) i = mi (z + 2) i ∧ mi2 (z + 3) i = mi (z + 3) i ∧ mi2 (z + 4) i = mi (z + 4) i) → (∀ i, 4 ≤ i → mi2 (z + 5) i = mi (z + 5) i) → (∀ i, 106 ≤ i → mi2 (z + 6) i = mi (z + 6) i) → (∀ i, 242 ≤ i → mi2 (z + 7) i = mi (z + 7) i) → (∀ i, 78 ≤ i → mi2 (z + 8) i = mi (z + 8) i) → (∀ i, 62 ≤ i → mi2 (z + 9) i = mi (z + 9) i) → mi2 (x + 182) = mi (x + 182) → ∀ c, c < 3 → ¬ mi2 (x + 182) c = 0 → tI mi2 ml2 (x + 47 + 45 * c) z (c + 1) := fun mi2 ml2 w1 w2 w3 w5 w6 w7 w8 w9 w0 c hc ht => by
        refine (I.2.2.1 c hc (by rw [← w0]; exact ht)).mv (cpT.self fun a q1 q2 => w1 a (by omega) (by omega)) ⟨fun i hi => by rw [w2], (w3 _ (by omega)).1, (w3 _ (by omega)).2.1, (w3 _ (by omega)).2.2, fun i hi => w5 _ (by omega), fun i hi => w6 _ (by omega), fun i hi => w7 _ (by omega), fun i hi => w8 _ (by omega), fun i hi => w9 _ (by omega)⟩
      refine X_text (t := t) (n := n) (m := m) (j := j) tx hk rfl h1 hn ht hm hm2 hb (fun mi1 ml1 f p r H hf X F => ?_) (fun mi1 ml1 p r H X F g1 g2 S => ?_)
      · obtain ⟨x1, x2, x3, x4, x5⟩ := X
        refine Z_text (d := d + 1) (t := t) (n := n) (m := m) (j := j) tz hk rfl (by rw [(x1 _ (by omega)).1]; exact h2) hn (htz mi1 (x1 _ (by omega)).1) (by rw [(x1 _ (by omega)).1]; exact hmz) hm2 hb (fun mi2 ml2 f' p' r' H' hf' Z F' => ?_) (fun mi2 ml2 p' r' H' => absurd (txR_fun H H').1 hf)
        obtain ⟨rfl, rfl, -⟩ := txR_fun H H'
        obtain ⟨z1, z2, ⟨z3, z4, z5⟩, z6⟩ := Z
        have lo : ∀ c, c < z → mi2 c = mi1 c ∧ ml2 c = ml1 c := fun c hc => z1 c (Or.inl hc)
        have hp : tP mi2 (x + 1) z 0 := by
          refine ⟨0, by omega, by rw [(lo _ (by omega)).1]; exact x3, z3, fun i hi => ?_, by rw [(lo _ (by omega)).1, x4, z4], by rw [(lo _ (by omega)).1, x5, z5]⟩
          rw [(lo (x + 1 + 1) (by omega)).1, z2, x2, (x1 (z + 1) (by omega)).1]; exact h3 i hi
        have s : ∀ c, ((x + 3 ≤ c ∧ c ≤ x + 182) ∨ (z + 5 ≤ c ∧ c ≤ z + 9)) → mi2 c = mi c := fun c hc => by
          rcases hc with hc | hc
          · rw [(lo c (by omega)).1]
            rcases Nat.lt_or_ge c (x + 46) with q | q
            · exact (F c (by omega) (by omega)).1
            · exact (x1 c (by omega)).1
          · rw [F' c hc.1 hc.2]; exact (x1 c (by omega)).1
        have sl : ∀ c, (x + 3 ≤ c ∧ c ≤ x + 182) → ml2 c = ml c := fun c hc => by
          rw [(lo c (by omega)).2]
          rcases Nat.lt_or_ge c (x + 46) with q | q
          · exact (F c (by omega) (by omega)).2
          · exact (x1 c (by omega)).2
        have sz : ∀ c, z + 5 ≤ c → c ≤ z + 9 → ml2 c = ml c ∨ True := fun _ _ _ => Or.inr trivial
        refine ⟨rfl, I.smT ?_ (fun c hc => ?_) (img mi2 ml2 (fun c q1 q2 => ⟨s c (by omega), sl c (by omega)⟩) (by rw [z2]; exact (x1 _ (by omega)).1) (fun i hi => ?_) (fun i hi => by rw [s _ (by omega)]) (fun i hi => by rw [s _ (by omega)]) (fun i hi => by rw [s _ (by omega)]) (fun i hi => by rw [s _ (by omega)]) (fun i hi => by rw [s _ (by omega)]) (s _ (by omega)))⟩
        · obtain ⟨-, ⟨m0, t0⟩, ⟨m1, t1⟩, ⟨m2, t2⟩, m3, t3⟩ := I.2.1
          exact ⟨hp, ⟨m0, tC_old t0 (by rw [s _ (by omega)]) (by rw [s _ (by omega)]) (s _ (by omega)) fun k' hk' a q1 q2 => ⟨s a (by omega), sl a (by omega)⟩⟩, ⟨m1, tN_old t1 (by rw [s _ (by omega)]) (by rw [s _ (by omega)]) (s _ (by omega)) fun k' hk' a q1 q2 => s a (by omega)⟩, ⟨m2, tT_old t2 (by rw [s _ (by omega)]) (by rw [s _ (by omega)]) (s _ (by omega)) fun k' hk' a q1 q2 => s a (by omega)⟩, m3, tS_old t3 (by rw [s _ (by omega)]) (by rw [s _ (by omega)]) (s _ (by omega)) fun k' hk' a q1 q2 => s a (by omega)⟩
        · obtain ⟨y1, y2⟩ := z1 c (by omega)
          obtain ⟨y3, y4⟩ := x1 c (by omega)
          exact ⟨y1.trans y3, y2.trans y4⟩
        · obtain ⟨y1, y2, y3⟩ := z6 i hi
          rw [y1, y2, y3, (x1 (z + 2) (by omega)).1, (x1 (z + 3) (by omega)).1, (x1 (z + 4) (by omega)).1]; exact ⟨rfl, rfl, rfl⟩
      · obtain ⟨x1, x2, x3, x4, x5⟩ := X
        refine Z_text (d := d + 1) (t := t) (n := n) (m := m) (j := j) tz hk rfl (by rw [(x1 _ (by omega)).1]; exact h2) hn (htz mi1 (x1 _ (by omega)).1) (by rw [(x1 _ (by omega)).1]; exact hmz) hm2 hb (fun mi2 ml2 f' p' r' H' hf' => absurd (txR_fun H H').1.symm hf') (fun mi2 ml2 p' r' H' Z F' e2 e2' f3 f4 => ?_)
        obtain ⟨-, rfl, hr⟩ := txR_fun H H'
        obtain ⟨rfl, O⟩ := hr rfl
        obtain ⟨z1, z2, ⟨z3, z4, z5⟩, z6⟩ := Z
        have lo : ∀ c, c < z → mi2 c = mi1 c ∧ ml2 c = ml1 c := fun c hc => z1 c (Or.inl hc)
        have up : ∀ c, z ≤ c → mi1 c = mi c := fun c hc => (x1 c (by omega)).1
        have hp : tP mi2 (x + 1) z 0 := by
          refine ⟨0, by omega, by rw [(lo _ (by omega)).1]; exact x3, z3, fun i hi => ?_, by rw [(lo _ (by omega)).1, x4, z4], by rw [(lo _ (by omega)).1, x5, z5]⟩
          rw [(lo (x + 1 + 1) (by omega)).1, z2, x2, up (z + 1) (by omega)]; exact h3 i hi
        have oS : 7 ≤ offS k ∧ offS k + 19 * j + lenS k ≤ 44 := by
          unfold offS lenS
          rcases (show k = 0 ∨ k = 1 ∨ k = 2 ∨ k = 3 by omega) with rfl | rfl | rfl | rfl <;> simp <;> omega
        have oth : ∀ c, z + 6 ≤ c → c ≤ z + 9 → c ≠ z + 6 + k → mi2 c = mi c := fun c q1 q2 q3 => (F' c q1 q2 q3).trans (up c (by omega))
        have far : ∀ i, wdS k * 2 ≤ i → mi2 (z + 6 + k) i = mi (z + 6 + k) i := fun i hi => by
          have b : wdS k * j + wdS k ≤ wdS k * 2 := by
            rcases (show j = 0 ∨ j = 1 by omega) with rfl | rfl <;> omega
          rw [f4 i (by omega), up _ (by omega)]
        have rows : (∀ i, 106 ≤ i → mi2 (z + 6) i = mi (z + 6) i) ∧ (∀ i, 242 ≤ i → mi2 (z + 7) i = mi (z + 7) i) ∧ (∀ i, 78 ≤ i → mi2 (z + 8) i = mi (z + 8) i) ∧ (∀ i, 62 ≤ i → mi2 (z + 9) i = mi (z + 9) i) := by
          rcases (show k = 0 ∨ k = 1 ∨ k = 2 ∨ k = 3 by omega) with rfl | rfl | rfl | rfl
          · exact ⟨far, fun i _ => by rw [oth _ (by omega) (by omega) (by omega)], fun i _ => by rw [oth _ (by omega) (by omega) (by omega)], fun i _ => by rw [oth _ (by omega) (by omega) (by omega)]⟩
          · exact ⟨fun i _ => by rw [oth _ (by omega) (by omega) (by omega)], far, fun i _ => by rw [oth _ (by omega) (by omega) (by omega)], fun i _ => by rw [oth _ (by omega) (by omega) (by omega)]⟩
          · exact ⟨fun i _ => by rw [oth _ (by omega) (by omega) (by omega)], fun i _ => by rw [oth _ (by omega) (by omega) (by omega)], far, fun i _ => by rw [oth _ (by omega) (by omega) (by omega)]⟩
          · exact ⟨fun i _ => by rw [oth _ (by omega) (by omega) (by omega)], fun i _ => by rw [oth _ (by omega) (by omega) (by omega)], fun i _ => by rw [oth _ (by omega) (by omega) (by omega)], far⟩
        have S2 : SlX k mi2 ml2 (x + 1 + offS k + 19 * j) r := by
          have ne : ∀ c, x + 1 + offS k + 19 * j ≤ c → c ≤ x + 1 + offS k + 19 * j + lenS k → mi2 c = mi1 c ∧ ml2 c = ml1 c := fun c q1 q2 => lo c (by omega)
          generalize x + 1 + offS k + 19 * j = o at S ne
          unfold SlX at S ⊢
          rcases (show k = 0 ∨ k = 1 ∨ k = 2 ∨ k = 3 by omega) with rfl | rfl | rfl | rfl
          · rw [if_pos rfl] at S ⊢
            have ne : ∀ c, o ≤ c → c ≤ o + 5 → mi2 c = mi1 c ∧ ml2 c = ml1 c := ne
            exact S.same (fun a q1 q2 => (ne a q1 q2).1) (ne o (Nat.le_refl _) (by omega)).2
          · rw [if_neg (by omega), if_neg (by omega)] at S ⊢
            have ne : ∀ c, o ≤ c → c ≤ o + 3 → mi2 c = mi1 c ∧ ml2 c = ml1 c := ne
            exact S.same (ne _ (by omega) (by omega)).1 (ne _ (by omega) (by omega)).1 (ne _ (by omega) (by omega)).1 (ne _ (by omega) (by omega)).1
          · rw [if_neg (by omega), if_pos rfl] at S ⊢
            have ne : ∀ c, o ≤ c → c ≤ o + 4 → mi2 c = mi1 c ∧ ml2 c = ml1 c := ne
            rw [(ne o (Nat.le_refl _) (by omega)).1]
            exact ⟨S.1, S.2.1, S.2.2.same (ne _ (by omega) (by omega)).1 (ne _ (by omega) (by omega)).1 (ne _ (by omega) (by omega)).1 (ne _ (by omega) (by omega)).1⟩
          · rw [if_neg (by omega), if_neg (by omega)] at S ⊢
            have ne : ∀ c, o ≤ c → c ≤ o + 3 → mi2 c = mi1 c ∧ ml2 c = ml1 c := ne
            exact S.same (ne _ (by omega) (by omega)).1 (ne _ (by omega) (by omega)).1 (ne _ (by omega) (by omega)).1 (ne _ (by omega) (by omega)).1
        refine ⟨rfl, I.smT (tI_new (k := k) (m := m) (j := j) (q := r) I.2.1 hk hm hm2 jm.1 jm.2 hp ?_ e2 (fun i hi => ?_) (fun i hi => ?_) O S2 (fun c q1 q2 q3 => ?_) oth f3 (fun i hi => ?_)) (fun c hc => ?_) (img mi2 ml2 (fun c q1 q2 => ?_) (by rw [z2]; exact up _ (by omega)) (fun i hi => ?_) (fun i hi => ?_) rows.1 rows.2.1 rows.2.2.1 rows.2.2.2 (by rw [(lo _ (by omega)).1]; exact (x1 _ (by omega)).1))⟩
        · rw [(lo _ (by omega)).1]; exact g1
        · rw [(lo _ (by omega)).1]; exact g2 i hi
        · rw [e2' i hi, up _ (by omega)]
        · obtain ⟨y1, y2⟩ := lo c (by omega)
          obtain ⟨y3, y4⟩ := F c (by omega) (by omega) q3
          exact ⟨y1.trans y3, y2.trans y4⟩
        · rw [f4 i hi, up _ (by omega)]
        · obtain ⟨y1, y2⟩ := z1 c (by omega)
          obtain ⟨y3, y4⟩ := x1 c (by omega)
          exact ⟨y1.trans y3, y2.trans y4⟩
        · obtain ⟨y1, y2⟩ := lo c (by omega)
          obtain ⟨y3, y4⟩ := x1 c (by omega)
          exact ⟨y1.trans y3, y2.trans y4⟩
        · obtain ⟨y1, y2, y3⟩ := z6 i hi
          rw [y1, y2, y3, up _ (by omega), up _ (by omega), up _ (by omega)]; exact ⟨rfl, rfl, rfl⟩
        · rw [e2' i (by omega), up _ (by omega)]
    · exact no (Or.inr ⟨k, m, hk, rfl, hm, hmz, hm2, hb⟩)
  · exact no (Or.inl (by simpa using ha))
end TX2
