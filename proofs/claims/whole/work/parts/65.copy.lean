/-! images: the reference's copies; image, again -/
section MV
variable {r r' q q' : Nat → Int32} {mi mi' : pm_I} {ml ml' : pm_L} {h o c0 T T' z t t' : Nat}
theorem gN_cg {j : Nat} (e : r' j = r j) : gN r' j = gN r j := by show (r' j).toNatClampNeg = (r j).toNatClampNeg; rw [e]
theorem okC.congr (H : okC r) (e : ∀ j, j < 53 → r' j = r j) : okC r' := by
  have G : ∀ j, j < 53 → gN r' j = gN r j := fun j hj => gN_cg (e j hj)
  obtain ⟨h0, h1, h2, h3, h4, h5, h6, h7, h8, h9⟩ := H
  refine ⟨fun j hj => by rw [e j hj, G j hj]; exact h0 j hj, by rw [G 0 (by omega)]; exact h1, by rw [G 1 (by omega)]; exact h2, by rw [G 2 (by omega)]; exact h3, by rw [G 3 (by omega)]; exact h4, by rw [G 4 (by omega)]; exact h5, fun c hc => by rw [G _ (by omega)]; exact h6 c hc, fun p hp => ?_, fun p hp => ?_, fun y x hy hx => ?_⟩
  · rw [G 3 (by omega)] at hp
    obtain ⟨a1, a2, a3, a4⟩ := h7 p hp
    rw [G (9 + p) (by omega), G (15 + p) (by omega), G (21 + p) (by omega), G 0 (by omega), G 1 (by omega), G (45 + gN r (21 + p)) (by omega)]
    exact ⟨a1, a2, a3, a4⟩
  · rw [G 4 (by omega)] at hp
    obtain ⟨a1, a2, a3, a4⟩ := h8 p hp
    rw [G (27 + p) (by omega), G (33 + p) (by omega), G (39 + p) (by omega), G 0 (by omega), G 1 (by omega), G (45 + gN r (39 + p)) (by omega)]
    exact ⟨a1, a2, a3, a4⟩
  · rw [G (45 + y) (by omega)] at hx
    rw [G 0 (by omega), G 1 (by omega)]
    exact h9 y x hy hx
theorem CC.mv (C : CC mi ml o r) (O : okC r) (c : cpP P0 mi' h mi o) (w : ml' h 3 = ml o 3) (e : ∀ j, j < 53 → r' j = r j) : CC mi' ml' h r' := by
  have G : ∀ j, j < 53 → gN r' j = gN r j := fun j hj => gN_cg (e j hj)
  have h3 := O.2.2.2.2.1
  have h4 := O.2.2.2.2.2.1
  obtain ⟨c0, c1, c2, c3, c4, c5, c6, c7, c8⟩ := C
  have f : ∀ i, (i = 0 ∨ i = 1 ∨ i = 2 ∨ i = 4 ∨ i = 5) → mi' h i = mi o i := fun i hi => c 0 i (Or.inl ⟨rfl, hi⟩)
  have g : ∀ j i, (j = 1 ∨ j = 2 ∨ j = 3 ∨ j = 4) → i < 6 → mi' (h + j) i = mi (o + j) i := fun j i hj hi => c j i (Or.inr (Or.inl ⟨hj, hi⟩))
  refine ⟨?_, ?_, ?_, ?_, ?_, fun p hp => ?_, fun p hp => ?_, fun c9 hc => ?_, fun s hs => ?_⟩
  · rw [f 0 (by omega), e 0 (by omega)]; exact c0
  · rw [f 1 (by omega), e 1 (by omega)]; exact c1
  · rw [f 2 (by omega), e 2 (by omega)]; exact c2
  · rw [f 4 (by omega), e 3 (by omega)]; exact c3
  · rw [f 5 (by omega), e 4 (by omega)]; exact c4
  · rw [G 3 (by omega)] at hp
    rw [g 1 p (by omega) (by omega), g 2 p (by omega) (by omega), e _ (by omega), G _ (by omega), G _ (by omega)]
    exact c5 p hp
  · rw [G 4 (by omega)] at hp
    rw [g 3 p (by omega) (by omega), g 4 p (by omega) (by omega), e _ (by omega), G _ (by omega), G _ (by omega)]
    exact c6 p hp
  · rw [c 5 c9 (Or.inr (Or.inr ⟨rfl, hc⟩)), e _ (by omega)]
    exact c7 c9 hc
  · rw [w, G _ (by omega)]
    exact c8 s hs
theorem RR.mv (R : RR mi o c0 q) (c : cpP P6 mi' h mi o) (e : ∀ j, j < c0 + 1 + 3 * gN q c0 → q' j = q j) : RR mi' h c0 q' := by
  obtain ⟨n, hn, h1, h2, h3⟩ := R
  have eg : gN q c0 = n := by show (q c0).toNatClampNeg = n; rw [h2, z_cl (by omega)]
  rw [eg] at e
  refine ⟨n, hn, ?_, ?_, fun i hi => ?_⟩
  · have := c 0 3 (Or.inl ⟨rfl, rfl⟩)
    rw [Nat.add_zero, Nat.add_zero] at this
    rw [this]; exact h1
  · rw [e c0 (by omega)]; exact h2
  · obtain ⟨a1, a2, a3⟩ := h3 i hi
    rw [c 1 i (Or.inr ⟨by omega, by omega⟩), c 2 i (Or.inr ⟨by omega, by omega⟩), c 3 i (Or.inr ⟨by omega, by omega⟩), e _ (by omega), e _ (by omega), e _ (by omega)]
    exact ⟨a1, a2, a3⟩
theorem okN.congr (H : okN q) (e : ∀ j, j < 121 → q' j = q j) : okN q' := by
  have h0 := H.1
  refine ⟨by rw [gN_cg (e 0 (by omega))]; exact h0, fun i hi => ?_⟩
  rw [gN_cg (e 0 (by omega))] at hi
  rw [e (1 + 3 * i) (by omega), e (2 + 3 * i) (by omega), e (3 + 3 * i) (by omega)]
  exact H.2 i hi
theorem okS.congr (H : okS q) (e : ∀ j, j < 31 → q' j = q j) : okS q' := by
  have h0 := H.1
  refine ⟨by rw [gN_cg (e 0 (by omega))]; exact h0, fun i hi => ?_⟩
  rw [gN_cg (e 0 (by omega))] at hi
  rw [e (1 + 3 * i) (by omega), e (2 + 3 * i) (by omega), e (3 + 3 * i) (by omega)]
  exact H.2 i hi
theorem okT.congr (H : okT q) (e : ∀ j, j < 39 → q' j = q j) : okT q' := by
  obtain ⟨h0, h1, h2, h3, h4, h5⟩ := H
  refine ⟨by rw [gN_cg (e 2 (by omega))]; exact h0, by rw [e 0 (by omega), gN_cg (e 0 (by omega))]; exact h1, by rw [gN_cg (e 0 (by omega))]; exact h2, by rw [gN_cg (e 0 (by omega))]; exact h3, by rw [e 1 (by omega), gN_cg (e 1 (by omega))]; exact h4, fun i hi => ?_⟩
  rw [gN_cg (e 2 (by omega))] at hi
  rw [e (3 + 3 * i) (by omega), e (4 + 3 * i) (by omega), e (5 + 3 * i) (by omega), gN_cg (e 0 (by omega))]
  exact h5 i hi
/-- the reference's rows, slot by slot -/
def cpZ (z : Nat) (mi' : pm_I) (t' : Nat) (mi : pm_I) (t : Nat) : Prop := (∀ i, i < 600 → mi' (z + 1) (600 * t' + i) = mi (z + 1) (600 * t + i)) ∧ mi' (z + 2) t' = mi (z + 2) t ∧ mi' (z + 3) t' = mi (z + 3) t ∧ mi' (z + 4) t' = mi (z + 4) t ∧ (∀ i, i < 4 → mi' (z + 5) (4 * t' + i) = mi (z + 5) (4 * t + i)) ∧
  (∀ i, i < 106 → mi' (z + 6) (106 * t' + i) = mi (z + 6) (106 * t + i)) ∧ (∀ i, i < 242 → mi' (z + 7) (242 * t' + i) = mi (z + 7) (242 * t + i)) ∧ (∀ i, i < 78 → mi' (z + 8) (78 * t' + i) = mi (z + 8) (78 * t + i)) ∧ (∀ i, i < 62 → mi' (z + 9) (62 * t' + i) = mi (z + 9) (62 * t + i))
theorem cpZ.cg {mi1 mi2 : pm_I} (c : cpZ z mi' t' mi1 t) (h1 : ∀ a, z + 1 ≤ a → a ≤ z + 9 → mi2 a = mi' a) (h2 : ∀ a, z + 1 ≤ a → a ≤ z + 9 → mi1 a = mi a) : cpZ z mi2 t' mi t := by
  unfold cpZ at c ⊢
  rw [h1 (z + 1) (by omega) (by omega), h1 (z + 2) (by omega) (by omega), h1 (z + 3) (by omega) (by omega), h1 (z + 4) (by omega) (by omega), h1 (z + 5) (by omega) (by omega), h1 (z + 6) (by omega) (by omega), h1 (z + 7) (by omega) (by omega), h1 (z + 8) (by omega) (by omega), h1 (z + 9) (by omega) (by omega)]
  rw [← h2 (z + 1) (by omega) (by omega), ← h2 (z + 2) (by omega) (by omega), ← h2 (z + 3) (by omega) (by omega), ← h2 (z + 4) (by omega) (by omega), ← h2 (z + 5) (by omega) (by omega), ← h2 (z + 6) (by omega) (by omega), ← h2 (z + 7) (by omega) (by omega), ← h2 (z + 8) (by omega) (by omega), ← h2 (z + 9) (by omega) (by omega)]
  exact c
theorem cpT.self (s : ∀ a, T ≤ a → a ≤ T + 44 → mi' a = mi a ∧ ml' a = ml a) : cpT mi' ml' T mi ml T := by
  refine ⟨?_, fun i _ => by rw [(s (T + 1) (by omega) (by omega)).1], fun i _ => by rw [(s (T + 2) (by omega) (by omega)).1], fun k hk => ⟨fun j i hP => ?_, by rw [(s _ (by omega) (by omega)).2], fun j i hP => ?_, fun j i hP => ?_, fun j i hP => ?_⟩⟩
  · rw [(s T (by omega) (by omega)).1]; exact ⟨rfl, rfl, rfl⟩
  · have := hP.le; rw [(s _ (by omega) (by omega)).1]
  · have := hP.le; rw [(s _ (by omega) (by omega)).1]
  · have := hP.le; rw [(s _ (by omega) (by omega)).1]
  · have := hP.le; rw [(s _ (by omega) (by omega)).1]
theorem cpT.dst {mi2 : pm_I} {ml2 : pm_L} (c : cpT mi' ml' T' mi ml T) (s : ∀ a, T' ≤ a → a ≤ T' + 44 → mi2 a = mi' a ∧ ml2 a = ml' a) : cpT mi2 ml2 T' mi ml T := by
  obtain ⟨c1, c2, c3, c4⟩ := c
  refine ⟨by rw [(s T' (by omega) (by omega)).1]; exact c1, fun i hi => by rw [(s (T' + 1) (by omega) (by omega)).1]; exact c2 i hi, fun i hi => by rw [(s (T' + 2) (by omega) (by omega)).1]; exact c3 i hi, fun k hk => ?_⟩
  obtain ⟨d1, d2, d3, d4, d5⟩ := c4 k hk
  exact ⟨d1.same 5 (fun _ _ q => q.le) fun a q1 q2 => (s a (by omega) (by omega)).1, by rw [(s _ (by omega) (by omega)).2]; exact d2, d3.same 3 (fun _ _ q => q.le) fun a q1 q2 => (s a (by omega) (by omega)).1, d4.same 4 (fun _ _ q => q.le) fun a q1 q2 => (s a (by omega) (by omega)).1, d5.same 3 (fun _ _ q => q.le) fun a q1 q2 => (s a (by omega) (by omega)).1⟩
theorem P10.six (c : cpP P10 mi' h mi o) : cpP P6 mi' (h + 1) mi (o + 1) := by
  intro j i hP
  rw [Nat.add_assoc, Nat.add_assoc]
  refine c (1 + j) i ?_
  unfold P6 at hP
  unfold P10
  omega
theorem tI.mv (H : tI mi ml T z t) (c : cpT mi' ml' T' mi ml T) (s : cpZ z mi' t' mi t) : tI mi' ml' T' z t' := by
  obtain ⟨hp, ⟨m2, h2⟩, ⟨m3, h3⟩, ⟨m4, h4⟩, m5, h5⟩ := H
  obtain ⟨⟨c1, c2, c3⟩, c4, c5, c6⟩ := c
  obtain ⟨s1, s2, s3, s4, s5, s6, s7, s8, s9⟩ := s
  refine ⟨?_, ⟨m2, ?_⟩, ⟨m3, ?_⟩, ⟨m4, ?_⟩, m5, ?_⟩
  · obtain ⟨n, p1, p2, p3, p4, p5, p6⟩ := hp
    exact ⟨n, p1, c1.trans p2, s2.trans p3, fun i hi => ⟨by rw [c4 i hi, s1 i hi]; exact (p4 i hi).1, by rw [c4 i hi]; exact (p4 i hi).2⟩, by rw [c2, s3]; exact p5, by rw [c3, s4]; exact p6⟩
  · obtain ⟨q1, q2, q3, q4⟩ := h2
    refine ⟨q1, by rw [c5 0 (by omega)]; exact q2, by rw [show 4 * t' = 4 * t' + 0 from rfl, s5 0 (by omega)]; exact q3, fun k hk => ?_⟩
    obtain ⟨O, C⟩ := q4 k hk
    have e : ∀ j, j < 53 → (fun j => mi' (z + 6) (106 * t' + 53 * k + j)) j = (fun j => mi (z + 6) (106 * t + 53 * k + j)) j := fun j hj => by
      show mi' (z + 6) (106 * t' + 53 * k + j) = mi (z + 6) (106 * t + 53 * k + j)
      rw [Nat.add_assoc, Nat.add_assoc]; exact s6 _ (by omega)
    obtain ⟨d1, d2, -⟩ := c6 k (by omega)
    exact ⟨O.congr e, C.mv O d1 d2 e⟩
  · obtain ⟨⟨q1, q2, q3, q4⟩, q5⟩ := h3
    have e : ∀ k, k < m3 → ∀ j, j < 121 → (fun j => mi' (z + 7) (2 * 121 * t' + 121 * k + j)) j = (fun j => mi (z + 7) (2 * 121 * t + 121 * k + j)) j := fun k hk j hj => by
      show mi' (z + 7) (2 * 121 * t' + 121 * k + j) = mi (z + 7) (2 * 121 * t + 121 * k + j)
      rw [Nat.add_assoc, Nat.add_assoc]; exact s7 _ (by omega)
    refine ⟨⟨q1, by rw [c5 1 (by omega)]; exact q2, by rw [s5 1 (by omega)]; exact q3, fun k hk => ?_⟩, fun k hk => (q5 k hk).congr (e k hk)⟩
    obtain ⟨-, -, d3, -⟩ := c6 k (by omega)
    have := (q5 k hk).1
    exact (q4 k hk).mv d3 fun j hj => e k hk j (by omega)
  · obtain ⟨q1, q2, q3, q4⟩ := h4
    have e : ∀ k, k < m4 → ∀ j, j < 39 → (fun j => mi' (z + 8) (78 * t' + 39 * k + j)) j = (fun j => mi (z + 8) (78 * t + 39 * k + j)) j := fun k hk j hj => by
      show mi' (z + 8) (78 * t' + 39 * k + j) = mi (z + 8) (78 * t + 39 * k + j)
      rw [Nat.add_assoc, Nat.add_assoc]; exact s8 _ (by omega)
    refine ⟨q1, by rw [c5 2 (by omega)]; exact q2, by rw [s5 2 (by omega)]; exact q3, fun k hk => ?_⟩
    obtain ⟨O, w0, w1, R⟩ := q4 k hk
    obtain ⟨-, -, -, d4, -⟩ := c6 k (by omega)
    have f0 := d4 0 0 (Or.inl ⟨rfl, Or.inl rfl⟩)
    have f1 := d4 0 1 (Or.inl ⟨rfl, Or.inr rfl⟩)
    rw [Nat.add_zero, Nat.add_zero] at f0 f1
    have e0 : mi' (z + 8) (78 * t' + 39 * k) = mi (z + 8) (78 * t + 39 * k) := e k hk 0 (by omega)
    have e1 : mi' (z + 8) (78 * t' + 39 * k + 1) = mi (z + 8) (78 * t + 39 * k + 1) := e k hk 1 (by omega)
    have := O.1
    exact ⟨O.congr (e k hk), by rw [f0, e0]; exact w0, by rw [f1, e1]; exact w1, R.mv (P10.six d4) fun j hj => e k hk j (by omega)⟩
  · obtain ⟨⟨q1, q2, q3, q4⟩, q5⟩ := h5
    have e : ∀ k, k < m5 → ∀ j, j < 31 → (fun j => mi' (z + 9) (2 * 31 * t' + 31 * k + j)) j = (fun j => mi (z + 9) (2 * 31 * t + 31 * k + j)) j := fun k hk j hj => by
      show mi' (z + 9) (2 * 31 * t' + 31 * k + j) = mi (z + 9) (2 * 31 * t + 31 * k + j)
      rw [Nat.add_assoc, Nat.add_assoc]; exact s9 _ (by omega)
    refine ⟨⟨q1, by rw [c5 3 (by omega)]; exact q2, by rw [s5 3 (by omega)]; exact q3, fun k hk => ?_⟩, fun k hk => (q5 k hk).congr (e k hk)⟩
    obtain ⟨-, -, -, -, d5⟩ := c6 k (by omega)
    have := (q5 k hk).1
    exact (q4 k hk).mv d5 fun j hj => e k hk j (by omega)
end MV
/-- slot t of a row of n's is slot f's, the others stand -/
def cpR (n a : Nat) (mi' : pm_I) (t : Nat) (mi : pm_I) (f : Nat) : Prop := (∀ i, i < n → mi' a (n * t + i) = mi a (n * f + i)) ∧ ∀ j, j < n * t ∨ n * t + n ≤ j → mi' a j = mi a j
section COPYZ
variable {l : Launch} {d h o x z T k : Nat} {kd : pm_K} {mr : pm_R} {mi : pm_I} {ml : pm_L}
theorem s_copyRow {a n na f t : Nat} {u v w : Int32} {K : pm_I → pm_L → Prop} (ka : kd[a]? = some (1, na)) (hu : u = nI n) (hv : v = nI f) (hw : w = nI t) (hf : n * f + n ≤ na) (ht : n * t + n ≤ na) (hna : na ≤ 4000) (hd : n * f + n ≤ n * t ∨ n * t + n ≤ n * f)
    (k9 : ∀ mi', (∀ b, b ≠ a → mi' b = mi b) → cpR n a mi' t mi f → K mi' ml) : wV l M_X12_copyRow d [.ref a, .int u, .int v, .int w] kd mr mi ml K := by
  subst hu; subst hv; subst hw
  have loop : ∀ (q k : Nat) (mi1 : pm_I), k + q = n → (∀ b, b ≠ a → mi1 b = mi b) → (∀ i, i < k → mi1 a (n * t + i) = mi a (n * f + i)) → (∀ j, j < n * t ∨ n * t + k ≤ j → mi1 a j = mi a j) → c_X12_copyRow_3 l d kd mr a na (nI n) (nI f) (nI t) (nI k) mi1 ml K := by
    intro q
    induction q with
    | zero =>
      intro k mi1 hk g1 g2 g3
      have : k = n := by omega
      subst this
      exact w_X12_copyRow_3 ka ⟨fun _ => k9 mi1 g1 ⟨g2, g3⟩, fun h => absurd (nI_le (Nat.le_refl _) (by omega)) h⟩
    | succ q ih =>
      intro k mi1 hk g1 g2 g3
      refine w_X12_copyRow_3 ka ⟨fun h => absurd h (nI_ge (by omega) (by omega)), fun _ => ?_⟩
      rw [z_mul, nI_add, z_mul, nI_add, z_cl (by omega), z_cl (by omega), nI_1]
      refine ⟨z_in (by omega) (by omega), z_in (by omega) (by omega), ih (k + 1) _ (by omega) (fun b hb => by rw [pm_up_row _ _ hb]; exact g1 b hb) (fun i hi => ?_) (fun j hj => ?_)⟩
      · by_cases e : i = k
        · subst e
          rw [pm_up_s]; exact g3 _ (by omega)
        · rw [pm_up_j _ _ (by omega)]; exact g2 i (by omega)
      · rw [pm_up_j _ _ (by omega)]; exact g3 j (by omega)
  exact w_X12_copyRow ka (loop n 0 mi (by omega) (fun _ _ => rfl) (fun i hi => by omega) fun _ _ => rfl)
theorem s_copyAll {f t : Nat} {u v : Int32} {K : pm_I → pm_L → Prop} (tz : TX12s kd mr z) (hu : u = nI f) (hv : v = nI t) (hf : f < 4) (ht : t < 4) (hft : f ≠ t) (hb : ∀ i, i < 600 → bC (mi (z + 1) (600 * f + i)))
    (k9 : ∀ mi', (∀ a, a < z + 1 ∨ z + 9 < a → mi' a = mi a) → cpZ z mi' t mi f → (∀ s, s < 4 → s ≠ t → cpZ z mi' s mi s) → K mi' ml) : wV l M_X12_copyAll (d + 1) [.ref z, .int u, .int v] kd mr mi ml K := by
  subst hu; subst hv
  have loop : ∀ (q k : Nat) (mi1 : pm_I), k + q = 600 → (∀ b, b ≠ z + 1 → mi1 b = mi b) → (∀ i, i < k → mi1 (z + 1) (600 * t + i) = mi (z + 1) (600 * f + i)) → (∀ j, j < 600 * t ∨ 600 * t + k ≤ j → mi1 (z + 1) j = mi (z + 1) j) → c_X12_copyAll_2 l (d + 1) kd mr z (nI f) (nI t) (nI k) mi1 ml K := by
    intro q
    induction q with
    | zero =>
      intro k m1 hk g1 g2 g3
      have : k = 600 := by omega
      subst this
      refine w_X12_copyAll_2 tz ⟨fun _ => ?_, fun h => absurd (nI_le (Nat.le_refl 600) (by omega)) h⟩
      refine s_copyRow (n := 1) (TX12s_a2 tz) rfl rfl rfl (by omega) (by omega) (by omega) (by omega) fun m2 f2 c2 => ?_
      refine s_copyRow (n := 1) (TX12s_a3 tz) rfl rfl rfl (by omega) (by omega) (by omega) (by omega) fun m3 f3 c3 => ?_
      refine s_copyRow (n := 1) (TX12s_a4 tz) rfl rfl rfl (by omega) (by omega) (by omega) (by omega) fun m4 f4 c4 => ?_
      refine s_copyRow (n := 4) (TX12s_a5 tz) rfl rfl rfl (by omega) (by omega) (by omega) (by omega) fun m5 f5 c5 => ?_
      refine s_copyRow (n := 106) (TX12s_a6 tz) rfl rfl rfl (by omega) (by omega) (by omega) (by omega) fun m6 f6 c6 => ?_
      refine s_copyRow (n := 242) (TX12s_a7 tz) rfl rfl rfl (by omega) (by omega) (by omega) (by omega) fun m7 f7 c7 => ?_
      refine s_copyRow (n := 78) (TX12s_a8 tz) rfl rfl rfl (by omega) (by omega) (by omega) (by omega) fun m8 f8 c8 => ?_
      refine s_copyRow (n := 62) (TX12s_a9 tz) rfl rfl rfl (by omega) (by omega) (by omega) (by omega) fun m9 f9 c9 => ?_
      have E1 : m9 (z + 1) = m1 (z + 1) := by rw [f9 _ (by omega), f8 _ (by omega), f7 _ (by omega), f6 _ (by omega), f5 _ (by omega), f4 _ (by omega), f3 _ (by omega), f2 _ (by omega)]
      have E2 : m9 (z + 2) = m2 (z + 2) := by rw [f9 _ (by omega), f8 _ (by omega), f7 _ (by omega), f6 _ (by omega), f5 _ (by omega), f4 _ (by omega), f3 _ (by omega)]
      have E3 : m9 (z + 3) = m3 (z + 3) := by rw [f9 _ (by omega), f8 _ (by omega), f7 _ (by omega), f6 _ (by omega), f5 _ (by omega), f4 _ (by omega)]
      have E4 : m9 (z + 4) = m4 (z + 4) := by rw [f9 _ (by omega), f8 _ (by omega), f7 _ (by omega), f6 _ (by omega), f5 _ (by omega)]
      have E5 : m9 (z + 5) = m5 (z + 5) := by rw [f9 _ (by omega), f8 _ (by omega), f7 _ (by omega), f6 _ (by omega)]
      have E6 : m9 (z + 6) = m6 (z + 6) := by rw [f9 _ (by omega), f8 _ (by omega), f7 _ (by omega)]
      have E7 : m9 (z + 7) = m7 (z + 7) := by rw [f9 _ (by omega), f8 _ (by omega)]
      have E8 : m9 (z + 8) = m8 (z + 8) := by rw [f9 _ (by omega)]
      have B2 : m1 (z + 2) = mi (z + 2) := g1 _ (by omega)
      have B3 : m2 (z + 3) = mi (z + 3) := by rw [f2 _ (by omega)]; exact g1 _ (by omega)
      have B4 : m3 (z + 4) = mi (z + 4) := by rw [f3 _ (by omega), f2 _ (by omega)]; exact g1 _ (by omega)
      have B5 : m4 (z + 5) = mi (z + 5) := by rw [f4 _ (by omega), f3 _ (by omega), f2 _ (by omega)]; exact g1 _ (by omega)
      have B6 : m5 (z + 6) = mi (z + 6) := by rw [f5 _ (by omega), f4 _ (by omega), f3 _ (by omega), f2 _ (by omega)]; exact g1 _ (by omega)
      have B7 : m6 (z + 7) = mi (z + 7) := by rw [f6 _ (by omega), f5 _ (by omega), f4 _ (by omega), f3 _ (by omega), f2 _ (by omega)]; exact g1 _ (by omega)
      have B8 : m7 (z + 8) = mi (z + 8) := by rw [f7 _ (by omega), f6 _ (by omega), f5 _ (by omega), f4 _ (by omega), f3 _ (by omega), f2 _ (by omega)]; exact g1 _ (by omega)
      have B9 : m8 (z + 9) = mi (z + 9) := by rw [f8 _ (by omega), f7 _ (by omega), f6 _ (by omega), f5 _ (by omega), f4 _ (by omega), f3 _ (by omega), f2 _ (by omega)]; exact g1 _ (by omega)
      have FR : ∀ a, a < z + 1 ∨ z + 9 < a → m9 a = mi a := fun a ha => by rw [f9 _ (by omega), f8 _ (by omega), f7 _ (by omega), f6 _ (by omega), f5 _ (by omega), f4 _ (by omega), f3 _ (by omega), f2 _ (by omega)]; exact g1 _ (by omega)
      unfold cpR at c2 c3 c4 c5 c6 c7 c8 c9
      rw [← E2, B2] at c2
      rw [← E3, B3] at c3
      rw [← E4, B4] at c4
      rw [← E5, B5] at c5
      rw [← E6, B6] at c6
      rw [← E7, B7] at c7
      rw [← E8, B8] at c8
      rw [B9] at c9
      rw [← E1] at g2 g3
      clear E1 E2 E3 E4 E5 E6 E7 E8 B2 B3 B4 B5 B6 B7 B8 B9 f2 f3 f4 f5 f6 f7 f8 f9 g1
      refine k9 m9 FR ⟨g2, ?_, ?_, ?_, c5.1, c6.1, c7.1, c8.1, c9.1⟩ fun s hs hst => ⟨fun i hi => g3 _ (by omega), c2.2 _ (by omega), c3.2 _ (by omega), c4.2 _ (by omega), fun i hi => c5.2 _ (by omega), fun i hi => c6.2 _ (by omega), fun i hi => c7.2 _ (by omega), fun i hi => c8.2 _ (by omega), fun i hi => c9.2 _ (by omega)⟩
      · have := c2.1 0 (by omega)
        rw [Nat.one_mul, Nat.one_mul, Nat.add_zero, Nat.add_zero] at this; exact this
      · have := c3.1 0 (by omega)
        rw [Nat.one_mul, Nat.one_mul, Nat.add_zero, Nat.add_zero] at this; exact this
      · have := c4.1 0 (by omega)
        rw [Nat.one_mul, Nat.one_mul, Nat.add_zero, Nat.add_zero] at this; exact this
    | succ q ih =>
      intro k m1 hk g1 g2 g3
      refine w_X12_copyAll_2 tz ⟨fun h => absurd h (nI_ge (b := 600) (by omega) (by omega)), fun _ => ?_⟩
      have e1 : (600 : Int32) * nI f + nI k = nI (600 * f + k) := by rw [show (600 : Int32) * nI f = nI (600 * f) from z_mul 600 _, nI_add]
      have e2 : (600 : Int32) * nI t + nI k = nI (600 * t + k) := by rw [show (600 : Int32) * nI t = nI (600 * t) from z_mul 600 _, nI_add]
      rw [e1, e2, z_cl (by omega), z_cl (by omega), nI_1, g3 (600 * f + k) (by omega), hb k (by omega)]
      refine ⟨z_in (by omega) (by omega), z_in (by omega) (by omega), ih (k + 1) _ (by omega) (fun b hb => by rw [pm_up_row _ _ hb]; exact g1 b hb) (fun i hi => ?_) (fun j hj => ?_)⟩
      · by_cases e : i = k
        · subst e
          rw [pm_up_s]
        · rw [pm_up_j _ _ (by omega)]; exact g2 i (by omega)
      · rw [pm_up_j _ _ (by omega)]; exact g3 j (by omega)
  exact w_X12_copyAll tz (loop 600 0 mi (by omega) (fun _ _ => rfl) (fun i hi => by omega) fun _ _ => rfl)
theorem TX11s_img (tx : TX11s kd mr x) {k : Nat} (hk : k < 3) : mr (x + 46) k = some (x + 47 + 45 * k) ∧ TX9s kd mr (x + 47 + 45 * k) := by
  rcases (show k = 0 ∨ k = 1 ∨ k = 2 by omega) with rfl | rfl | rfl
  · exact ⟨TX11s_e46_0 tx, TX11s_o46_0 tx⟩
  · exact ⟨TX11s_e46_1 tx, TX11s_o46_1 tx⟩
  · exact ⟨TX11s_e46_2 tx, TX11s_o46_2 tx⟩
theorem tI.bc {t : Nat} (H : tI mi ml T z t) {i : Nat} (hi : i < 600) : bC (mi (z + 1) (600 * t + i)) := by
  obtain ⟨n, -, -, -, h, -⟩ := H.1
  rw [← (h i hi).1]; exact (h i hi).2
theorem c_image {a : Int32} (tx : TX11s kd mr x) (tz : TX12s kd mr z) (I : IV x z mi ml) : wB l M_X11_image (d + 4) [.ref x, .int a] kd mr mi ml fun r mi1 ml1 => wB l M_X12_image (d + 4) [.ref z, .int a] kd mr mi1 ml1 fun r2 mi2 ml2 => r = r2 ∧ IV x z mi2 ml2 := by
  have f0 : ∀ (mi : pm_I) (ml : pm_L), frZ z mi (pm_up mi z 0 0) ml ml := fun _ _ => frZ.upI (Or.inl rfl)
  have hz := I.1
  have no : isK a 3 = false → wB l M_X12_image (d + 4) [.ref z, .int a] kd mr mi ml fun r2 mi2 ml2 => false = r2 ∧ IV x z mi2 ml2 := fun h => by
    refine w_X12_image tz (s_in2 (m := 2) rfl (by omega) ⟨fun e => ?_, fun _ => ⟨rfl, I.smZ (f0 _ _)⟩⟩)
    rw [h] at e; cases e
  refine w_X11_image tx ⟨fun h => no (isK_neg h 3), fun h => ?_⟩
  obtain ⟨k, hk, rfl⟩ := (z_cases a).resolve_left h
  have c9 : (nI k < 3) = (k < 3) := z_lt (b := 3) (by omega) (by omega)
  refine ⟨fun h3 => ?_, fun h3 => no ?_⟩
  · have hk3 := c9.mp h3
    obtain ⟨g1, g2⟩ := TX11s_img tx hk3
    have vin : vp_in (nI k) 3 := z_in hk3 (by omega)
    refine ⟨vin, x + 47 + 45 * k, by rw [z_cl hk]; exact g1, g2, s_take9 g2 (TX11s_a0 tx) (by omega) fun m1 l1 fr cT => ⟨vin, ?_⟩⟩
    rw [z_cl hk]
    refine w_X12_image tz (s_in2 (m := 2) rfl (by omega) ⟨fun _ => ?_, fun e => ?_⟩)
    · have sB : ∀ b, z + 1 ≤ b → b ≤ z + 9 → pm_up (pm_up m1 (x + 182) k (1 &&& 1)) z 0 0 b = mi b := fun b b1 b2 => by
        rw [pm_up_row _ _ (by omega), pm_up_row _ _ (by omega)]; exact (fr b (by omega)).1
      refine s_copyAll (f := 0) (t := k + 1) tz rfl (nI_1 k) (by omega) (by omega) (by omega) (fun i hi => by rw [sB _ (by omega) (by omega)]; exact I.2.1.bc hi) fun m2 fz cZ cS => ⟨vin, ?_⟩
      rw [z_cl hk]
      refine ⟨rfl, ?_⟩
      have rows : ∀ b, (b ≤ x + 45 ∨ (x + 47 ≤ b ∧ b < x + 182 ∧ (b < x + 47 + 45 * k ∨ x + 47 + 45 * k + 44 < b)) ∨ (x + 183 ≤ b ∧ b < z)) → pm_up m2 (z + 31) k (1 &&& 1) b = mi b ∧ l1 b = ml b := fun b hb => by
        rw [pm_up_row _ _ (by omega), fz b (by omega), pm_up_row _ _ (by omega), pm_up_row _ _ (by omega)]
        exact fr b (by omega)
      have zz : ∀ b, z + 1 ≤ b → b ≤ z + 9 → pm_up m2 (z + 31) k (1 &&& 1) b = m2 b := fun b b1 b2 => pm_up_row _ _ (by omega)
      have own : ∀ b, x + 47 + 45 * k ≤ b → b ≤ x + 47 + 45 * k + 44 → pm_up m2 (z + 31) k (1 &&& 1) b = m1 b ∧ l1 b = l1 b := fun b b1 b2 => ⟨by
        rw [pm_up_row _ _ (by omega), fz b (by omega), pm_up_row _ _ (by omega), pm_up_row _ _ (by omega)], rfl⟩
      obtain ⟨-, i1, i2, i3, i4⟩ := I
      refine ⟨hz, i1.mv (cpT.self fun b b1 b2 => rows b (by omega)) ((cS 0 (by omega) (by omega)).cg zz sB), fun j hj hjt => ?_, fun j hj => ?_, fun w hw c hc => ?_⟩
      · by_cases e : j = k
        · subst e
          exact i1.mv (cT.dst own) (cZ.cg zz sB)
        · rw [pm_up_row _ _ (by omega), fz _ (by omega), pm_up_row _ _ (by omega), pm_up_j _ _ e, (fr _ (by omega)).1] at hjt
          exact (i2 j hj hjt).mv (cpT.self fun b b1 b2 => rows b (by omega)) ((cS (j + 1) (by omega) (by omega)).cg zz sB)
      · by_cases e : j = k
        · subst e
          rw [pm_up_s, pm_up_row _ _ (by omega), fz _ (by omega), pm_up_row _ _ (by omega), pm_up_s]
        · rw [pm_up_row _ _ (by omega), fz _ (by omega), pm_up_row _ _ (by omega), pm_up_j _ _ e, (fr _ (by omega)).1, pm_up_j _ _ e, fz _ (by omega), pm_up_row _ _ (by omega), pm_up_row _ _ (by omega), (fr _ (by omega)).1]
          exact i3 j hj
      · rw [(rows (x + 230) (by omega)).1, (rows (x + 231) (by omega)).1]
        exact i4 w hw c hc
    · rw [isK_nI hk, decide_eq_true (show k < 2 + 1 by omega)] at e; cases e
  · rw [isK_nI hk]
    exact decide_eq_false fun q => h3 (c9.mpr q)
theorem c_again {a : Int32} (tx : TX11s kd mr x) (tz : TX12s kd mr z) (I : IV x z mi ml) : wB l M_X11_again (d + 4) [.ref x, .int a] kd mr mi ml fun r mi1 ml1 => wB l M_X12_again (d + 4) [.ref z, .int a] kd mr mi1 ml1 fun r2 mi2 ml2 => r = r2 ∧ IV x z mi2 ml2 := by
  have f0 : ∀ (mi : pm_I) (ml : pm_L), frZ z mi (pm_up mi z 0 0) ml ml := fun _ _ => frZ.upI (Or.inl rfl)
  have hz := I.1
  have no : isK a 3 = false → wB l M_X12_again (d + 4) [.ref z, .int a] kd mr mi ml fun r2 mi2 ml2 => false = r2 ∧ IV x z mi2 ml2 := fun h => by
    refine w_X12_again tz (s_in2 (m := 2) rfl (by omega) ⟨fun _ => ⟨rfl, I.smZ (f0 _ _)⟩, fun e => ?_⟩)
    rw [h] at e; cases e
  refine w_X11_again tx ⟨fun h => no (isK_neg h 3), fun h => ?_⟩
  obtain ⟨k, hk, rfl⟩ := (z_cases a).resolve_left h
  have c9 : (3 ≤ nI k) = (3 ≤ k) := z_le (a := 3) (by omega) (by omega)
  refine ⟨fun h3 => no ?_, fun h3 => ?_⟩
  · rw [isK_nI hk]
    exact decide_eq_false fun q => absurd (c9.mp h3) (by omega)
  · have hk3 : k < 3 := Nat.lt_of_not_le fun q => h3 (c9.mpr q)
    obtain ⟨g1, g2⟩ := TX11s_img tx hk3
    have vin : vp_in (nI k) 3 := z_in hk3 (by omega)
    have ek : isK (nI k) (2 + 1) = true := by rw [isK_nI hk]; exact decide_eq_true hk3
    rw [z_cl hk]
    refine ⟨vin, fun h0 => ⟨vin, x + 47 + 45 * k, g1, g2, s_take9 (TX11s_a0 tx) g2 (by omega) fun m1 l1 fr cT => ?_⟩, fun h0 => ?_⟩
    · have sB : ∀ b, z + 1 ≤ b → b ≤ z + 9 → pm_up m1 z 0 0 b = mi b := fun b b1 b2 => by
        rw [pm_up_row _ _ (by omega)]; exact (fr b (by omega)).1
      refine w_X12_again tz (s_in2 (m := 2) rfl (by omega) ⟨fun e => ?_, fun _ => ⟨vin, ?_⟩⟩)
      · rw [ek] at e; cases e
      · rw [z_cl hk, pm_up_row _ _ (by omega), (fr _ (by omega)).1, ← I.2.2.2.1 k hk3]
        refine ⟨fun _ => ?_, fun e => absurd e h0⟩
        refine s_copyAll (f := k + 1) (t := 0) tz (nI_1 k) rfl (by omega) (by omega) (by omega) (fun i hi => by rw [sB _ (by omega) (by omega)]; exact (I.2.2.1 k hk3 h0).bc hi) fun m2 fz cZ cS => ⟨rfl, ?_⟩
        have rows : ∀ b, (x + 46 ≤ b ∧ b < z) ∨ b = z + 31 → m2 b = mi b ∧ l1 b = ml b := fun b hb => by
          rw [fz b (by omega), pm_up_row _ _ (by omega)]
          exact fr b (by omega)
        have zz : ∀ b, z + 1 ≤ b → b ≤ z + 9 → m2 b = m2 b := fun b b1 b2 => rfl
        have own : ∀ b, x + 1 ≤ b → b ≤ x + 1 + 44 → m2 b = m1 b ∧ l1 b = l1 b := fun b b1 b2 => ⟨by
          rw [fz b (by omega), pm_up_row _ _ (by omega)], rfl⟩
        obtain ⟨-, i1, i2, i3, i4⟩ := I
        refine ⟨hz, (i2 k hk3 h0).mv (cT.dst own) (cZ.cg zz sB), fun j hj hjt => (i2 j hj (by rw [← (rows (x + 182) (by omega)).1]; exact hjt)).mv (cpT.self fun b b1 b2 => rows b (by omega)) ((cS (j + 1) (by omega) (by omega)).cg zz sB), fun j hj => ?_, fun w hw c hc => ?_⟩
        · rw [(rows (x + 182) (by omega)).1, (rows (z + 31) (by omega)).1]; exact i3 j hj
        · rw [(rows (x + 230) (by omega)).1, (rows (x + 231) (by omega)).1]
          exact i4 w hw c hc
    · refine w_X12_again tz (s_in2 (m := 2) rfl (by omega) ⟨fun e => ?_, fun _ => ⟨vin, ?_⟩⟩)
      · rw [ek] at e; cases e
      · rw [z_cl hk, pm_up_row _ _ (by omega), ← I.2.2.2.1 k hk3]
        exact ⟨fun e => absurd h0 e, fun _ => ⟨rfl, I.smZ (f0 _ _)⟩⟩
end COPYZ
