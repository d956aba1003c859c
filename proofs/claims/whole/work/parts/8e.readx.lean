/-! the class's whole reading -/
def inhS (r : Nat → Int32) (s : Nat) : Prop := (∃ p, p < gN r 3 ∧ s = 8 * gN r (21 + p) + gN r (15 + p)) ∨ ∃ p, p < gN r 4 ∧ s = 8 * gN r (39 + p) + gN r (33 + p)
theorem bit_lt8 {m x : Nat} (h : m < 256) (hx : m.testBit x = true) : x < 8 := by
  rcases Nat.lt_or_ge x 8 with q | q
  · exact q
  · rw [Nat.testBit_lt_two_pow (Nat.lt_of_lt_of_le h (Nat.pow_le_pow_right (n := 2) (by decide) q))] at hx
    cases hx
theorem out_iff {r : Nat → Int32} (P : prC r) : (∃ s, s < 64 ∧ (inhS r s ∨ (gN r (45 + s / 8)).testBit (s % 8) = true) ∧ ¬ (s % 8 < gN r 0 ∧ s / 8 < gN r 1)) ↔ ¬ (inC r (gN r 0) ∧ inR r (gN r 1)) := by
  obtain ⟨p1, p2, p3, p4, p5, p6, p7, p8, p9, -, -⟩ := P
  constructor
  · rintro ⟨s, hs, h1, h2⟩ ⟨c1, c2⟩
    apply h2
    rcases h1 with (⟨p, hp, rfl⟩ | ⟨p, hp, rfl⟩) | h1
    · have a1 := p8 p hp
      have a2 := c1.1 p hp
      have a3 := c2.1 p hp
      omega
    · have a1 := p9 p hp
      have a2 := c1.2.1 p hp
      have a3 := c2.2.1 p hp
      omega
    · exact ⟨c1.2.2 (s / 8) (s % 8) (by omega) h1, c2.2.2 (s / 8) (s % 8) (by omega) h1⟩
  · intro h
    refine Classical.byContradiction fun z => h ?_
    have key : ∀ s, s < 64 → (inhS r s ∨ (gN r (45 + s / 8)).testBit (s % 8) = true) → s % 8 < gN r 0 ∧ s / 8 < gN r 1 := fun s hs h1 => Classical.byContradiction fun h2 => z ⟨s, hs, h1, h2⟩
    have k3 : ∀ p, p < gN r 3 → gN r (15 + p) < gN r 0 ∧ gN r (21 + p) < gN r 1 := fun p hp => by
      have a1 := p8 p hp
      have := key (8 * gN r (21 + p) + gN r (15 + p)) (by omega) (Or.inl (Or.inl ⟨p, hp, rfl⟩))
      omega
    have k4 : ∀ p, p < gN r 4 → gN r (33 + p) < gN r 0 ∧ gN r (39 + p) < gN r 1 := fun p hp => by
      have a1 := p9 p hp
      have := key (8 * gN r (39 + p) + gN r (33 + p)) (by omega) (Or.inl (Or.inr ⟨p, hp, rfl⟩))
      omega
    have kw : ∀ y x, y < 8 → (gN r (45 + y)).testBit x = true → x < gN r 0 ∧ y < gN r 1 := fun y x hy hx => by
      have x8 := bit_lt8 (p1 (45 + y) (by omega)).2 hx
      have := key (8 * y + x) (by omega) (Or.inr (by rw [show (8 * y + x) / 8 = y by omega, show (8 * y + x) % 8 = x by omega]; exact hx))
      omega
    exact ⟨⟨fun p hp => (k3 p hp).1, fun p hp => (k4 p hp).1, fun y x hy hx => (kw y x hy hx).1⟩, ⟨fun p hp => (k3 p hp).2, fun p hp => (k4 p hp).2, fun y x hy hx => (kw y x hy hx).2⟩⟩
theorem wld_iff {r : Nat → Int32} (P : prC r) : (∃ s, s < 64 ∧ inhS r s ∧ (gN r (45 + s / 8)).testBit (s % 8) = true) ↔ wldR r := by
  obtain ⟨p1, p2, p3, p4, p5, p6, p7, p8, p9, -, -⟩ := P
  constructor
  · rintro ⟨s, hs, ⟨p, hp, rfl⟩ | ⟨p, hp, rfl⟩, h2⟩
    · have a1 := p8 p hp
      rw [show (8 * gN r (21 + p) + gN r (15 + p)) / 8 = gN r (21 + p) by omega, show (8 * gN r (21 + p) + gN r (15 + p)) % 8 = gN r (15 + p) by omega] at h2
      exact Or.inl ⟨p, hp, h2⟩
    · have a1 := p9 p hp
      rw [show (8 * gN r (39 + p) + gN r (33 + p)) / 8 = gN r (39 + p) by omega, show (8 * gN r (39 + p) + gN r (33 + p)) % 8 = gN r (33 + p) by omega] at h2
      exact Or.inr ⟨p, hp, h2⟩
  · rintro (⟨p, hp, h⟩ | ⟨p, hp, h⟩)
    · have a1 := p8 p hp
      refine ⟨8 * gN r (21 + p) + gN r (15 + p), by omega, Or.inl ⟨p, hp, rfl⟩, ?_⟩
      rw [show (8 * gN r (21 + p) + gN r (15 + p)) / 8 = gN r (21 + p) by omega, show (8 * gN r (21 + p) + gN r (15 + p)) % 8 = gN r (15 + p) by omega]
      exact h
    · have a1 := p9 p hp
      refine ⟨8 * gN r (39 + p) + gN r (33 + p), by omega, Or.inr ⟨p, hp, rfl⟩, ?_⟩
      rw [show (8 * gN r (39 + p) + gN r (33 + p)) / 8 = gN r (39 + p) by omega, show (8 * gN r (39 + p) + gN r (33 + p)) % 8 = gN r (33 + p) by omega]
      exact h
section RDX
variable {l : Launch} {d h o k : Nat} {kd : pm_K} {mr : pm_R} {mi : pm_I} {ml : pm_L} {t : Nat → Nat} {n s p : Nat} {F : Nat × Nat} {r : Nat → Int32}
theorem s_insideP {K : Int64 → pm_I → pm_L → Prop} (to : TX0s kd mr o) (C : CC mi ml o r) (P : prC r) (k9 : ∀ z, (∀ s, s < 64 → bl z s = decide (s % 8 < gN r 0 ∧ s / 8 < gN r 1)) → K z mi ml) : wL l M_X0_inside (d + 1) [.ref o] kd mr mi ml K := by
  obtain ⟨p1, p2, p3, -⟩ := P
  have cw : mi o 0 = nI (gN r 0) := C.1.trans (p1 0 (by omega)).1
  have ch : mi o 1 = nI (gN r 1) := C.2.1.trans (p1 1 (by omega)).1
  refine w_X0_inside to ?_
  rw [cw]
  refine w_X11_only ?_
  have loop : ∀ (m y : Nat) (z : Int64), y + m = gN r 1 → (∀ s, s < 64 → bl z s = decide (s % 8 < gN r 0 ∧ s / 8 < y)) → c_X0_inside_15 l (d + 1) kd mr o (((1 : Int64) <<< ((nI (gN r 0)).toInt64 &&& 63)) - 1) z (nI y) mi ml K := by
    intro m
    induction m with
    | zero =>
      intro y z hy hz
      have : y = gN r 1 := by omega
      subst this
      exact w_X0_inside_15 to ⟨fun _ => k9 z hz, fun q => absurd (by rw [ch]; exact nI_le (Nat.le_refl _) (by omega)) q⟩
    | succ m ih =>
      intro y z hy hz
      refine w_X0_inside_15 to ⟨fun q => absurd q (by rw [ch]; exact nI_ge (by omega) (by omega)), fun _ => ?_⟩
      rw [nI_1, show (8 : Int32) * nI y = nI (8 * y) from z_mul 8 y]
      refine ih (y + 1) _ (by omega) (fun s hs => ?_)
      rw [bl_or, hz s hs, bl_shl (by omega) _ hs]
      by_cases q : 8 * y ≤ s
      · rw [bl_low _ (by omega) _ (by omega)]
        by_cases q2 : s / 8 = y
        · have e1 : s - 8 * y = s % 8 := by omega
          have e2 : ¬ s / 8 < y := by omega
          have e3 : s / 8 < y + 1 := by omega
          simp [q, e1, e2, e3]
        · have e1 : ¬ s - 8 * y < gN r 0 := by omega
          have e2 : ¬ s / 8 < y := by omega
          have e3 : ¬ s / 8 < y + 1 := by omega
          simp [e1, e2, e3]
      · have e2 : (s / 8 < y) = True := by simp; omega
        have e3 : (s / 8 < y + 1) = True := by simp; omega
        simp [q, e2, e3]
  exact loop (gN r 1) 0 0 (by omega) (fun s _ => by rw [bl_0]; simp)
theorem s_inhab {K : Int64 → pm_I → pm_L → Prop} (to : TX0s kd mr o) (C : CC mi ml o r) (P : prC r) (k9 : ∀ z, (∀ s, s < 64 → (bl z s = true ↔ inhS r s)) → K z mi ml) : wL l M_X0_inhabited (d + 1) [.ref o] kd mr mi ml K := by
  obtain ⟨p1, p2, p3, p4, p5, p6, p7, p8, p9, -, -⟩ := P
  have c3 : mi o 4 = nI (gN r 3) := C.2.2.2.1.trans (p1 3 (by omega)).1
  have c4 : mi o 5 = nI (gN r 4) := C.2.2.2.2.1.trans (p1 4 (by omega)).1
  have loop2 : ∀ (m q : Nat) (z : Int64), q + m = gN r 4 → (∀ s, s < 64 → (bl z s = true ↔ (∃ p, p < gN r 3 ∧ s = 8 * gN r (21 + p) + gN r (15 + p)) ∨ ∃ p, p < q ∧ s = 8 * gN r (39 + p) + gN r (33 + p))) → c_X0_inhabited_32 l (d + 1) kd mr o z (nI q) mi ml K := by
    intro m
    induction m with
    | zero =>
      intro q z hq hz
      have : q = gN r 4 := by omega
      subst this
      exact w_X0_inhabited_32 to ⟨fun _ => k9 z hz, fun g => absurd (by rw [c4]; exact nI_le (Nat.le_refl _) (by omega)) g⟩
    | succ m ih =>
      intro q z hq hz
      have b := p9 q (by omega)
      refine w_X0_inhabited_32 to ⟨fun g => absurd g (by rw [c4]; exact nI_ge (by omega) (by omega)), fun _ => ⟨z_in (by omega) (by omega), ?_⟩⟩
      rw [z_cl (by omega), (C.pe (p := q) (by omega)).2]
      refine s_only rfl (by omega) fun y hy => ?_
      rw [nI_1]
      refine ih (q + 1) _ (by omega) fun s hs => ?_
      rw [bl_or, hy s hs, Bool.or_eq_true, decide_eq_true_eq, hz s hs]
      constructor
      · rintro ((h1 | ⟨p, h1, h2⟩) | h1)
        · exact Or.inl h1
        · exact Or.inr ⟨p, by omega, h2⟩
        · exact Or.inr ⟨q, by omega, h1⟩
      · rintro (h1 | ⟨p, h1, h2⟩)
        · exact Or.inl (Or.inl h1)
        · by_cases e : p = q
          · subst e; exact Or.inr h2
          · exact Or.inl (Or.inr ⟨p, by omega, h2⟩)
  have loop1 : ∀ (m q : Nat) (z : Int64), q + m = gN r 3 → (∀ s, s < 64 → (bl z s = true ↔ ∃ p, p < q ∧ s = 8 * gN r (21 + p) + gN r (15 + p))) → c_X0_inhabited_4 l (d + 1) kd mr o z (nI q) mi ml K := by
    intro m
    induction m with
    | zero =>
      intro q z hq hz
      have : q = gN r 3 := by omega
      subst this
      refine w_X0_inhabited_4 to ⟨fun _ => loop2 (gN r 4) 0 z (by omega) fun s hs => ?_, fun g => absurd (by rw [c3]; exact nI_le (Nat.le_refl _) (by omega)) g⟩
      rw [hz s hs]
      exact ⟨Or.inl, fun h => h.resolve_right fun ⟨p, h1, _⟩ => absurd h1 (Nat.not_lt_zero p)⟩
    | succ m ih =>
      intro q z hq hz
      have b := p8 q (by omega)
      refine w_X0_inhabited_4 to ⟨fun g => absurd g (by rw [c3]; exact nI_ge (by omega) (by omega)), fun _ => ⟨z_in (by omega) (by omega), ?_⟩⟩
      rw [z_cl (by omega), (C.pl (p := q) (by omega)).2]
      refine s_only rfl (by omega) fun y hy => ?_
      rw [nI_1]
      refine ih (q + 1) _ (by omega) fun s hs => ?_
      rw [bl_or, hy s hs, Bool.or_eq_true, decide_eq_true_eq, hz s hs]
      constructor
      · rintro (⟨p, h1, h2⟩ | h1)
        · exact ⟨p, by omega, h2⟩
        · exact ⟨q, by omega, h1⟩
      · rintro ⟨p, h1, h2⟩
        by_cases e : p = q
        · subst e; exact Or.inr h2
        · exact Or.inl ⟨p, by omega, h2⟩
  exact w_X0_inhabited to (loop1 (gN r 3) 0 0 (by omega) fun s _ => ⟨fun h => (by rw [bl_0] at h; cases h), fun ⟨p, h1, _⟩ => absurd h1 (Nat.not_lt_zero p)⟩)
theorem s_names {K : Bool → pm_I → pm_L → Prop} (to : TX10s kd mr o) (h0 : mi o 0 = r 0) (R : RR mi (o + 1) 2 r) (P : prT r) (kt : ¬ inV r (gN r 0) → K true mi ml) (kf : inV r (gN r 0) → K false mi ml) : wB l M_X10_namesOneWhoIsNotThere d [.ref o] kd mr mi ml K := by
  obtain ⟨p1, p2, p3, p4, p5, p6, p7, -⟩ := P
  obtain ⟨m, m40, R1, R2, R3⟩ := R
  have em : gN r 2 = m := gN_of R2 (by omega)
  rw [h0.symm.trans rfl] at p3
  have h0 : mi o 0 = nI (gN r 0) := p3
  have loop : ∀ (q i : Nat), i + q = m → (∀ j, j < i → gN r (4 + 3 * j) < gN r 0 ∧ gN r (5 + 3 * j) < gN r 0) → c_X10_namesOneWhoIsNotThere_2 l d kd mr o (nI i) mi ml K := by
    intro q
    induction q with
    | zero =>
      intro i hi hj
      have : i = m := by omega
      subst this
      exact w_X10_namesOneWhoIsNotThere_2 to ⟨fun _ => kf fun j h => hj j (by omega), fun g => absurd (by rw [R1]; exact nI_le (Nat.le_refl _) (by omega)) g⟩
    | succ q ih =>
      intro i hi hj
      obtain ⟨a, b, c, a2, b8, c8, e1, e2, e3⟩ := p7 i (by omega)
      have gb : gN r (4 + 3 * i) = b := gN_of e2 (by omega)
      have gc : gN r (5 + 3 * i) = c := gN_of e3 (by omega)
      obtain ⟨-, f2, f3⟩ := R3 i (by omega)
      rw [show 2 + 1 + 3 * i + 1 = 4 + 3 * i by omega, e2] at f2
      rw [show 2 + 1 + 3 * i + 2 = 5 + 3 * i by omega, e3] at f3
      refine w_X10_namesOneWhoIsNotThere_2 to ⟨fun g => absurd g (by rw [R1]; exact nI_ge (by omega) (by omega)), fun _ => ⟨z_in (by omega) (by omega), ?_⟩⟩
      rw [z_cl (by omega), f2, f3, h0, z_le (by omega) (by omega), z_lt (by omega) (by omega)]
      refine ⟨fun g => kt fun z => ?_, fun g => ⟨z_in (by omega) (by omega), fun g2 => ?_, fun g2 => kt fun z => ?_⟩⟩
      · have := (z i (by omega)).1; omega
      · rw [nI_1]
        refine ih (i + 1) (by omega) fun j h => ?_
        by_cases e : j = i
        · subst e; omega
        · exact hj j (by omega)
      · have := (z i (by omega)).2; omega
  exact w_X10_namesOneWhoIsNotThere to (loop m 0 (by omega) fun j h => absurd h (Nat.not_lt_zero j))
/-- the check at the end -/
theorem s_check {u : Int32} {K : pm_I → pm_L → Prop} (th : TX5s kd mr h) (P : tpX mi h t n) (X : stX mi h t n s F) (h0 : F.1 = 0) (hu : u = nI k) (hk : k < 4) (D : DrX k mi ml h r) (R : prA k r)
    (k9 : ∀ mi' e, fH h mi mi' → endE k r e → e < 6 → mi' h 6 = nI e → (e = 0 → mi' h 7 = -1) → (e ≠ 0 → mi' h 7 = nI n) → K mi' ml) : wV l M_X5_checkWhole (d + 2) [.ref h, .int u] kd mr mi ml K := by
  subst hu
  obtain ⟨-, X2, -, -, -, X6⟩ := id X
  have e6 : mi h 6 = nI 0 := by rw [X2, h0]
  have e7 : mi h 7 = -1 := X6 h0
  have ek : (nI k = (0 : Int32)) = (k = 0) := z_eq (b := 0) (by omega) (by omega)
  have ek2 : (nI k = (2 : Int32)) = (k = 2) := z_eq (b := 2) (by omega) (by omega)
  have none_ : endE k r 0 → K mi ml := fun hE => k9 mi 0 fH.rf hE (by omega) e6 (fun _ => e7) (fun z => absurd rfl z)
  have told_ : ∀ e, endE k r e → e = 4 ∨ e = 5 → wV l M_X5_note (d + 1) [.ref h, .int (nI e), .int (mi h 1)] kd mr mi ml K := fun e hE he => by
    refine s_note (f := e) (p := n) th X ⟨by omega, by omega, by omega⟩ rfl P.1 fun mi' f X' => ?_
    have eF : noteF e n F = (e, n) := if_pos h0
    rw [eF] at X'
    obtain ⟨-, Y2, -, -, Y5, -⟩ := X'
    exact k9 mi' e f hE (by omega) Y2 (fun z => by omega) fun z => Y5 (by show e ≠ 0; omega)
  refine w_X5_checkWhole th ?_
  rw [ek, ek2]
  refine ⟨fun k0 => ⟨fun k2 => none_ (by unfold endE; rw [if_neg k0, if_neg k2]), fun k2 => ?_⟩, fun k0 => ?_⟩
  · subst k2
    obtain ⟨d1, d2, d3⟩ := (show mi (h + 12) 0 = r 0 ∧ mi (h + 12) 1 = r 1 ∧ RR mi (h + 13) 2 r from D)
    have R : prT r := R
    exact s_names (TX5s_a10 th) d1 d3 R (fun q => ⟨fun z => (by cases z), fun _ => told_ 4 (by unfold endE; rw [if_neg (by omega), if_pos rfl]; exact Or.inl ⟨q, rfl⟩) (by omega)⟩) (fun q => ⟨fun _ => none_ (by unfold endE; rw [if_neg (by omega), if_pos rfl]; exact Or.inr ⟨q, rfl⟩), fun z => (by cases z)⟩)
  · subst k0
    have C : CC mi ml (h + 2) r := D
    have R : prC r := R
    refine s_inhab (TX5s_a8 th) C R fun z1 hz1 => s_insideP (TX5s_a8 th) C R fun z2 hz2 => ?_
    rw [lg_0, lg_0]
    have E : ∀ e, ((¬ (inC r (gN r 0) ∧ inR r (gN r 1)) ∧ e = 4) ∨ ((inC r (gN r 0) ∧ inR r (gN r 1)) ∧ wldR r ∧ e = 5) ∨ ((inC r (gN r 0) ∧ inR r (gN r 1)) ∧ ¬ wldR r ∧ e = 0)) → endE 0 r e := fun e he => by unfold endE; rw [if_pos rfl]; exact he
    have b1 : ∀ s, s < 64 → (bl ((z1 ||| ml (h + 2) 3) &&& (z2 ^^^ -1)) s = true ↔ (inhS r s ∨ (gN r (45 + s / 8)).testBit (s % 8) = true) ∧ ¬ (s % 8 < gN r 0 ∧ s / 8 < gN r 1)) := fun s hs => by
      rw [bl_not, bl_or, hz2 s hs, Bool.and_eq_true, Bool.or_eq_true, hz1 s hs, C.wall hs, Bool.not_eq_true', decide_eq_false_iff_not]
    have b2 : ∀ s, s < 64 → (bl (z1 &&& ml (h + 2) 3) s = true ↔ inhS r s ∧ (gN r (45 + s / 8)).testBit (s % 8) = true) := fun s hs => by
      rw [bl_and, Bool.and_eq_true, hz1 s hs, C.wall hs]
    have q1 : ¬ (z1 ||| ml (h + 2) 3) &&& (z2 ^^^ -1) = 0 ↔ ¬ (inC r (gN r 0) ∧ inR r (gN r 1)) := by
      rw [bl_ne, ← out_iff R]
      exact ⟨fun ⟨s, hs, hb⟩ => ⟨s, hs, (b1 s hs).mp hb⟩, fun ⟨s, hs, hb⟩ => ⟨s, hs, (b1 s hs).mpr hb⟩⟩
    have q2 : ¬ z1 &&& ml (h + 2) 3 = 0 ↔ wldR r := by
      rw [bl_ne, ← wld_iff R]
      exact ⟨fun ⟨s, hs, hb⟩ => ⟨s, hs, (b2 s hs).mp hb⟩, fun ⟨s, hs, hb⟩ => ⟨s, hs, (b2 s hs).mpr hb⟩⟩
    refine ⟨fun g1 => ⟨fun g2 => none_ (E 0 (Or.inr (Or.inr ⟨?_, fun z => q2.mpr z g2, rfl⟩))), fun g2 => told_ 5 (E 5 (Or.inr (Or.inl ⟨?_, q2.mp g2, rfl⟩))) (by omega)⟩, fun g1 => told_ 4 (E 4 (Or.inl ⟨q1.mp g1, rfl⟩)) (by omega)⟩
    · exact Classical.byContradiction fun z => q1.mpr z g1
    · exact Classical.byContradiction fun z => q1.mpr z g1
end RDX
