/-! enough -/
/-- all that hear anybody hear one of these -/
def cov (r : Nat → Int32) (S : Nat) : Prop := ∀ c, c < cells r → wlC r c = false → (hb r S c ↔ hb r (2 ^ gN r 3 - 1) c)
def isBest (r : Nat → Int32) (b : Nat) : Prop := b ≤ 2 ^ gN r 3 - 1 ∧ cov r b ∧ ∀ S, S ≤ 2 ^ gN r 3 - 1 → cov r S → on b < on S ∨ (on b = on S ∧ b ≤ S)
theorem isBest.uniq {r : Nat → Int32} {b b' : Nat} (h1 : isBest r b) (h2 : isBest r b') : b = b' := by
  have a1 := h1.2.2 b' h2.1 h2.2.1
  have a2 := h2.2.2 b h1.1 h1.2.1
  omega
theorem on_le (s : Nat) : on s ≤ 8 := cnt_le _ _
section EN
variable {l : Launch} {d h o x z T : Nat} {kd : pm_K} {mr : pm_R} {mi : pm_I} {ml : pm_L} {k : Nat} {r : Nat → Int32}
theorem cS_and {a b : Int64} {P Q : Nat → Prop} (ha : cS r a P) (hb : cS r b Q) : cS r (a &&& b) fun c => P c ∧ Q c := fun s hs => by
  rw [bl_and, Bool.and_eq_true, ha s hs, hb s hs]
  exact ⟨fun ⟨⟨h1, h2⟩, _, h3⟩ => ⟨h1, h2, h3⟩, fun ⟨h1, h2, h3⟩ => ⟨⟨h1, h2⟩, h1, h3⟩⟩
theorem cS_or {a b : Int64} {P Q : Nat → Prop} (ha : cS r a P) (hb : cS r b Q) : cS r (a ||| b) fun c => P c ∨ Q c := fun s hs => by
  rw [bl_or, Bool.or_eq_true, ha s hs, hb s hs]
  exact ⟨fun q => q.elim (fun ⟨h1, h2⟩ => ⟨h1, Or.inl h2⟩) (fun ⟨h1, h2⟩ => ⟨h1, Or.inr h2⟩), fun ⟨h1, h2⟩ => h2.elim (fun h2 => Or.inl ⟨h1, h2⟩) (fun h2 => Or.inr ⟨h1, h2⟩)⟩
theorem cS_diff {a b : Int64} {P Q : Nat → Prop} (ha : cS r a P) (hb : cS r b Q) : cS r (a &&& (b ^^^ (-1))) fun c => P c ∧ ¬ Q c := fun s hs => by
  rw [bl_not, Bool.and_eq_true, Bool.not_eq_true', ha s hs]
  have := hb s hs
  constructor
  · rintro ⟨⟨h1, h2⟩, h3⟩
    exact ⟨h1, h2, fun q => by rw [this.mpr ⟨h1, q⟩] at h3; cases h3⟩
  · rintro ⟨h1, h2, h3⟩
    refine ⟨⟨h1, h2⟩, ?_⟩
    cases e : bl b s with
    | false => rfl
    | true => exact absurd (this.mp e).2 h3
theorem cZ_and {a b : Int64} {P Q : Nat → Prop} (ha : cZ r a P) (hb : cZ r b Q) : cZ r (a &&& b) fun c => P c ∧ Q c := fun s hs => by
  rw [bl_and, Bool.and_eq_true, ha s hs, hb s hs]
  exact ⟨fun ⟨⟨h1, h2⟩, _, h3⟩ => ⟨h1, h2, h3⟩, fun ⟨h1, h2, h3⟩ => ⟨⟨h1, h2⟩, h1, h3⟩⟩
theorem cZ_or {a b : Int64} {P Q : Nat → Prop} (ha : cZ r a P) (hb : cZ r b Q) : cZ r (a ||| b) fun c => P c ∨ Q c := fun s hs => by
  rw [bl_or, Bool.or_eq_true, ha s hs, hb s hs]
  exact ⟨fun q => q.elim (fun ⟨h1, h2⟩ => ⟨h1, Or.inl h2⟩) (fun ⟨h1, h2⟩ => ⟨h1, Or.inr h2⟩), fun ⟨h1, h2⟩ => h2.elim (fun h2 => Or.inl ⟨h1, h2⟩) (fun h2 => Or.inr ⟨h1, h2⟩)⟩
theorem cZ_diff {a b : Int64} {P Q : Nat → Prop} (ha : cZ r a P) (hb : cZ r b Q) : cZ r (a &&& (b ^^^ (-1))) fun c => P c ∧ ¬ Q c := fun s hs => by
  rw [bl_not, Bool.and_eq_true, Bool.not_eq_true', ha s hs]
  have := hb s hs
  constructor
  · rintro ⟨⟨h1, h2⟩, h3⟩
    exact ⟨h1, h2, fun q => by rw [this.mpr ⟨h1, q⟩] at h3; cases h3⟩
  · rintro ⟨h1, h2, h3⟩
    refine ⟨⟨h1, h2⟩, ?_⟩
    cases e : bl b s with
    | false => rfl
    | true => exact absurd (this.mp e).2 h3
theorem cov_S {a b : Int64} {S : Nat} (O : okC r) (ha : cS r a fun c => hb r S c ∧ wlC r c = false) (hb : cS r b fun c => hb r (2 ^ gN r 3 - 1) c ∧ wlC r c = false) : a = b ↔ cov r S := by
  constructor
  · intro e c hc ho
    have := ha.ne hb O e hc
    exact ⟨fun q => (this.mp ⟨q, ho⟩).1, fun q => (this.mpr ⟨q, ho⟩).1⟩
  · intro q
    exact ha.eq hb fun c hc => ⟨fun ⟨h1, h2⟩ => ⟨(q c hc h2).mp h1, h2⟩, fun ⟨h1, h2⟩ => ⟨(q c hc h2).mpr h1, h2⟩⟩
theorem cov_Z {a b : Int64} {S : Nat} (O : okC r) (ha : cZ r a fun c => hb r S c ∧ wlC r c = false) (hb : cZ r b fun c => hb r (2 ^ gN r 3 - 1) c ∧ wlC r c = false) : a = b ↔ cov r S := by
  constructor
  · intro e c hc ho
    have := ha.ne hb O e hc
    exact ⟨fun q => (this.mp ⟨q, ho⟩).1, fun q => (this.mpr ⟨q, ho⟩).1⟩
  · intro q
    exact ha.eq hb fun c hc => ⟨fun ⟨h1, h2⟩ => ⟨(q c hc h2).mp h1, h2⟩, fun ⟨h1, h2⟩ => ⟨(q c hc h2).mpr h1, h2⟩⟩
theorem s_fewest {K : Int32 → pm_I → pm_L → Prop} (th : TX1s kd mr h) (to : TX0s kd mr o) (C : CC mi ml o r) (O : okC r) (hh : hX r h mi ml) (k9 : ∀ b, isBest r b → K (nI b) mi ml) : wI l M_X1_fewestPlayers (d + 3) [.ref h, .ref o] kd mr mi ml K := by
  have h3 := O.2.2.2.2.1
  have hpw := pw_le h3
  have e4 := C.np O
  refine w_X1_fewestPlayers th to (s_openX to C O fun op hop => ?_)
  rw [e4, z_all h3]
  refine s_heardOfSet th to C O hh rfl (by omega) fun w hw => ?_
  have hall := cS_and hw (cS_open hop)
  have loop : ∀ (u b : Nat), u ≤ 2 ^ gN r 3 → b ≤ 2 ^ gN r 3 - 1 → cov r b → (∀ S, u ≤ S → S ≤ 2 ^ gN r 3 - 1 → cov r S → on b < on S ∨ (on b = on S ∧ b ≤ S)) → c_X1_fewestPlayers_30 l (d + 3) kd mr h o op (w &&& op) (nI b) (nI u - 1) mi ml K := by
    intro u
    induction u with
    | zero =>
      intro b _ h1 h2 h3'
      exact w_X1_fewestPlayers_30 th to ⟨fun _ => k9 b ⟨h1, h2, fun S => h3' S (Nat.zero_le _)⟩, fun h => absurd (by decide) h⟩
    | succ u ih =>
      intro b hu h1 h2 h3'
      rw [nI_pred]
      have ou := on_le u
      have ob := on_le b
      refine w_X1_fewestPlayers_30 th to ⟨fun h => absurd h (nI_pos (by omega)), fun _ => s_bits rfl (by omega) (s_bits rfl (by omega) ?_)⟩
      have q1 : (nI (on b) < nI (on u)) = (on b < on u) := z_lt (by omega) (by omega)
      simp only [q1]
      refine ⟨fun e => w_X1_fewestPlayers_79 th to ?_, fun e => s_heardOfSet th to C O hh rfl (by omega) fun v hv => w_X1_fewestPlayers_79 th to ?_⟩
      · rw [z_dec]
        have e : on b < on u := by simpa using e
        refine ih b (by omega) h1 h2 fun S g1 g2 g3 => ?_
        by_cases q : S = u
        · subst q; exact Or.inl e
        · exact h3' S (by omega) g2 g3
      · rw [z_dec]
        have e : ¬ on b < on u := by simpa using e
        have hc := cov_S O (cS_and hv (cS_open hop)) hall
        simp only [lg_eq]
        by_cases q9 : cov r u
        · rw [if_pos (hc.mpr q9)]
          refine ih u (by omega) (by omega) q9 fun S g1 g2 g3 => ?_
          by_cases q : S = u
          · subst q; exact Or.inr ⟨rfl, Nat.le_refl _⟩
          · have := h3' S (by omega) g2 g3; omega
        · rw [if_neg (fun q => q9 (hc.mp q))]
          refine ih b (by omega) h1 h2 fun S g1 g2 g3 => ?_
          by_cases q : S = u
          · subst q; exact absurd g3 q9
          · exact h3' S (by omega) g2 g3
  have := loop (2 ^ gN r 3) (2 ^ gN r 3 - 1) (Nat.le_refl _) (Nat.le_refl _) (fun c _ _ => Iff.rfl) (fun S g1 g2 => by omega)
  rw [show nI (2 ^ gN r 3) - 1 = nI (2 ^ gN r 3 - 1) from z_sub (b := 1) (by omega)] at this
  exact this
theorem s_enoughZ {due : Int64} {K : Int32 → pm_I → pm_L → Prop} (tz : TX12s kd mr z) (H : Hd mi z k r) (O : okC r) (hh : hZ r z ml) (hd : cZ r due fun c => hb r (2 ^ gN r 3 - 1) c ∧ wlC r c = false) (k9 : ∀ b, isBest r b → K (nI b) mi ml) : c_X12_enough_39 l (d + 3) kd mr z due (-1) 0 mi ml K := by
  have h3 := O.2.2.2.2.1
  have hpw := pw_le h3
  have loop : ∀ (q s : Nat) (x4 : Int32), s + q = 2 ^ gN r 3 → ((x4 = -1 ∧ ∀ S, S < s → ¬ cov r S) ∨ ∃ b, b < s ∧ x4 = nI b ∧ cov r b ∧ ∀ S, S < s → cov r S → on b < on S ∨ (on b = on S ∧ b ≤ S)) → c_X12_enough_39 l (d + 3) kd mr z due x4 (nI s) mi ml K := by
    intro q
    induction q with
    | zero =>
      intro s x4 hs hv
      have : s = 2 ^ gN r 3 := by omega
      subst this
      refine w_X12_enough_39 tz (s_everybody tz H O ⟨fun _ => ?_, fun h => absurd (nI_lt (by omega) (by omega)) h⟩)
      rcases hv with ⟨-, h2⟩ | ⟨b, h1, rfl, h2, h4⟩
      · exact absurd (fun c _ _ => Iff.rfl) (h2 (2 ^ gN r 3 - 1) (by omega))
      · exact k9 b ⟨by omega, h2, fun S hS => h4 S (by omega)⟩
    | succ q ih =>
      intro s x4 hs hv
      have os := on_le s
      refine w_X12_enough_39 tz (s_everybody tz H O ⟨fun h => absurd h (nI_nlt (by omega) (by omega)), fun _ => s_heardBy tz H O hh rfl (by omega) fun v hv2 => s_openZ tz H O fun op hop => ?_⟩)
      have hc := cov_Z O (cZ_and hv2 hop) hd
      rw [lg_eq]
      refine ⟨fun e => w_X12_enough_88 tz (w_X12_enough_90 tz ?_), fun e => ⟨fun e2 => w_X12_enough_83 tz (w_X12_enough_90 tz ?_), fun e2 => ?_⟩⟩
      · rw [nI_1]
        have hno : ¬ cov r s := fun q => e (hc.mpr q)
        refine ih (s + 1) x4 (by omega) ?_
        rcases hv with ⟨h1, h2⟩ | ⟨b, h1, h2, h4, h5⟩
        · refine Or.inl ⟨h1, fun S hS => ?_⟩
          by_cases q : S = s
          · subst q; exact hno
          · exact h2 S (by omega)
        · refine Or.inr ⟨b, by omega, h2, h4, fun S hS hcS => ?_⟩
          by_cases q : S = s
          · subst q; exact absurd hcS hno
          · exact h5 S (by omega) hcS
      · rw [nI_1]
        have hcs := hc.mp e
        refine ih (s + 1) _ (by omega) (Or.inr ⟨s, by omega, rfl, hcs, fun S hS hcS => ?_⟩)
        by_cases q : S = s
        · subst q; exact Or.inr ⟨rfl, Nat.le_refl _⟩
        · rcases hv with ⟨h1, h2⟩ | ⟨b, h1, h2, h4, h5⟩
          · exact absurd hcS (h2 S (by omega))
          · exact absurd (h2.symm.trans e2) (z_eq1 (by omega))
      · have hcs := hc.mp e
        rcases hv with ⟨h1, h2⟩ | ⟨b, h1, rfl, h4, h5⟩
        · exact absurd h1 e2
        · have ob := on_le b
          refine s_onesZ rfl (by omega) (s_onesZ rfl (by omega) ?_)
          have q1 : (nI (on b) ≤ nI (on s)) = (on b ≤ on s) := z_le (by omega) (by omega)
          simp only [q1]
          rw [nI_1]
          by_cases q9 : on b ≤ on s
          · rw [if_pos q9]
            refine ih (s + 1) _ (by omega) (Or.inr ⟨b, by omega, rfl, h4, fun S hS hcS => ?_⟩)
            by_cases q : S = s
            · subst q; omega
            · exact h5 S (by omega) hcS
          · rw [if_neg q9]
            refine ih (s + 1) _ (by omega) (Or.inr ⟨s, by omega, rfl, hcs, fun S hS hcS => ?_⟩)
            by_cases q : S = s
            · subst q; exact Or.inr ⟨rfl, Nat.le_refl _⟩
            · have := h5 S (by omega) hcS; omega
  exact loop (2 ^ gN r 3) 0 (-1) (by omega) (Or.inl ⟨rfl, fun S hS => by omega⟩)
theorem c_enough {a : Int32} (tx : TX11s kd mr x) (tz : TX12s kd mr z) (I : IV x z mi ml) : wI l M_X11_enough (d + 6) [.ref x, .int a] kd mr mi ml fun r mi1 ml1 => wI l M_X12_enough (d + 6) [.ref z, .int a] kd mr mi1 ml1 fun r2 mi2 ml2 => r = r2 ∧ IV x z mi2 ml2 := by
  have f0 : ∀ (mi : pm_I) (ml : pm_L), frZ z mi (pm_up mi z 0 0) ml ml := fun _ _ => frZ.upI (Or.inl rfl)
  have hz := I.1
  refine w_X11_enough tx (q_city tx I (fun m Im h => ⟨fun _ => ?_, fun b hb => (by cases hb)⟩) (fun m k r hr Im hk ha to O C => ⟨fun h => (by cases h), fun b4 hb4 => ?_⟩))
  · exact w_X12_enough tz (p_handN tz Im h (pm_up_row _ _ (by omega)) (pm_up_row _ _ (by omega)) ⟨fun g => (by cases g), fun _ => ⟨rfl, I.smZ (f0 _ _)⟩⟩)
  · cases hb4
    have hm := Im.1
    have hpw := pw_le O.2.2.2.2.1
    refine ⟨to, q_listen tx to (by omega) C O fun mi1 ml1 fx f1 f2 C1 hx => s_fewest (TX11s_a5 tx) to C1 O hx fun b hb => ?_⟩
    refine w_X12_enough tz (q_hand tz Im hr hk ha (by rw [pm_up_row _ _ (by omega)]; exact (fx _ (by omega)).1) (by rw [pm_up_row _ _ (by omega)]; exact (fx _ (by omega)).1) fun mi' f g1 g2 H => ⟨fun _ => ?_, fun g => (by cases g)⟩)
    refine s_findHeard tz H O fun g ml' hl hh => ?_
    have H2 : Hd (pm_ur mi' (z + 12) g) z k r := H.ur (by omega) (by omega)
    refine s_everybody tz H2 O (s_heardBy tz H2 O hh rfl (by omega) fun w hw => s_openZ tz H2 O fun op hop => s_enoughZ tz H2 O hh (cZ_and hw hop) fun b' hb' => ⟨by rw [hb.uniq hb'], ?_⟩)
    exact (I.smX fx).smZ (((f0 _ _).tr f).tr fun a ha => ⟨pm_ur_k _ _ (by omega), hl a (by omega)⟩)
end EN
