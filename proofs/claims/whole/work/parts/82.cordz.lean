/-! cordon: the reference's roads are laid -/
def lR (mi : pm_I) (z : Nat) (F : Nat → Nat → Bool) : Prop := ∀ u v, u < 64 → v < 64 → mi (z + 28) (64 * u + v) = b2i (F u v)
section CRL
variable {l : Launch} {d z a b m hd k : Nat} {kd : pm_K} {mr : pm_R} {mi : pm_I} {ml : pm_L} {r : Nat → Int32} {q : Nat → Nat} {pr : Nat → Option Nat} {F : Nat → Nat → Bool} {T : Nat → Bool} {n : Int}
theorem lR.set {F' : Nat → Nat → Bool} {u0 v0 : Nat} {x : Bool} (h : lR mi z F) (hu : u0 < 64) (hv : v0 < 64) (e : ∀ u v, u < 64 → v < 64 → F' u v = if u = u0 ∧ v = v0 then x else F u v) : lR (pm_up mi (z + 28) (64 * u0 + v0) (b2i x)) z F' := by
  intro u v hu2 hv2
  rw [e u v hu2 hv2]
  by_cases g : u = u0 ∧ v = v0
  · obtain ⟨rfl, rfl⟩ := g
    rw [pm_up_s, if_pos ⟨rfl, rfl⟩]
  · rw [if_neg g, pm_up_j _ _ (by omega)]; exact h u v hu2 hv2
theorem lR.ext {F' : Nat → Nat → Bool} (h : lR mi z F) (e : ∀ u v, u < 64 → v < 64 → F' u v = F u v) : lR mi z F' := fun u v hu hv => by rw [e u v hu hv]; exact h u v hu hv
/-- frame: the row LAID alone -/
def fL (z : Nat) (mi mi' : pm_I) : Prop := ∀ a, a ≠ z + 28 → mi' a = mi a
/-- the walk back: what is met as it was at the search -/
theorem s_lays {F0 : Nat → Nat → Bool} {T0 : Nat → Bool} {K : pm_I → pm_L → Prop} (tz : TX12s kd mr z) (O : okC r) (ha : a < cells r) (hb : b < cells r) (Fl0 : Flw (arC r) a b F0 T0 n b) (wa : wlC r a = false) (nab : F0 a b = false) (B : Bq (RZ r a b F0 T0) (RY r a b F0 T0) (64 + a) q m pr hd) (Q : mQ mi z a q m pr) (hmet : (pr b).isSome = true) (h0 : lR mi z F0)
    (k9 : ∀ mi' F' T', fL z mi mi' → Flw (arC r) a b F' T' (n + 1) b → lR mi' z F' → K mi' ml) : wV l M_X12_lays d [.ref z, .int (nI b)] kd mr mi ml K := by
  have hw := O.w
  have hm := B.le
  -- a dead end has no child
  have live : ∀ x y, RZ r a b F0 T0 x y → y ≠ 64 + a → ¬ (x < 64 ∧ F0 a x = true) := by
    rintro x y hxy hy ⟨x1, x2⟩
    have hxb : x ≠ b := fun g => by subst g; rw [nab] at x2; cases x2
    have tx := in_T Fl0 (by omega) (by omega) hxb x2
    obtain ⟨-, f3, -, -⟩ := Fl0.plain (by omega) (by omega)
    have e := f3 x x1 hxb
    rw [tx, bI_t] at e
    rcases hxy.1 with (⟨u1, v1, e1, -⟩ | ⟨u1, v1, e1, e2, h1, h2, h3⟩ | ⟨v1, e1, e2, h1, h2, h3, h4⟩ | ⟨v1, e1, -⟩) | ⟨e1, -⟩
    · omega
    · subst e1
      have := sm_uniq (P := fun u => F0 u x) 64 (by unfold inF at e; omega) u1 a h1 (by omega) h3 x2
      omega
    · subst e1; rw [tx] at h4; cases h4
    · omega
    · omega
  have step : ∀ (j : Nat) (mi1 : pm_I) (F : Nat → Nat → Bool) (T : Nat → Bool), j < m → fL z mi mi1 → lR mi1 z F → Flw (arC r) a b F T n (q j) → ¬ (q j < 64 ∧ F0 a (q j) = true) → (∀ i i', i < i' → i' ≤ j → pr (q i') = some (q i) → ¬ (q i' < 64 ∧ F0 a (q i') = true) → Rs (arC r) a b F T (q i) (q i')) → c_X12_lays_2 l d kd mr z (nI (q j)) mi1 ml K := by
    intro j
    induction j using Nat.strongRecOn with
    | ind j ih =>
      intro mi1 F T hj f1 hl Fl nd inv
      have q128 := B.2.2.1 j hj
      have e26 : mi1 (z + 26) = mi (z + 26) := f1 _ (by omega)
      refine w_X12_lays_2 tz ⟨z_in q128 (by omega), ?_⟩
      rw [z_cl (a := q j) (by omega), e26]
      by_cases j0 : j = 0
      · subst j0
        obtain ⟨p, hp⟩ := Option.isSome_iff_exists.mp ((B.2.2.2.1 (q 0)).mpr ⟨0, hj, rfl⟩)
        rw [(Q.2.1 _ q128).2 p hp, if_pos B.2.1]
        refine ⟨fun _ => k9 mi1 F T f1 ?_ hl, fun h => absurd rfl h⟩
        rw [B.2.1] at Fl
        exact Fl.fin (by omega) (by omega)
      · obtain ⟨i, i1, i2, i3⟩ := B.2.2.2.2.2.1 j (by omega) hj
        have hne : q j ≠ 64 + a := fun g => by
          have := B.2.2.2.2.1 j 0 hj (by omega) (by rw [g, B.2.1])
          omega
        have p128 := B.2.2.1 i (by omega)
        rw [(Q.2.1 _ q128).2 _ i2, if_neg hne]
        refine ⟨fun h => absurd h (nI_m1' (by omega)), fun _ => ⟨z_in q128 (by omega), ?_⟩⟩
        have Rj := inv i j i1 (Nat.le_refl j) i2 nd
        have Fl' := aug1 (arC_ir O) Fl Rj hne
        have nd' := live _ _ i3 hne
        have inv' : ∀ i2 i', i2 < i' → i' ≤ i → pr (q i') = some (q i2) → ¬ (q i' < 64 ∧ F0 a (q i') = true) → Rs (arC r) a b (stF F (q i) (q j)) (stT T (q i) (q j)) (q i2) (q i') := by
          intro i2 i' g1 g2 g3 g4
          refine aug2 (inv i2 i' g1 (by omega) g3 g4) (fun g => ?_) (fun g => ?_)
          · have := B.2.2.2.2.1 i' j (by omega) hj g.2; omega
          · have := B.2.2.2.2.1 i2 j (by omega) hj g.1; omega
        have on : ∀ mi2, fL z mi mi2 → lR mi2 z (stF F (q i) (q j)) → c_X12_lays_97 l d kd mr z (nI (q i)) mi2 ml K := fun mi2 f2 h2 => w_X12_lays_97 tz (ih i i1 mi2 _ _ (by omega) f2 h2 Fl' nd' inv')
        have ep : nI (q i) - nI (q i) / 64 * 64 = nI (q i % 64) := z_rem (b := 64) (by omega) (by omega)
        have ec : nI (q j) - nI (q j) / 64 * 64 = nI (q j % 64) := z_rem (b := 64) (by omega) (by omega)
        rw [ep, ec]
        have l1 : (nI (q i) < (64 : Int32)) = (q i < 64) := z_lt (b := 64) (by omega) (by omega)
        have l2 : (nI (q j) < (64 : Int32)) = (q j < 64) := z_lt (b := 64) (by omega) (by omega)
        have g1 : ((64 : Int32) ≤ nI (q i)) = (64 ≤ q i) := z_le (a := 64) (by omega) (by omega)
        have g2 : ((64 : Int32) ≤ nI (q j)) = (64 ≤ q j) := z_le (a := 64) (by omega) (by omega)
        have eq1 : (nI (q i % 64) = nI (q j % 64)) = (q i % 64 = q j % 64) := z_eq (by omega) (by omega)
        have m1 : ∀ u v : Nat, (64 : Int32) * nI u + nI v = nI (64 * u + v) := fun u v => by rw [show (64 : Int32) * nI u = nI (64 * u) from z_mul 64 u, nI_add]
        have c11 : (1 : Int32) &&& 1 = b2i true := by decide
        have c00 : (0 : Int32) &&& 1 = b2i false := by decide
        -- over a free arc, or not
        have second : ∀ mi2, fL z mi mi2 → (64 ≤ q i ∨ q j < 64 ∨ q i % 64 = q j % 64 → lR mi2 z (stF F (q i) (q j))) → (q i < 64 → 64 ≤ q j → q i % 64 ≠ q j % 64 → lR mi2 z F) → c_X12_lays_64 l d kd mr z (nI (q j)) (nI (q i)) (nI (q i % 64)) (nI (q j % 64)) mi2 ml K := by
          intro mi2 f2 h1 h2
          refine w_X12_lays_64 tz ?_
          rw [g1, l2, eq1]
          refine ⟨fun g => on mi2 f2 (h1 (Or.inl g)), fun ng => ⟨fun g => on mi2 f2 (h1 (Or.inr (Or.inl g))), fun ng2 => ⟨fun g => on mi2 f2 (h1 (Or.inr (Or.inr g))), fun ng3 => ?_⟩⟩⟩
          rw [m1, z_cl (by omega), c00]
          refine ⟨z_in (by omega) (by omega), on _ (fun c hc => (pm_up_row _ _ hc).trans (f2 c hc)) ?_⟩
          refine (h2 (by omega) (by omega) ng3).set (by omega) (by omega) fun u v hu hv => ?_
          unfold stF
          rw [if_neg (by omega)]
          by_cases g : u = q j % 64 ∧ v = q i % 64
          · rw [if_pos g, if_pos (by omega)]
          · rw [if_neg g, if_neg (by omega)]
        have same : (q i < 64 → 64 ≤ q j → q i % 64 = q j % 64) → (64 ≤ q i → q j < 64 → q i % 64 = q j % 64) → ∀ u v, u < 64 → v < 64 → stF F (q i) (q j) u v = F u v := by
          intro h1 h2 u v hu hv
          unfold stF
          rw [if_neg (by omega), if_neg (by omega)]
        rw [l1, g2, eq1]
        refine ⟨fun g => second mi1 f1 (fun h => hl.ext (same (fun _ _ => by omega) (fun _ => by omega))) (fun _ _ _ => hl), fun ng => ⟨fun g => second mi1 f1 (fun h => hl.ext (same (fun _ => by omega) (fun _ _ => by omega))) (fun _ _ _ => hl), fun ng2 => ⟨fun g => second mi1 f1 (fun h => hl.ext (same (fun _ _ => g) (fun _ _ => g))) (fun _ _ _ => hl), fun ng3 => ?_⟩⟩⟩
        rw [m1, z_cl (by omega), c11]
        refine ⟨z_in (by omega) (by omega), second _ (fun c hc => (pm_up_row _ _ hc).trans (f1 c hc)) (fun _ => ?_) (fun g => by omega)⟩
        refine hl.set (by omega) (by omega) fun u v hu hv => ?_
        unfold stF
        by_cases g : u = q i % 64 ∧ v = q j % 64
        · rw [if_pos g, if_pos (by omega)]
        · rw [if_neg g, if_neg (by omega), if_neg (by omega)]
  obtain ⟨j, j1, j2⟩ := (B.2.2.2.1 b).mp hmet
  have nb : ¬ (q j < 64 ∧ F0 a (q j) = true) := fun g => by rw [j2, nab] at g; cases g.2
  have := step j mi F0 T0 j1 (fun _ _ => rfl) h0 (by rw [j2]; exact Fl0) nb fun i i' g1 g2 g3 g4 => by
    obtain ⟨e, e1, e2, e3⟩ := B.2.2.2.2.2.1 i' (by omega) (by omega)
    rw [g3] at e2
    have e4 : q i = q e := by injection e2
    rw [e4]
    rcases e3.1 with h | ⟨h1, h2, h3⟩
    · exact h
    · exact absurd ⟨h2, h3⟩ g4
  rw [j2] at this
  exact w_X12_lays tz this
theorem s_layRoads {K : pm_I → pm_L → Prop} (tz : TX12s kd mr z) (hb : b < 64) (hl : lR mi z F) (k9 : ∀ mi', (∀ c, c ≠ z + 24 → c ≠ z + 25 → mi' c = mi c) → rR mi' z b F → K mi' ml) : wV l M_X12_layRoads d [.ref z, .int (nI b)] kd mr mi ml K := by
  have second : ∀ (s i : Nat) (mi1 : pm_I), i + s = 4096 → (∀ c, c ≠ z + 24 → c ≠ z + 25 → mi1 c = mi c) → (∀ c, c < 64 → ((mi1 (z + 24) c = -1 ∧ ∀ v, v < 64 → 64 * c + v < i → F c v = false) ∨ ∃ v, v < 64 ∧ mi1 (z + 24) c = nI v ∧ F c v = true) ∧ ((mi1 (z + 25) c = -1 ∧ ∀ u, u < 64 → 64 * u + c < i → F u c = false) ∨ ∃ u, u < 64 ∧ mi1 (z + 25) c = nI u ∧ F u c = true)) → c_X12_layRoads_30 l d kd mr z (nI b) (nI i) mi1 ml K := by
    intro s
    induction s with
    | zero =>
      intro i mi1 hi f1 h
      have : i = 4096 := by omega
      subst this
      refine w_X12_layRoads_30 tz ⟨fun _ => ⟨z_in hb (by omega), z_in hb (by omega), ?_⟩, fun g => absurd (nI_le (Nat.le_refl 4096) (by omega)) g⟩
      rw [z_cl (a := b) (by omega)]
      refine k9 _ (fun c g1 g2 => ?_) ⟨pm_up_s _ _ _ _, ?_, fun c hc hcb => ?_⟩
      · rw [pm_up_row _ _ g1, pm_up_row _ _ g2]; exact f1 c g1 g2
      · rw [pm_up_row _ _ (by omega), pm_up_s]
      · rw [pm_up_j _ _ hcb, pm_up_row (a := z + 24) _ _ (by omega), pm_up_row (a := z + 25) _ _ (by omega), pm_up_j _ _ hcb]
        obtain ⟨h1, h2⟩ := h c hc
        refine ⟨?_, ?_⟩
        · rcases h1 with ⟨g1, g2⟩ | g
          · exact Or.inl ⟨g1, fun v hv => g2 v hv (by omega)⟩
          · exact Or.inr g
        · rcases h2 with ⟨g1, g2⟩ | g
          · exact Or.inl ⟨g1, fun v hv => g2 v hv (by omega)⟩
          · exact Or.inr g
    | succ s ih =>
      intro i mi1 hi f1 h
      have on : ∀ mi2, (∀ c, c ≠ z + 24 → c ≠ z + 25 → mi2 c = mi c) → (∀ c, c < 64 → ((mi2 (z + 24) c = -1 ∧ ∀ v, v < 64 → 64 * c + v < i + 1 → F c v = false) ∨ ∃ v, v < 64 ∧ mi2 (z + 24) c = nI v ∧ F c v = true) ∧ ((mi2 (z + 25) c = -1 ∧ ∀ u, u < 64 → 64 * u + c < i + 1 → F u c = false) ∨ ∃ u, u < 64 ∧ mi2 (z + 25) c = nI u ∧ F u c = true)) → c_X12_layRoads_72 l d kd mr z (nI b) (nI i) mi2 ml K := by
        intro mi2 f2 h2
        refine w_X12_layRoads_72 tz ?_
        rw [nI_1]
        exact ih (i + 1) mi2 (by omega) f2 h2
      have ei : i = 64 * (i / 64) + i % 64 := by omega
      have e1 : nI i / 64 = nI (i / 64) := z_div (b := 64) (by omega) (by omega)
      have e2 : nI i - nI i / 64 * 64 = nI (i % 64) := z_rem (b := 64) (by omega) (by omega)
      have el : mi1 (z + 28) i = b2i (F (i / 64) (i % 64)) := by
        rw [f1 _ (by omega) (by omega)]
        have := hl (i / 64) (i % 64) (by omega) (by omega)
        rw [← ei] at this; exact this
      refine w_X12_layRoads_30 tz ⟨fun g => absurd g (nI_ge (b := 4096) (by omega) (by omega)), fun _ => ⟨z_in (by omega) (by omega), ?_⟩⟩
      rw [e2, e1, z_cl (a := i) (by omega), z_cl (a := i / 64) (by omega), z_cl (a := i % 64) (by omega), el]
      cases hF : F (i / 64) (i % 64) with
      | false =>
        refine ⟨fun _ => on mi1 f1 fun c hc => ?_, fun g => absurd rfl g⟩
        obtain ⟨h1, h2⟩ := h c hc
        refine ⟨?_, ?_⟩
        · rcases h1 with ⟨g1, g2⟩ | g
          · refine Or.inl ⟨g1, fun v hv hlt => ?_⟩
            by_cases g : 64 * c + v = i
            · rw [show c = i / 64 by omega, show v = i % 64 by omega]; exact hF
            · exact g2 v hv (by omega)
          · exact Or.inr g
        · rcases h2 with ⟨g1, g2⟩ | g
          · refine Or.inl ⟨g1, fun u hu hlt => ?_⟩
            by_cases g : 64 * u + c = i
            · rw [show u = i / 64 by omega, show c = i % 64 by omega]; exact hF
            · exact g2 u hu (by omega)
          · exact Or.inr g
      | true =>
        refine ⟨fun g => absurd g (by decide), fun _ => ⟨z_in (by omega) (by omega), z_in (by omega) (by omega), on _ (fun c g1 g2 => ?_) fun c hc => ?_⟩⟩
        · rw [pm_up_row _ _ g2, pm_up_row _ _ g1]; exact f1 c g1 g2
        · obtain ⟨h1, h2⟩ := h c hc
          rw [pm_up_row (a := z + 24) _ _ (by omega)]
          refine ⟨?_, ?_⟩
          · by_cases g : c = i / 64
            · subst g
              right
              exact ⟨i % 64, by omega, pm_up_s _ _ _ _, hF⟩
            · rw [pm_up_j _ _ g]
              rcases h1 with ⟨g1, g2⟩ | g1
              · exact Or.inl ⟨g1, fun v hv hlt => g2 v hv (by omega)⟩
              · exact Or.inr g1
          · by_cases g : c = i % 64
            · right
              refine ⟨i / 64, by omega, ?_, by rw [g]; exact hF⟩
              rw [g]; exact pm_up_s _ _ _ _
            · rw [pm_up_j _ _ g, pm_up_row _ _ (by omega)]
              rcases h2 with ⟨g1, g2⟩ | g1
              · exact Or.inl ⟨g1, fun v hv hlt => g2 v hv (by omega)⟩
              · exact Or.inr g1
  have first : ∀ (s i : Nat) (mi1 : pm_I), i + s = 64 → (∀ c, c ≠ z + 24 → c ≠ z + 25 → mi1 c = mi c) → (∀ c, c < i → mi1 (z + 24) c = -1 ∧ mi1 (z + 25) c = -1) → c_X12_layRoads_2 l d kd mr z (nI b) (nI i) mi1 ml K := by
    intro s
    induction s with
    | zero =>
      intro i mi1 hi f1 h
      have : i = 64 := by omega
      subst this
      refine w_X12_layRoads_2 tz ⟨fun _ => second 4096 0 mi1 rfl f1 fun c hc => ⟨Or.inl ⟨(h c hc).1, fun v _ g => by omega⟩, Or.inl ⟨(h c hc).2, fun v _ g => by omega⟩⟩, fun g => absurd (nI_le (Nat.le_refl 64) (by omega)) g⟩
    | succ s ih =>
      intro i mi1 hi f1 h
      refine w_X12_layRoads_2 tz ⟨fun g => absurd g (nI_ge (b := 64) (by omega) (by omega)), fun _ => ⟨z_in (by omega) (by omega), z_in (by omega) (by omega), ?_⟩⟩
      rw [z_cl (a := i) (by omega), nI_1]
      refine ih (i + 1) _ (by omega) (fun c g1 g2 => ?_) fun c hc => ?_
      · rw [pm_up_row _ _ g2, pm_up_row _ _ g1]; exact f1 c g1 g2
      · by_cases g : c = i
        · subst g
          refine ⟨?_, pm_up_s _ _ _ _⟩
          rw [pm_up_row _ _ (by omega), pm_up_s]
        · rw [pm_up_row (a := z + 24) _ _ (by omega), pm_up_j _ _ g, pm_up_j _ _ g, pm_up_row _ _ (by omega)]
          exact h c (by omega)
  exact w_X12_layRoads tz (first 64 0 mi rfl (fun _ _ _ => rfl) fun c hc => by omega)
/-- the loop: one way more, while one is found -/
theorem s_cordonL {K : Int32 → pm_I → pm_L → Prop} (tz : TX12s kd mr z) (O : okC r) (ha : a < cells r) (hb : b < cells r) (hab : a ≠ b) (wa : wlC r a = false) (nab : ∀ w, w < 4 → fre r a w ≠ some b)
    (k9 : ∀ mi' v, fC z mi mi' → isMx (arC r) a b v → K (nI v) mi' ml) : ∀ (s n : Nat) (mi1 : pm_I) (F : Nat → Nat → Bool) (T : Nat → Bool), n + s = 4 → fC z mi mi1 → Hd mi1 z k r → Flw (arC r) a b F T (n : Int) b → lR mi1 z F → rR mi1 z b F → c_X12_cordon_94 l (d + 5) kd mr z (nI a) (nI b) (nI n) mi1 ml K := by
  have hw := O.w
  have nF : ∀ {n : Int} F T, Flw (arC r) a b F T n b → F a b = false := fun F T h => by
    cases g : F a b with
    | false => rfl
    | true =>
      obtain ⟨-, -, ⟨-, -, w, w1, w2⟩, -⟩ := h.1 a b g
      exact absurd w2 (nab w w1)
  have clo : ∀ (n : Nat) F T (q : Nat → Nat) (m : Nat) (pr : Nat → Option Nat), Flw (arC r) a b F T (n : Int) b → Bq (RZ r a b F T) (RY r a b F T) (64 + a) q m pr m → ∀ x y, (pr x).isSome = true → Rs (arC r) a b F T x y → RY r a b F T x y := by
    intro n F T q m pr Fl B x y hx hR
    refine ⟨hR, ?_⟩
    obtain ⟨j, j1, rfl⟩ := (B.2.2.2.1 x).mp hx
    have c1 := (B_cell (fun _ _ h => h) O Fl ha hb wa B j j1).1
    rcases hR with ⟨u1, v1, e1, e2, h1, h2, h3, -⟩ | ⟨u1, v1, e1, e2, h1, h2, h3⟩ | ⟨v1, e1, e2, h1, -⟩ | ⟨v1, e1, e2, h1, -⟩
    · have := (arC_lt O h3).2; omega
    · have := (arC_lt O (Fl.1 u1 v1 h3).2.2.1).1; omega
    · omega
    · omega
  have c1 : ∀ n : Nat, ((n + 1 : Nat) : Int) = (n : Int) + 1 := fun n => rfl
  intro s
  induction s with
  | zero =>
    intro n mi1 F T hn f1 H Fl hl rd
    have hn4 : n = 4 := by omega
    subst hn4
    refine w_X12_cordon_94 tz (s_finds tz H O Fl ha hb wa rd rfl rfl (fun mi2 q m pr f2 B hno => ⟨fun _ => k9 mi2 4 (f1.tr f2.c) (cut_Bq Fl (by omega) (by omega) (clo 4 F T q m pr Fl B) B hno), fun g => (by cases g)⟩) (fun mi2 q m pr hd f2 B Q hyes => ⟨fun g => (by cases g), fun _ => ?_⟩))
    have hl2 : lR mi2 z F := fun u v hu hv => by rw [f2.1 _ (by omega) (by omega) (by omega)]; exact hl u v hu hv
    refine s_lays tz O ha hb Fl wa (nF _ _ Fl) B Q hyes hl2 fun mi3 F' T' f3 Fl' hl3 => ?_
    have := fl_four Fl' (by omega) (by omega) (fre r a) (fun v hv => hv.2.2)
    exact absurd this (by omega)
  | succ s ih =>
    intro n mi1 F T hn f1 H Fl hl rd
    refine w_X12_cordon_94 tz (s_finds tz H O Fl ha hb wa rd rfl rfl (fun mi2 q m pr f2 B hno => ⟨fun _ => k9 mi2 n (f1.tr f2.c) (cut_Bq Fl (by omega) (by omega) (clo n F T q m pr Fl B) B hno), fun g => (by cases g)⟩) (fun mi2 q m pr hd f2 B Q hyes => ⟨fun g => (by cases g), fun _ => ?_⟩))
    have hl2 : lR mi2 z F := fun u v hu hv => by rw [f2.1 _ (by omega) (by omega) (by omega)]; exact hl u v hu hv
    refine s_lays tz O ha hb Fl wa (nF _ _ Fl) B Q hyes hl2 fun mi3 F' T' f3 Fl' hl3 => ?_
    refine s_layRoads tz (by omega) hl3 fun mi4 f4 rd4 => ?_
    rw [nI_1]
    have f14 : fC z mi1 mi4 := ⟨fun c g1 g2 => by rw [f4 c (by omega) (by omega), f3 c (by omega)]; exact f2.1 c g1 (by omega) (by omega), fun c g => by rw [f4 z (by omega) (by omega), f3 z (by omega)]; exact f2.2 c g⟩
    exact ih (n + 1) mi4 F' T' (by omega) (f1.tr f14) (H.fC f14) (by rw [c1]; exact Fl') (fun u v hu hv => by rw [f4 _ (by omega) (by omega)]; exact hl3 u v hu hv) rd4
end CRL
