/-! cordon: the reference -/
def arC (r : Nat → Int32) (u v : Nat) : Prop := u < cells r ∧ wlC r u = false ∧ ∃ w, w < 4 ∧ fre r u w = some v
theorem fre_ne {r : Nat → Int32} (O : okC r) {u w t : Nat} (hw : w < 4) (h : fre r u w = some t) : t ≠ u := by
  obtain ⟨h1, -⟩ := fre_iff.mp h
  have hb := O.w
  unfold nxt at h1
  split at h1
  · split at h1
    · cases h1; omega
    · cases h1
  · split at h1
    · split at h1
      · cases h1
      · cases h1; omega
    · split at h1
      · split at h1
        · cases h1; omega
        · cases h1
      · split at h1
        · split at h1
          · cases h1
          · rename_i q
            have : u ≠ 0 := fun z => by subst z; exact q (Nat.zero_mod _)
            cases h1; omega
        · omega
theorem arC_ir {r : Nat → Int32} (O : okC r) (u : Nat) : ¬ arC r u u := fun ⟨_, _, w, hw, h⟩ => fre_ne O hw h rfl
theorem arC_lt {r : Nat → Int32} (O : okC r) {u v : Nat} (h : arC r u v) : u < cells r ∧ v < cells r := ⟨h.1, by obtain ⟨h1, -, w, -, h2⟩ := h; exact fre_lt O h1 h2⟩
/-- what the reference's search goes over: also over a full arc out of a, to a spot with no way on -/
def RZ (r : Nat → Int32) (a b : Nat) (F : Nat → Nat → Bool) (T : Nat → Bool) (x y : Nat) : Prop := (Rs (arC r) a b F T x y ∨ (x = 64 + a ∧ y < 64 ∧ F a y = true)) ∧ y % 64 < cells r
def RY (r : Nat → Int32) (a b : Nat) (F : Nat → Nat → Bool) (T : Nat → Bool) (x y : Nat) : Prop := Rs (arC r) a b F T x y ∧ y % 64 < cells r
def mQ (mi : pm_I) (z a : Nat) (q : Nat → Nat) (m : Nat) (pr : Nat → Option Nat) : Prop := mi z 56 = nI m ∧ (∀ x, x < 128 → (pr x = none → mi (z + 26) x = -2) ∧ ∀ p, pr x = some p → mi (z + 26) x = if x = 64 + a then -1 else nI p) ∧ ∀ j, j < m → mi (z + 27) j = nI (q j)
def fM (z : Nat) (mi mi' : pm_I) : Prop := (∀ a, a ≠ z → a ≠ z + 26 → a ≠ z + 27 → mi' a = mi a) ∧ ∀ b, b ≠ 56 → mi' z b = mi z b
theorem fM.rf {z : Nat} {mi : pm_I} : fM z mi mi := ⟨fun _ _ _ _ => rfl, fun _ _ => rfl⟩
theorem fM.tr {z : Nat} {mi mi1 mi2 : pm_I} (h1 : fM z mi mi1) (h2 : fM z mi1 mi2) : fM z mi mi2 := ⟨fun a g1 g2 g3 => (h2.1 a g1 g2 g3).trans (h1.1 a g1 g2 g3), fun b g => (h2.2 b g).trans (h1.2 b g)⟩
def fC (z : Nat) (mi mi' : pm_I) : Prop := (∀ a, a ≠ z → (a < z + 24 ∨ z + 28 < a) → mi' a = mi a) ∧ ∀ b, b ≠ 56 → mi' z b = mi z b
theorem fC.rf {z : Nat} {mi : pm_I} : fC z mi mi := ⟨fun _ _ _ => rfl, fun _ _ => rfl⟩
theorem fC.tr {z : Nat} {mi mi1 mi2 : pm_I} (h1 : fC z mi mi1) (h2 : fC z mi1 mi2) : fC z mi mi2 := ⟨fun a g1 g2 => (h2.1 a g1 g2).trans (h1.1 a g1 g2), fun b g => (h2.2 b g).trans (h1.2 b g)⟩
theorem fM.c {z : Nat} {mi mi' : pm_I} (h : fM z mi mi') : fC z mi mi' := ⟨fun a g1 g2 => h.1 a g1 (by omega) (by omega), h.2⟩
theorem fC.up {z c j : Nat} {mi mi' : pm_I} {v : Int32} (h : fC z mi mi') (hc : z + 24 ≤ c ∧ c ≤ z + 28) : fC z mi (pm_up mi' c j v) := ⟨fun a g1 g2 => (pm_up_row _ _ (by omega)).trans (h.1 a g1 g2), fun b g => (pm_up_k _ _ (by omega)).trans (h.2 b g)⟩
theorem fC.frZ {z : Nat} {mi mi' : pm_I} {ml : pm_L} (h : fC z mi mi') : frZ z mi mi' ml ml := fun a ha => ⟨h.1 a (by omega) (by omega), rfl⟩
theorem Hd.fC {z k : Nat} {r : Nat → Int32} {mi mi' : pm_I} (H : Hd mi z k r) (f : fC z mi mi') : Hd mi' z k r := by
  unfold Hd at H ⊢
  rw [f.2 25 (by decide), f.2 26 (by decide), f.2 27 (by decide), f.2 28 (by decide), f.2 29 (by decide), f.1 (z + 6) (by omega) (by omega)]
  exact H
theorem nI_m2 {n : Nat} (h : n < 2147483648) : ¬ nI n = -2 := fun q => by
  have e : (nI n = -nI 2) = False := z_m2 h
  exact e ▸ (show nI n = -nI 2 from q)
theorem nI_m1' {n : Nat} (h : n < 2147483648) : ¬ nI n = -1 := fun q => by
  have e : (nI n = -nI 1) = False := z_m1 h
  exact e ▸ (show nI n = -nI 1 from q)
theorem nI_64 (n : Nat) : nI n + 64 = nI (64 + n) := by
  rw [show nI n + 64 = nI (n + 64) from nI_add n 64, Nat.add_comm]
/-- the roads: whither, whence -/
def rR (mi : pm_I) (z b : Nat) (F : Nat → Nat → Bool) : Prop := mi (z + 24) b = -1 ∧ mi (z + 25) b = -1 ∧ ∀ c, c < 64 → c ≠ b → ((mi (z + 24) c = -1 ∧ ∀ v, v < 64 → F c v = false) ∨ ∃ v, v < 64 ∧ mi (z + 24) c = nI v ∧ F c v = true) ∧ ((mi (z + 25) c = -1 ∧ ∀ u, u < 64 → F u c = false) ∨ ∃ u, u < 64 ∧ mi (z + 25) c = nI u ∧ F u c = true)
section CRZ
variable {l : Launch} {d z a b m hd k : Nat} {kd : pm_K} {mr : pm_R} {mi : pm_I} {ml : pm_L} {r : Nat → Int32} {q : Nat → Nat} {pr : Nat → Option Nat} {R Rc : Nat → Nat → Prop} {F : Nat → Nat → Bool} {T : Nat → Bool} {n : Int}
theorem mQ.same {mi' : pm_I} (h : mQ mi z a q m pr) (h0 : mi' z 56 = mi z 56) (h1 : mi' (z + 26) = mi (z + 26)) (h2 : mi' (z + 27) = mi (z + 27)) : mQ mi' z a q m pr := by
  unfold mQ at h ⊢; rw [h0, h1, h2]; exact h
theorem s_meets {x y : Nat} {u v : Int32} {K : pm_I → pm_L → Prop} (tz : TX12s kd mr z) (B : Bq R Rc (64 + a) q m pr hd) (Q : mQ mi z a q m pr) (hm : hd < m) (hx : q hd = x) (hR : R x y) (hy : y < 128) (hu : u = nI y) (hv : v = nI x)
    (k9 : ∀ mi' q' m' pr', fM z mi mi' → Bq R Rc (64 + a) q' m' pr' hd → mQ mi' z a q' m' pr' → Gw q m q' m' → (∃ j, j < m' ∧ q' j = y) → K mi' ml) : wV l M_X12_meets d [.ref z, .int u, .int v] kd mr mi ml K := by
  subst hu; subst hv
  obtain ⟨Q1, Q2, Q3⟩ := id Q
  have hb := B.le
  refine w_X12_meets tz ⟨z_in hy (by omega), ?_⟩
  rw [z_cl (a := y) (by omega), Q1]
  cases e : pr y with
  | some p =>
    have h0 : ¬ mi (z + 26) y = -2 := by
      rw [(Q2 y hy).2 p e]
      by_cases g : y = 64 + a
      · rw [if_pos g]; decide
      · rw [if_neg g]; exact nI_m2 (by have := (B.par g e).1; omega)
    exact ⟨fun _ => k9 mi q m pr fM.rf B Q Gw.rf ((B.2.2.2.1 y).mp (by rw [e]; rfl)), fun h => absurd h h0⟩
  | none =>
    obtain ⟨m1, B'⟩ := B.add hx hm hy e hR
    have hroot : y ≠ 64 + a := fun g => by
      have := (B.2.2.2.1 y).mpr ⟨0, by have := B.1; omega, by rw [B.2.1, g]⟩
      rw [e] at this; cases this
    refine ⟨fun h => absurd ((Q2 y hy).1 e) h, fun _ => ⟨z_in hy (by omega), z_in m1 (by omega), ?_⟩⟩
    rw [z_cl (a := m) (by omega), nI_1]
    refine k9 _ _ _ _ ⟨fun c g1 g2 g3 => ?_, fun c g => ?_⟩ B' ⟨pm_up_s _ _ _ _, fun x2 hx2 => ?_, fun j hj => ?_⟩ ⟨by omega, fun j hj => if_neg (by omega)⟩ ⟨m, by omega, if_pos rfl⟩
    · rw [pm_up_row _ _ g1, pm_up_row _ _ g3, pm_up_row _ _ g2]
    · rw [pm_up_j _ _ g, pm_up_row _ _ (by omega), pm_up_row _ _ (by omega)]
    · rw [pm_up_row _ _ (by omega), pm_up_row _ _ (by omega)]
      dsimp only
      by_cases g : x2 = y
      · subst g
        rw [pm_up_s]
        refine ⟨fun h => ?_, fun p hp => ?_⟩
        · rw [if_pos rfl] at h; cases h
        · rw [if_pos rfl] at hp
          cases hp
          rw [if_neg hroot]
      · rw [pm_up_j _ _ g, if_neg g]
        exact Q2 x2 hx2
    · rw [pm_up_row _ _ (by omega)]
      dsimp only
      by_cases g : j = m
      · subst g; rw [pm_up_s, if_pos rfl]
      · rw [pm_up_j _ _ g, pm_up_row _ _ (by omega), if_neg g]; exact Q3 j (by omega)
/-- the roads are those of the flow -/
theorem rR.out (h : rR mi z b F) (Fl : Flw (arC r) a b F T n b) (ha : a < 64) (hb : b < 64) {c : Nat} (hc : c < 64) (hca : c ≠ a) : (T c = false ∧ mi (z + 24) c = -1 ∧ ∀ v, v < 64 → F c v = false) ∨ (T c = true ∧ ∃ v, v < 64 ∧ mi (z + 24) c = nI v ∧ F c v = true ∧ ∀ v', F c v' = true → v' = v) := by
  obtain ⟨ta, f3, f4, f5⟩ := Fl.plain ha hb
  have e := f4 c hc hca
  have non : ∀ v, F c v = true → T c = true := fun v hv => by
    have := sm_ge (P := F c) 64 v (Fl.1 c v hv).2.1 hv
    cases g : T c with
    | true => rfl
    | false => rw [g, bI_f] at e; unfold outF at e; omega
  by_cases hcb : c = b
  · subst hcb
    left
    have tc : T c = false := by
      cases g : T c with
      | false => rfl
      | true => exact absurd rfl (Fl.2.1 c g).2.2
    refine ⟨tc, h.1, fun v _ => ?_⟩
    cases g : F c v with
    | false => rfl
    | true => rw [non v g] at tc; cases tc
  · rcases (h.2.2 c hc hcb).1 with ⟨g1, g2⟩ | ⟨v, g1, g2, g3⟩
    · left
      refine ⟨?_, g1, g2⟩
      cases g : T c with
      | false => rfl
      | true =>
        rw [g, bI_t] at e
        obtain ⟨v, v1, v2⟩ := sm_some (P := F c) 64 (by unfold outF at e; omega)
        rw [g2 v v1] at v2; cases v2
    · right
      refine ⟨non v g3, v, g1, g2, g3, fun v' hv' => ?_⟩
      have := (bI_01 (T c)).2
      exact sm_uniq (P := F c) 64 (by unfold outF at e; omega) v' v (Fl.1 c v' hv').2.1 g1 hv' g3
theorem rR.inn (h : rR mi z b F) (Fl : Flw (arC r) a b F T n b) (ha : a < 64) (hb : b < 64) {c : Nat} (hc : c < 64) (hcb : c ≠ b) (hT : T c = true) : ∃ u, u < 64 ∧ mi (z + 25) c = nI u ∧ F u c = true ∧ ∀ u', F u' c = true → u' = u := by
  obtain ⟨ta, f3, f4, f5⟩ := Fl.plain ha hb
  have e := f3 c hc hcb
  rw [hT, bI_t] at e
  rcases (h.2.2 c hc hcb).2 with ⟨g1, g2⟩ | ⟨u, g1, g2, g3⟩
  · obtain ⟨u, u1, u2⟩ := sm_some (P := fun u => F u c) 64 (by unfold inF at e; omega)
    rw [g2 u u1] at u2; cases u2
  · exact ⟨u, g1, g2, g3, fun u' hu' => sm_uniq (P := fun u => F u c) 64 (by unfold inF at e; omega) u' u (Fl.1 u' c hu').1 g1 hu' g3⟩
theorem in_T (Fl : Flw (arC r) a b F T n b) (ha : a < 64) (hb : b < 64) {u c : Nat} (hcb : c ≠ b) (h : F u c = true) : T c = true := by
  obtain ⟨ta, f3, f4, f5⟩ := Fl.plain ha hb
  have e := f3 c (Fl.1 u c h).2.1 hcb
  have := sm_ge (P := fun u => F u c) 64 u (Fl.1 u c h).1 h
  cases g : T c with
  | true => rfl
  | false => rw [g, bI_f] at e; unfold inF at e; omega
theorem s_goIn {c : Nat} {u v : Int32} {K : pm_I → pm_L → Prop} (tz : TX12s kd mr z) (O : okC r) (Fl : Flw (arC r) a b F T n b) (ha : a < cells r) (hb : b < cells r) (rd : rR mi z b F) (B : Bq (RZ r a b F T) (RY r a b F T) (64 + a) q m pr hd) (Q : mQ mi z a q m pr) (hm : hd < m) (hx : q hd = c) (hc : c < 64) (hcc : c < cells r) (hca : c ≠ a) (hcb : c ≠ b) (hu : u = nI c) (hv : v = nI a)
    (k9 : ∀ mi' q' m' pr', fM z mi mi' → Bq (RZ r a b F T) (RY r a b F T) (64 + a) q' m' pr' (hd + 1) → mQ mi' z a q' m' pr' → Gw q m q' m' → K mi' ml) : wV l M_X12_goIn (d + 1) [.ref z, .int u, .int v] kd mr mi ml K := by
  subst hu; subst hv
  have hw := O.w
  have root : ∀ q' m', Gw q m q' m' → ∃ j, j < m' ∧ q' j = 64 + a := fun q' m' g => g.met ⟨0, by omega, B.2.1⟩
  refine w_X12_goIn tz ⟨z_in hc (by omega), ?_⟩
  rw [z_cl (a := c) (by omega)]
  rcases rd.out Fl (by omega) (by omega) hc hca with ⟨t1, t2, t3⟩ | ⟨t1, v0, t2, t3, t4, t5⟩
  · rw [t2]
    refine ⟨fun h => absurd rfl h, fun _ => ?_⟩
    refine s_meets (x := c) (y := 64 + c) tz B Q hm hx ⟨Or.inl (Or.inr (Or.inr (Or.inl ⟨c, rfl, rfl, hc, hca, hcb, t1⟩))), by omega⟩ (by omega) (nI_64 c) rfl fun mi' q' m' pr' g1 B' Q' g2 g3 => k9 mi' q' m' pr' g1 (B'.next (by have := g2.1; omega) fun y hy => ?_) Q' g2
    rw [g2.2 hd hm, hx] at hy
    rcases hy.1 with ⟨u1, v1, e1, -⟩ | ⟨u1, v1, e1, e2, h1, h2, h3⟩ | ⟨v1, e1, e2, -⟩ | ⟨v1, e1, -⟩
    · omega
    · subst e1
      have := in_T Fl (by omega) (by omega) hcb h3
      rw [t1] at this; cases this
    · rw [e2, ← e1]; exact g3
    · omega
  · obtain ⟨u0, w1, w2, w3, w4⟩ := rd.inn Fl (by omega) (by omega) hc hcb t1
    rw [t3, w2]
    refine ⟨fun _ => ⟨z_in hc (by omega), ?_⟩, fun h => absurd h (nI_m1' (by omega))⟩
    have eua : (nI u0 = nI a) = (u0 = a) := z_eq (by omega) (by omega)
    rw [eua]
    have only : ∀ y, RY r a b F T c y → y = 64 + u0 := fun y hy => by
      rcases hy.1 with ⟨u1, v1, e1, -⟩ | ⟨u1, v1, e1, e2, h1, h2, h3⟩ | ⟨v1, e1, e2, h1, h2, h3, h4⟩ | ⟨v1, e1, -⟩
      · omega
      · subst e1; rw [e2, w4 u1 h3]
      · subst e1; rw [t1] at h4; cases h4
      · omega
    refine ⟨fun h => ?_, fun h => ⟨z_in hc (by omega), ?_⟩⟩
    · subst h
      refine k9 mi q m pr fM.rf (B.next hm fun y hy => ?_) Q Gw.rf
      rw [hx] at hy
      rw [only y hy]; exact root q m Gw.rf
    · refine s_meets (x := c) (y := 64 + u0) tz B Q hm hx ⟨Or.inl (Or.inr (Or.inl ⟨u0, c, rfl, rfl, w1, hc, w3⟩)), by have := (arC_lt O (Fl.1 u0 c w3).2.2.1).1; omega⟩ (by omega) (nI_64 u0) rfl fun mi' q' m' pr' g1 B' Q' g2 g3 => k9 mi' q' m' pr' g1 (B'.next (by have := g2.1; omega) fun y hy => ?_) Q' g2
      rw [g2.2 hd hm, hx] at hy
      rw [only y hy]; exact g3
theorem s_goOut {c : Nat} {u v : Int32} {K : pm_I → pm_L → Prop} (tz : TX12s kd mr z) (H : Hd mi z k r) (O : okC r) (Fl : Flw (arC r) a b F T n b) (ha : a < cells r) (hb : b < cells r) (rd : rR mi z b F) (B : Bq (RZ r a b F T) (RY r a b F T) (64 + a) q m pr hd) (Q : mQ mi z a q m pr) (hm : hd < m) (hx : q hd = 64 + c) (hcc : c < cells r) (hcw : wlC r c = false) (hu : u = nI c) (hv : v = nI a)
    (k9 : ∀ mi' q' m' pr', fM z mi mi' → Bq (RZ r a b F T) (RY r a b F T) (64 + a) q' m' pr' (hd + 1) → mQ mi' z a q' m' pr' → Gw q m q' m' → K mi' ml) : wV l M_X12_goOut (d + 3) [.ref z, .int u, .int v] kd mr mi ml K := by
  subst hu; subst hv
  have hw := O.w
  have hc : c < 64 := by omega
  -- the road out of c
  have road : ∀ t, t < 64 → mi (z + 24) c = nI t → F c t = true := by
    intro t ht e
    by_cases hcb : c = b
    · subst hcb; rw [rd.1] at e; exact absurd e.symm (nI_m1' (by omega))
    · rcases (rd.2.2 c hc hcb).1 with ⟨g1, -⟩ | ⟨v0, g1, g2, g3⟩
      · rw [g1] at e; exact absurd e.symm (nI_m1' (by omega))
      · rw [g2] at e
        have : (nI v0 = nI t) = (v0 = t) := z_eq (by omega) (by omega)
        rw [this] at e
        subst e; exact g3
  have loop : ∀ (s w : Nat) (mi1 : pm_I) (q1 : Nat → Nat) (m1 : Nat) (pr1 : Nat → Option Nat), w + s = 4 → fM z mi mi1 → Bq (RZ r a b F T) (RY r a b F T) (64 + a) q1 m1 pr1 hd → mQ mi1 z a q1 m1 pr1 → Gw q m q1 m1 → (∀ w', w' < w → ∀ t, fre r c w' = some t → t ≠ a → F c t = false → ∃ j, j < m1 ∧ q1 j = t) → c_X12_goOut_2 l (d + 3) kd mr z (nI c) (nI a) (nI w) mi1 ml K := by
    intro s
    induction s with
    | zero =>
      intro w mi1 q1 m1 pr1 hw4 f1 B1 Q1 G1 D1
      have : w = 4 := by omega
      subst this
      have e24 : mi1 (z + 24) = mi (z + 24) := f1.1 _ (by omega) (by omega) (by omega)
      have eca : (nI c = nI a) = (c = a) := z_eq (by omega) (by omega)
      refine w_X12_goOut_2 tz ⟨fun _ => ?_, fun g => absurd (nI_le (Nat.le_refl 4) (by omega)) g⟩
      rw [eca, z_cl (a := c) (by omega), e24]
      -- what is still to be met
      have cl : ∀ q' m', Gw q1 m1 q' m' → (T c = true → ∃ j, j < m' ∧ q' j = c) → ∀ y, RY r a b F T (64 + c) y → ∃ j, j < m' ∧ q' j = y := by
        intro q' m' G2 hT y hy
        rcases hy.1 with ⟨u1, v1, e1, e2, h1, h2, h3, h4, h5⟩ | ⟨u1, v1, e1, e2, h1, h2, h3⟩ | ⟨v1, e1, e2, h1, -⟩ | ⟨v1, e1, e2, h1, h2⟩
        · have : u1 = c := by omega
          subst this; subst e2
          obtain ⟨-, -, w', w1, w2⟩ := h3
          exact G2.met (D1 w' w1 _ w2 h4 h5)
        · omega
        · omega
        · have : v1 = c := by omega
          subst this; subst e2
          exact hT h2
      refine ⟨fun hca => ?_, fun hca => ⟨z_in hc (by omega), ?_⟩⟩
      · refine k9 mi1 q1 m1 pr1 f1 (B1.next (by have := G1.1; omega) fun y hy => cl q1 m1 Gw.rf (fun hT => ?_) y (by rw [← hx, ← G1.2 hd hm]; exact hy)) Q1 G1
        subst hca
        exact absurd rfl (Fl.2.1 _ hT).2.1
      · rcases rd.out Fl (by omega) (by omega) hc hca with ⟨t1, t2, t3⟩ | ⟨t1, v0, t2, t3, t4, t5⟩
        · rw [t2]
          refine ⟨fun _ => k9 mi1 q1 m1 pr1 f1 (B1.next (by have := G1.1; omega) fun y hy => cl q1 m1 Gw.rf (fun hT => ?_) y (by rw [← hx, ← G1.2 hd hm]; exact hy)) Q1 G1, fun h => absurd rfl h⟩
          rw [t1] at hT; cases hT
        · rw [t3]
          refine ⟨fun h => absurd h (nI_m1' (by omega)), fun _ => ?_⟩
          have hx1 : q1 hd = 64 + c := by rw [G1.2 hd hm]; exact hx
          refine s_meets (x := 64 + c) (y := c) tz B1 Q1 (by have := G1.1; omega) hx1 ⟨Or.inl (Or.inr (Or.inr (Or.inr ⟨c, rfl, rfl, hc, t1⟩))), by omega⟩ (by omega) rfl (nI_64 c) fun mi' q' m' pr' g1 B' Q' g2 g3 => k9 mi' q' m' pr' (f1.tr g1) (B'.next (by have := g2.1; have := G1.1; omega) fun y hy => ?_) Q' (G1.tr g2)
          rw [g2.2 hd (by have := G1.1; omega), hx1] at hy
          exact cl q' m' g2 (fun _ => g3) y hy
    | succ s ih =>
      intro w mi1 q1 m1 pr1 hw4 f1 B1 Q1 G1 D1
      have e24 : mi1 (z + 24) = mi (z + 24) := f1.1 _ (by omega) (by omega) (by omega)
      have H1 := H.fC f1.c
      have hx1 : q1 hd = 64 + c := by rw [G1.2 hd hm]; exact hx
      have on : ∀ (mi1 : pm_I) (q1 : Nat → Nat) (m1 : Nat) (pr1 : Nat → Option Nat), fM z mi mi1 → Bq (RZ r a b F T) (RY r a b F T) (64 + a) q1 m1 pr1 hd → mQ mi1 z a q1 m1 pr1 → Gw q m q1 m1 → (∀ w', w' < w + 1 → ∀ t, fre r c w' = some t → t ≠ a → F c t = false → ∃ j, j < m1 ∧ q1 j = t) → c_X12_goOut_48 l (d + 3) kd mr z (nI c) (nI a) (nI w) mi1 ml K := by
        intro mi1 q1 m1 pr1 f1 B1 Q1 G1 D1
        refine w_X12_goOut_48 tz ?_
        rw [nI_1]
        exact ih (w + 1) mi1 q1 m1 pr1 (by omega) f1 B1 Q1 G1 D1
      have ext : ∀ (q2 : Nat → Nat) (m2 : Nat), Gw q1 m1 q2 m2 → (∀ t, fre r c w = some t → t ≠ a → F c t = false → ∃ j, j < m2 ∧ q2 j = t) → ∀ w', w' < w + 1 → ∀ t, fre r c w' = some t → t ≠ a → F c t = false → ∃ j, j < m2 ∧ q2 j = t := by
        intro q2 m2 G2 h w' hw' t h1 h2 h3
        by_cases g : w' = w
        · subst g; exact h t h1 h2 h3
        · exact G2.met (D1 w' (by omega) t h1 h2 h3)
      refine w_X12_goOut_2 tz ⟨fun g => absurd g (nI_ge (b := 4) (by omega) (by omega)), fun _ => s_free tz H1 O rfl rfl hcc (by omega) ?_⟩
      rw [z_cl (a := c) (by omega), e24]
      cases e : fre r c w with
      | none => exact ⟨fun _ => on mi1 q1 m1 pr1 f1 B1 Q1 G1 (ext q1 m1 Gw.rf fun t h1 => by rw [e] at h1; cases h1), fun h => absurd rfl h⟩
      | some t =>
        have ht := fre_lt O hcc e
        have eta : (nI t = nI a) = (t = a) := z_eq (by omega) (by omega)
        refine ⟨fun h => absurd h (nI_m1' (by omega)), fun _ => ?_⟩
        show (nI t = nI a → _) ∧ (¬ nI t = nI a → _)
        rw [eta]
        refine ⟨fun h => on mi1 q1 m1 pr1 f1 B1 Q1 G1 (ext q1 m1 Gw.rf fun t' h1 h2 => absurd h (by rw [e] at h1; cases h1; exact h2)), fun hta => ⟨z_in hc (by omega), fun h => ?_, fun h => ?_⟩⟩
        · refine on mi1 q1 m1 pr1 f1 B1 Q1 G1 (ext q1 m1 Gw.rf fun t' h1 h2 h3 => ?_)
          rw [e] at h1; cases h1
          rw [road t (by omega) h] at h3; cases h3
        · have hRZ : RZ r a b F T (64 + c) t := by
            refine ⟨?_, by omega⟩
            cases hF : F c t with
            | false => exact Or.inl (Or.inl ⟨c, t, rfl, rfl, hc, by omega, ⟨hcc, hcw, w, by omega, e⟩, hta, hF⟩)
            | true =>
              right
              by_cases hca : c = a
              · subst hca; exact ⟨rfl, by omega, hF⟩
              · rcases rd.out Fl (by omega) (by omega) hc hca with ⟨t1, t2, t3⟩ | ⟨t1, v0, t2, t3, t4, t5⟩
                · rw [t3 t (by omega)] at hF; cases hF
                · rw [t5 t hF] at h
                  exact absurd t3 h
          refine s_meets (x := 64 + c) (y := t) tz B1 Q1 (by have := G1.1; omega) hx1 hRZ (by omega) rfl (nI_64 c) fun mi' q' m' pr' g1 B' Q' g2 g3 => on mi' q' m' pr' (f1.tr g1) B' Q' (G1.tr g2) (ext q' m' g2 fun t' h1 _ _ => ?_)
          rw [e] at h1; cases h1; exact g3
  refine w_X12_goOut tz (loop 4 0 mi q m pr rfl fM.rf B Q Gw.rf fun w' hw' => by omega)
/-- what is met is a cell's, and no wall's; the entry of a never is -/
theorem B_cell (hRZ : ∀ x y, R x y → RZ r a b F T x y) (O : okC r) (Fl : Flw (arC r) a b F T n b) (ha : a < cells r) (hb : b < cells r) (wa : wlC r a = false) (B : Bq R Rc (64 + a) q m pr hd) : ∀ j, j < m → q j % 64 < cells r ∧ wlC r (q j % 64) = false ∧ q j ≠ a := by
  have hw := O.w
  intro j
  induction j using Nat.strongRecOn with
  | ind j ih =>
    intro hj
    by_cases j0 : j = 0
    · subst j0
      rw [B.2.1, show (64 + a) % 64 = a by omega]
      exact ⟨ha, wa, by omega⟩
    · obtain ⟨i, i1, i2, i3⟩ := B.2.2.2.2.2.1 j (by omega) hj
      have i3 := hRZ _ _ i3
      obtain ⟨p1, p2, p3⟩ := ih i i1 (by omega)
      refine ⟨i3.2, ?_⟩
      have tw : ∀ v, T v = true → wlC r v = false := fun v hv => by
        obtain ⟨h1, h2, h3⟩ := Fl.2.1 v hv
        obtain ⟨-, -, f4, -⟩ := Fl.plain (by omega) (by omega)
        have e := f4 v h1 h2
        rw [hv, bI_t] at e
        obtain ⟨t, -, t2⟩ := sm_some (P := F v) 64 (by unfold outF at e; omega)
        exact (Fl.1 v t t2).2.2.1.2.1
      rcases i3.1 with (⟨u1, v1, e1, e2, h1, h2, h3, h4, h5⟩ | ⟨u1, v1, e1, e2, h1, h2, h3⟩ | ⟨v1, e1, e2, h1, h2, h3, h4⟩ | ⟨v1, e1, e2, h1, h2⟩) | ⟨e1, e2, h3⟩
      · obtain ⟨-, -, w, -, g⟩ := h3
        rw [e2, Nat.mod_eq_of_lt h2]
        exact ⟨(fre_iff.mp g).2, h4⟩
      · rw [e2, show (64 + u1) % 64 = u1 by omega]
        exact ⟨(Fl.1 u1 v1 h3).2.2.1.2.1, by omega⟩
      · rw [e2, show (64 + v1) % 64 = v1 by omega]
        rw [e1, Nat.mod_eq_of_lt h1] at p2
        exact ⟨p2, by omega⟩
      · rw [e2, Nat.mod_eq_of_lt h1]
        exact ⟨tw v1 h2, (Fl.2.1 v1 h2).2.1⟩
      · rw [Nat.mod_eq_of_lt e2]
        obtain ⟨-, -, ⟨-, -, w, -, g⟩, h4⟩ := Fl.1 a _ h3
        exact ⟨(fre_iff.mp g).2, h4⟩
theorem s_finds {u v : Int32} {K : Bool → pm_I → pm_L → Prop} (tz : TX12s kd mr z) (H : Hd mi z k r) (O : okC r) (Fl : Flw (arC r) a b F T n b) (ha : a < cells r) (hb : b < cells r) (wa : wlC r a = false) (rd : rR mi z b F) (hu : u = nI a) (hv : v = nI b)
    (kf : ∀ mi' q m pr, fM z mi mi' → Bq (RZ r a b F T) (RY r a b F T) (64 + a) q m pr m → pr b = none → K false mi' ml)
    (kt : ∀ mi' q m pr hd, fM z mi mi' → Bq (RZ r a b F T) (RY r a b F T) (64 + a) q m pr hd → mQ mi' z a q m pr → (pr b).isSome = true → K true mi' ml) : wB l M_X12_finds (d + 4) [.ref z, .int u, .int v] kd mr mi ml K := by
  subst hu; subst hv
  have hw := O.w
  have stop : ∀ (mi1 : pm_I) (q : Nat → Nat) (m : Nat) (pr : Nat → Option Nat) (hd : Nat), fM z mi mi1 → Bq (RZ r a b F T) (RY r a b F T) (64 + a) q m pr hd → mQ mi1 z a q m pr → (hd = m ∨ (pr b).isSome = true) → c_X12_finds_103 l (d + 4) kd mr z (nI b) mi1 ml K := by
    intro mi1 q m pr hd f1 B Q hor
    refine w_X12_finds_103 tz ⟨z_in (by omega) (by omega), ?_⟩
    rw [z_cl (a := b) (by omega)]
    cases e : pr b with
    | none =>
      rw [(Q.2.1 b (by omega)).1 e]
      rcases hor with h | h
      · subst h; exact kf mi1 q _ pr f1 B e
      · rw [e] at h; cases h
    | some p =>
      have : ¬ mi1 (z + 26) b = -2 := by
        rw [(Q.2.1 b (by omega)).2 p e, if_neg (by omega)]
        exact nI_m2 (by have := (B.par (by omega) e).1; omega)
      rw [decide_eq_false this]
      exact kt mi1 q m pr hd f1 B Q (by rw [e]; rfl)
  have loop : ∀ (s hd : Nat) (mi1 : pm_I) (q : Nat → Nat) (m : Nat) (pr : Nat → Option Nat), hd + s = 128 → fM z mi mi1 → Bq (RZ r a b F T) (RY r a b F T) (64 + a) q m pr hd → mQ mi1 z a q m pr → c_X12_finds_39 l (d + 4) kd mr z (nI a) (nI b) (nI hd) mi1 ml K := by
    intro s
    induction s with
    | zero =>
      intro hd mi1 q m pr hs f1 B Q
      have hm := B.le
      have h8 := B.2.2.2.2.2.2.2.1
      have : hd = m := by omega
      refine w_X12_finds_39 tz ⟨fun _ => stop mi1 q m pr hd f1 B Q (Or.inl this), fun g => absurd (by rw [Q.1]; exact nI_le (by omega) (by omega)) g⟩
    | succ s ih =>
      intro hd mi1 q m pr hs f1 B Q
      have hm := B.le
      have h8 := B.2.2.2.2.2.2.2.1
      by_cases hlt : hd < m
      · refine w_X12_finds_39 tz ⟨fun g => absurd g (by rw [Q.1]; exact nI_ge (by omega) (by omega)), fun _ => ⟨z_in (by omega) (by omega), ?_⟩⟩
        rw [z_cl (a := b) (by omega), z_cl (a := hd) (by omega), Q.2.2 hd hlt]
        cases e : pr b with
        | some p =>
          have : ¬ mi1 (z + 26) b = -2 := by
            rw [(Q.2.1 b (by omega)).2 p e, if_neg (by omega)]
            exact nI_m2 (by have := (B.par (by omega) e).1; omega)
          exact ⟨fun _ => stop mi1 q m pr hd f1 B Q (Or.inr (by rw [e]; rfl)), fun h => absurd h this⟩
        | none =>
          refine ⟨fun h => absurd ((Q.2.1 b (by omega)).1 e) h, fun _ => ⟨z_in (by omega) (by omega), ?_⟩⟩
          have q128 := B.2.2.1 hd hlt
          obtain ⟨c1, c2, c3⟩ := B_cell (fun _ _ h => h) O Fl ha hb wa B hd hlt
          have hqb : q hd ≠ b := fun g => (B.met (y := b)).mp e ⟨hd, hlt, g⟩
          have rd1 : rR mi1 z b F := by
            unfold rR at rd ⊢
            rw [f1.1 (z + 24) (by omega) (by omega) (by omega), f1.1 (z + 25) (by omega) (by omega) (by omega)]
            exact rd
          have on : ∀ (mi2 : pm_I) (q2 : Nat → Nat) (m2 : Nat) (pr2 : Nat → Option Nat), fM z mi1 mi2 → Bq (RZ r a b F T) (RY r a b F T) (64 + a) q2 m2 pr2 (hd + 1) → mQ mi2 z a q2 m2 pr2 → c_X12_finds_97 l (d + 4) kd mr z (nI a) (nI b) (nI hd) mi2 ml K := by
            intro mi2 q2 m2 pr2 f2 B2 Q2
            refine w_X12_finds_97 tz ?_
            rw [nI_1]
            exact ih (hd + 1) mi2 q2 m2 pr2 (by omega) (f1.tr f2) B2 Q2
          have e64 : (nI (q hd) < (64 : Int32)) = (q hd < 64) := z_lt (b := 64) (by omega) (by omega)
          rw [e64]
          refine ⟨fun h => ⟨z_in (by omega) (by omega), ?_⟩, fun h => ⟨z_in (by omega) (by omega), ?_⟩⟩
          · rw [Nat.mod_eq_of_lt h] at c1 c2
            exact s_goIn tz O Fl ha hb rd1 B Q hlt rfl h c1 c3 hqb rfl rfl fun mi2 q2 m2 pr2 g1 B2 Q2 _ => on mi2 q2 m2 pr2 g1 B2 Q2
          · have e1 : q hd % 64 = q hd - 64 := by omega
            rw [e1] at c1 c2
            have e2 : nI (q hd) - (64 : Int32) = nI (q hd - 64) := z_sub (b := 64) (by omega)
            exact s_goOut (c := q hd - 64) tz (H.fC f1.c) O Fl ha hb rd1 B Q hlt (by omega) c1 c2 e2 rfl fun mi2 q2 m2 pr2 g1 B2 Q2 _ => on mi2 q2 m2 pr2 g1 B2 Q2
      · exact w_X12_finds_39 tz ⟨fun _ => stop mi1 q m pr hd f1 B Q (Or.inl (by omega)), fun g => absurd (by rw [Q.1]; exact nI_le (by omega) (by omega)) g⟩
  have first : ∀ (s i : Nat) (mi1 : pm_I), i + s = 128 → fM z mi mi1 → (∀ x, x < i → mi1 (z + 26) x = -2) → c_X12_finds_2 l (d + 4) kd mr z (nI a) (nI b) (nI i) mi1 ml K := by
    intro s
    induction s with
    | zero =>
      intro i mi1 hi f1 h
      have : i = 128 := by omega
      subst this
      refine w_X12_finds_2 tz ⟨fun _ => ?_, fun g => absurd (nI_le (Nat.le_refl 128) (by omega)) g⟩
      refine w_X12_meets tz ⟨by rw [nI_64]; exact z_in (by omega) (by omega), ?_⟩
      rw [nI_64, z_cl (a := 64 + a) (by omega), pm_up_row _ _ (by omega), h _ (by omega), pm_up_s]
      refine ⟨fun g => absurd rfl g, fun _ => ⟨z_in (by omega) (by omega), z_in (a := 0) (by omega) (by omega), ?_⟩⟩
      have e0 : (0 : Int32).toNatClampNeg = 0 := by decide
      have e1 : (0 : Int32) + 1 = 1 := by decide
      rw [e0, e1]
      refine loop 128 0 _ (fun _ => 64 + a) 1 (fun x => if x = 64 + a then some 0 else none) rfl ⟨fun c g1 g2 g3 => ?_, fun c g => ?_⟩ (Bq.init (by omega)) ⟨pm_up_s _ _ _ _, fun x hx => ?_, fun j hj => ?_⟩
      · rw [pm_up_row _ _ g1, pm_up_row _ _ g3, pm_up_row _ _ g2, pm_up_row _ _ g1]; exact f1.1 c g1 g2 g3
      · rw [pm_up_j _ _ g, pm_up_row _ _ (by omega), pm_up_row _ _ (by omega), pm_up_j _ _ g]; exact f1.2 c g
      · rw [pm_up_row _ _ (by omega), pm_up_row _ _ (by omega)]
        dsimp only
        by_cases g : x = 64 + a
        · subst g
          rw [pm_up_s, if_pos rfl]
          exact ⟨fun h => (by cases h), fun p _ => by rw [if_pos rfl]⟩
        · rw [pm_up_j _ _ g, if_neg g, pm_up_row _ _ (by omega)]
          exact ⟨fun _ => h x hx, fun p hp => by cases hp⟩
      · have : j = 0 := by omega
        subst this
        rw [pm_up_row _ _ (by omega), pm_up_s]
    | succ s ih =>
      intro i mi1 hi f1 h
      refine w_X12_finds_2 tz ⟨fun g => absurd g (nI_ge (b := 128) (by omega) (by omega)), fun _ => ⟨z_in (by omega) (by omega), ?_⟩⟩
      rw [z_cl (a := i) (by omega), nI_1]
      refine ih (i + 1) _ (by omega) ⟨fun c g1 g2 g3 => (pm_up_row _ _ g2).trans (f1.1 c g1 g2 g3), fun c g => (pm_up_k _ _ (by omega)).trans (f1.2 c g)⟩ fun x hx => ?_
      by_cases g : x = i
      · subst g; exact pm_up_s _ _ _ _
      · rw [pm_up_j _ _ g]; exact h x (by omega)
  exact w_X12_finds tz (first 128 0 mi rfl fM.rf fun x hx => by omega)
end CRZ
